def wsX8_rest : List Cond := .code yX8_rest cX8_rest 5 (some .int) :: W0
abbrev wX8_rest (cy : Nat → ClassId) (aN : Nat) (qN : Nat → Nat) (aH : Nat) (qH : Nat → Nat) (vN : Nat → Int32) (vH : Nat → Int32) : va_W := [(aN, oX8 vN qN aH), (aH, oX4 vH qH)]
set_option maxHeartbeats 4000000 in
set_option maxRecDepth 100000 in
theorem kX8_rest (l : Launch) (D : va_G) (cy : Nat → ClassId) (sz : Nat) (aN : Nat) (qN : Nat → Nat) (aH : Nat) (qH : Nat → Nat) (vN : Nat → Int32) (vH : Nat → Int32) (x1 : Int32) (zr : Int32) (z_vN : Nat → Int32) (hok : fX8_rest vN vH x1 = some (zr, z_vN)) (A : Nat → Prop) (hAe : va_A (wX8_rest cy aN qN aH qH vN vH) sz = A) : Met l yX8_rest wsX8_rest ({ frames := 2, cells := 0, slots := 0, locals := 48 } : Room) (kPre D cy [.ref aN, .int x1] (wX8_rest cy aN qN aH qH vN vH) sz) (kQi D cy zr A (wX8_rest cy aN qN aH qH z_vN vH)) 0 0 A := by
  refine Met.ofW (cc := cX8_rest) (maxL := 5) (ret := (some .int)) (by decide) rfl ?_
  intro p e s m args below meth c s₁ B hml hv
  obtain ⟨rfl, hsz, hP, hK, hD0, hN⟩ := hv
  have hx := B.exec
  have hb := B.bytes
  have hr := B.returns
  have ht0 : ∀ w ∈ W0, w.before _ s = true := fun w h => atoms_spec (ws := wsX8_rest) B.pre w (List.mem_cons_of_mem _ h)
  have hown : s.vm.findClass RX8 = some m.cls := findClass_of_methodNamed B.named
  have hlocks := B.notSynchronized
  subst hsz
  have hD : va_D A (wX8_rest cy aN qN aH qH vN vH) := by rw [← hAe]; exact hD0.self
  have hA : ∀ q : Nat, s.heap.size ≤ q → A q := fun q h => by rw [← hAe]; exact Or.inr h
  have hS : va_S A s.heap s.heap [] := va_S.rf
  have hl := lv_entry ([.ref aN, .int x1]) (n := 5) (Nat.le_of_ble_eq_true rfl)
  rw [lg_entry_eq]
  generalize (lg_sl ([.ref aN, .int x1]) ++ List.replicate (5 - (lg_sl ([.ref aN, .int x1])).length) Slot.unset).toArray = ls at hl ⊢
  have hl : lv_has ls 5 [(0, .ref aN), (1, .int x1)] := hl
  generalize hQe : MQ below (kQi D cy zr A (wX8_rest cy aN qN aH qH z_vN vH)) ([.ref aN, .int x1] : List Value).toArray s 0 0 A = Q
  have L18 : ∀ (fuel : Nat) (y3_18 : Int32), ∀ (H : Heap) (locs : List Loc) (ls : Array Slot), va_P D vwCl (wX8_rest cy aN qN aH qH vN vH) H → va_D A (wX8_rest cy aN qN aH qH vN vH) → va_S A s.heap H locs → lv_has ls 5 [(0, .ref aN), (1, .int x1), (3, .int y3_18)] → lp (fX8_rest_B18 vN x1) fuel y3_18 = some (zr, z_vN) → W p l e ({ frames := 2, cells := 0, slots := 0, locals := 48 } : Room) s m ([.ref aN, .int x1] : List Value).toArray below meth c H locs 0 0 Q (F0 m 18 ls []) := by
    intro fuel
    induction fuel with
    | zero => intro y3_18 H locs ls hP hD hS hl hok; exact (lp_0 hok).elim
    | succ fuel ih18 =>
      intro y3_18 H locs ls hP hD hS hl hok
      obtain ⟨y18, hok, hL18, hR18⟩ := lp_step hok
      have L27 : ∀ (fuel : Nat) (y4_27 : Int32), ∀ (H : Heap) (locs : List Loc) (ls : Array Slot), va_P D vwCl (wX8_rest cy aN qN aH qH vN vH) H → va_D A (wX8_rest cy aN qN aH qH vN vH) → va_S A s.heap H locs → lv_has ls 5 [(0, .ref aN), (1, .int x1), (3, .int y3_18), (4, .int y4_27)] → lp (fX8_rest_B27 vN x1 y3_18) fuel y4_27 = some y18 → W p l e ({ frames := 2, cells := 0, slots := 0, locals := 48 } : Room) s m ([.ref aN, .int x1] : List Value).toArray below meth c H locs 0 0 Q (F0 m 27 ls []) := by
        intro fuel
        induction fuel with
        | zero => intro y4_27 H locs ls hP hD hS hl hok; exact (lp_0 hok).elim
        | succ fuel ih27 =>
          intro y4_27 H locs ls hP hD hS hl hok
          obtain ⟨y27, hok, hL27, hR27⟩ := lp_step hok
          unfold fX8_rest_B27 at hok
          refine lv_iload hx hb dX8_rest_27 (lv_at hl 3 rfl) ?_
          refine lv_bipush (v := 6) hx hb dX8_rest_29 (by decide) ?_
          refine lv_icmp_gt (tgt := 62) hx hb dX8_rest_31 (by decide) (fun c31 => ?_) (fun c31 => ?_)
          · have hok := k_pos c31 hok
            obtain ⟨e27, hok, he27⟩ := ex_some hok
            have hok := hok.trans (congrArg some (hL27 _ he27))
            refine lv_iinc (v := (y3_18 + 1)) (lv' := [(3, .int (y3_18 + 1)), (0, .ref aN), (1, .int x1), (4, .int y4_27)]) hx hb dX8_rest_62 hl (k := 2) rfl (by first | rfl | decide) (by decide) rfl (fun ls hl => ?_)
            refine lv_goto (tgt := 18) hx hb dX8_rest_65 (by decide) ?_
            exact ih18 (y3_18 + 1) H locs ls hP hD hS (lv_sub hl [1, 2, 0] rfl) (hR18 _ (Option.some.inj hok).symm)
          · have hok := k_neg c31 hok
            refine lv_iload_n hx hb dX8_rest_34 rfl (lv_at hl 1 rfl) ?_
            refine lv_iload_n hx hb dX8_rest_35 rfl (lv_at hl 2 rfl) ?_
            refine lv_iload hx hb dX8_rest_36 (lv_at hl 3 rfl) ?_
            obtain ⟨r38, hc38, hok⟩ := k_bind hok
            refine kCi (wc := (wX2_areAtRest cy )) (wc2 := (wX2_areAtRest cy )) (wr := [(aN, oX8 vN qN aH), (aH, oX4 vH qH)]) (ws2 := (wX8_rest cy aN qN aH qH vN vH)) (kRunS (As := [.int x1, .int y3_18, .int y4_27]) (rest := []) ⟨hx, hb, hml, hown, ht0⟩ (kX2_areAtRest l D cy _ x1 y3_18 y4_27 r38 hc38 _ rfl) (va_cwS 3 ht0 (gS wd669 wd670 wd68 wd671) rfl rfl rfl (by decide +kernel) ⟨Nat.le_of_ble_eq_true rfl, Nat.le_of_ble_eq_true rfl⟩) hK hN hP hD [] rfl (by decide) rfl hl.1 rfl (Nat.le_of_ble_eq_true rfl) dX8_rest_38 ⟨Nat.zero_le _, Nat.zero_le _⟩) hP hD hS hA [] [0, 1] rfl rfl (by decide) (by decide) [0, 1] (by decide) rfl rfl (fun H locs hP hD hS => ?_)
            refine lv_if_eq (tgt := 56) hx hb dX8_rest_41 (by decide) (fun c41 => ?_) (fun c41 => ?_)
            · have hok := k_pos c41 hok
              refine lv_iinc (v := (y4_27 + 1)) (lv' := [(4, .int (y4_27 + 1)), (0, .ref aN), (1, .int x1), (3, .int y3_18)]) hx hb dX8_rest_56 hl (k := 3) rfl (by first | rfl | decide) (by decide) rfl (fun ls hl => ?_)
              refine lv_goto (tgt := 27) hx hb dX8_rest_59 (by decide) ?_
              exact ih27 (y4_27 + 1) H locs ls hP hD hS (lv_sub hl [1, 2, 3, 0] rfl) (hR27 _ (Option.some.inj hok).symm)
            · have hok := k_neg c41 hok
              obtain ⟨e27, hok, he27⟩ := ex_some hok
              have hok := hok.trans (congrArg some (hL27 _ he27))
              obtain ⟨e18, hok, he18⟩ := ex_some hok
              have hok := hok.trans (congrArg some (hL18 _ he18))
              refine lv_aload_n hx hb dX8_rest_44 rfl (lv_at hl 0 rfl) ?_
              refine lv_bipush (v := 10) hx hb dX8_rest_45 (by decide) ?_
              refine lv_iload_n hx hb dX8_rest_47 rfl (lv_at hl 2 rfl) ?_
              refine lv_imul hx hb dX8_rest_48 ?_
              refine lv_iload hx hb dX8_rest_49 (lv_at hl 3 rfl) ?_
              refine lv_iadd hx hb dX8_rest_51 ?_
              obtain ⟨⟨r52, vN_52⟩, hc52, hok⟩ := k_bind hok
              try dsimp only at hok
              refine kCi (wc := (wX8_answer cy aN qN aH vN)) (wc2 := (wX8_answer cy aN qN aH vN_52)) (wr := [(aH, oX4 vH qH)]) (ws2 := (wX8_rest cy aN qN aH qH vN_52 vH)) (kRunV (As := [.int (((10 : Int32) * y3_18) + y4_27)]) (rest := []) ⟨hx, hb, hml, hown, ht0⟩ (kX8_answer l D cy _ aN qN aH vN (((10 : Int32) * y3_18) + y4_27) r52 vN_52 hc52 _ rfl) (cwV 1 ht0 (gV wd538 wd539 wd540 wd57 wd541) rfl rfl rfl (by decide +kernel) ⟨Nat.le_of_ble_eq_true rfl, Nat.le_of_ble_eq_true rfl⟩) hK hN hP hD [0] rfl (by decide) 0 7 rfl rfl rfl hl.1 rfl (Nat.le_of_ble_eq_true rfl) dX8_rest_52 ⟨Nat.zero_le _, Nat.zero_le _⟩) hP hD hS hA [0] [1] rfl rfl (by decide) (by decide) [1, 0] (by decide) rfl rfl (fun H locs hP hD hS => ?_)
              cases hok
              subst hQe; exact W.iret hx hb hr (fun t ht hW => ⟨⟨_, (), rfl, rfl, by rw [ht]; exact hP, va_K.moved hW.alike hK, hD⟩, hS.F ht⟩) hS.2.2 dX8_rest_55
      unfold fX8_rest_B18 at hok
      refine lv_iload_n hx hb dX8_rest_18 rfl (lv_at hl 2 rfl) ?_
      refine lv_bipush (v := 6) hx hb dX8_rest_19 (by decide) ?_
      refine lv_icmp_gt (tgt := 68) hx hb dX8_rest_21 (by decide) (fun c21 => ?_) (fun c21 => ?_)
      · have hok := k_pos c21 hok
        obtain ⟨e18, hok, he18⟩ := ex_some hok
        have hok := hok.trans (congrArg some (hL18 _ he18))
        refine lv_aload_n hx hb dX8_rest_68 rfl (lv_at hl 0 rfl) ?_
        refine lv_bipush (v := -2) hx hb dX8_rest_69 (by decide) ?_
        obtain ⟨⟨r71, vN_71⟩, hc71, hok⟩ := k_bind hok
        try dsimp only at hok
        refine kCi (wc := (wX8_answer cy aN qN aH vN)) (wc2 := (wX8_answer cy aN qN aH vN_71)) (wr := [(aH, oX4 vH qH)]) (ws2 := (wX8_rest cy aN qN aH qH vN_71 vH)) (kRunV (As := [.int (-2)]) (rest := []) ⟨hx, hb, hml, hown, ht0⟩ (kX8_answer l D cy _ aN qN aH vN (-2 : Int32) r71 vN_71 hc71 _ rfl) (cwV 1 ht0 (gV wd538 wd539 wd540 wd57 wd541) rfl rfl rfl (by decide +kernel) ⟨Nat.le_of_ble_eq_true rfl, Nat.le_of_ble_eq_true rfl⟩) hK hN hP hD [0] rfl (by decide) 0 7 rfl rfl rfl hl.1 rfl (Nat.le_of_ble_eq_true rfl) dX8_rest_71 ⟨Nat.zero_le _, Nat.zero_le _⟩) hP hD hS hA [0] [1] rfl rfl (by decide) (by decide) [1, 0] (by decide) rfl rfl (fun H locs hP hD hS => ?_)
        cases hok
        subst hQe; exact W.iret hx hb hr (fun t ht hW => ⟨⟨_, (), rfl, rfl, by rw [ht]; exact hP, va_K.moved hW.alike hK, hD⟩, hS.F ht⟩) hS.2.2 dX8_rest_74
      · have hok := k_neg c21 hok
        refine lv_iconst (v := 0) hx hb dX8_rest_24 (by decide) ?_
        refine lv_istore (lv' := [(4, .int 0), (0, .ref aN), (1, .int x1), (3, .int y3_18)]) hx hb dX8_rest_25 hl (by decide) rfl (fun ls hl => ?_)
        exact L27 5000 (0 : Int32) H locs ls hP hD hS (lv_sub hl [1, 2, 3, 0] rfl) hok
  unfold fX8_rest at hok
  obtain ⟨H, hH⟩ : ∃ H, H = s.heap := ⟨_, rfl⟩
  obtain ⟨locs, hlc⟩ : ∃ x : List Loc, x = [] := ⟨_, rfl⟩
  have hP : va_P D vwCl (wX8_rest cy aN qN aH qH vN vH) H := by rw [hH]; exact hP
  have hS : va_S A s.heap H locs := by rw [hH, hlc]; exact hS
  rw [show W p l e _ s m _ below meth c s.heap [] = W p l e _ s m _ below meth c H locs from by rw [hH, hlc]]
  refine lv_aload_n hx hb dX8_rest_0 rfl (lv_at hl 0 rfl) ?_
  refine lv_iload_n hx hb dX8_rest_1 rfl (lv_at hl 1 rfl) ?_
  obtain ⟨r2, hc2, hok⟩ := k_bind hok
  refine kCi (wc := (wX8_whyNoHeirs cy aN qN aH qH vN vH)) (wc2 := (wX8_whyNoHeirs cy aN qN aH qH vN vH)) (wr := []) (ws2 := (wX8_rest cy aN qN aH qH vN vH)) (kRunV (As := [.int x1]) (rest := []) ⟨hx, hb, hml, hown, ht0⟩ (kX8_whyNoHeirs l D cy _ aN qN aH qH vN vH x1 r2 hc2 _ rfl) (cwV 1 ht0 (gV wd665 wd666 wd667 wd57 wd668) rfl rfl rfl (by decide +kernel) ⟨Nat.le_of_ble_eq_true rfl, Nat.le_of_ble_eq_true rfl⟩) hK hN hP hD [0, 1] rfl (by decide) 0 7 rfl rfl rfl hl.1 rfl (Nat.le_of_ble_eq_true rfl) dX8_rest_2 ⟨Nat.zero_le _, Nat.zero_le _⟩) hP hD hS hA [0, 1] [] rfl rfl (by decide) (by decide) [0, 1] (by decide) rfl rfl (fun H locs hP hD hS => ?_)
  refine lv_istore_n (lv' := [(2, .int r2), (0, .ref aN), (1, .int x1)]) hx hb dX8_rest_5 rfl hl (by decide) rfl (fun ls hl => ?_)
  refine lv_iload_n hx hb dX8_rest_6 rfl (lv_at hl 0 rfl) ?_
  refine lv_if_eq (tgt := 16) hx hb dX8_rest_7 (by decide) (fun c7 => ?_) (fun c7 => ?_)
  · have hok := k_pos c7 hok
    refine lv_iconst (v := 0) hx hb dX8_rest_16 (by decide) ?_
    refine lv_istore_n (lv' := [(3, .int 0), (2, .int r2), (0, .ref aN), (1, .int x1)]) hx hb dX8_rest_17 rfl hl (by decide) rfl (fun ls hl => ?_)
    exact L18 5000 (0 : Int32) H locs ls hP hD hS (lv_sub hl [2, 3, 0] rfl) hok
  · have hok := k_neg c7 hok
    refine lv_aload_n hx hb dX8_rest_10 rfl (lv_at hl 1 rfl) ?_
    refine lv_iload_n hx hb dX8_rest_11 rfl (lv_at hl 0 rfl) ?_
    obtain ⟨⟨r12, vN_12⟩, hc12, hok⟩ := k_bind hok
    try dsimp only at hok
    refine kCi (wc := (wX8_refuse cy aN qN aH vN)) (wc2 := (wX8_refuse cy aN qN aH vN_12)) (wr := [(aH, oX4 vH qH)]) (ws2 := (wX8_rest cy aN qN aH qH vN_12 vH)) (kRunV (As := [.int r2]) (rest := []) ⟨hx, hb, hml, hown, ht0⟩ (kX8_refuse l D cy _ aN qN aH vN r2 r12 vN_12 hc12 _ rfl) (cwV 1 ht0 (gV wd504 wd505 wd506 wd57 wd507) rfl rfl rfl (by decide +kernel) ⟨Nat.le_of_ble_eq_true rfl, Nat.le_of_ble_eq_true rfl⟩) hK hN hP hD [0] rfl (by decide) 0 7 rfl rfl rfl hl.1 rfl (Nat.le_of_ble_eq_true rfl) dX8_rest_12 ⟨Nat.zero_le _, Nat.zero_le _⟩) hP hD hS hA [0] [1] rfl rfl (by decide) (by decide) [1, 0] (by decide) rfl rfl (fun H locs hP hD hS => ?_)
    cases hok
    subst hQe; exact W.iret hx hb hr (fun t ht hW => ⟨⟨_, (), rfl, rfl, by rw [ht]; exact hP, va_K.moved hW.alike hK, hD⟩, hS.F ht⟩) hS.2.2 dX8_rest_15
def wsX8_areDampNumbers : List Cond := .code yX8_areDampNumbers cX8_areDampNumbers 2 (some .boolean) :: W0
abbrev wX8_areDampNumbers (cy : Nat → ClassId)  : va_W := []
set_option maxHeartbeats 4000000 in
set_option maxRecDepth 100000 in
theorem kX8_areDampNumbers (l : Launch) (D : va_G) (cy : Nat → ClassId) (sz : Nat) (x0 : Int32) (x1 : Int32) (zr : Int32) (hok : fX8_areDampNumbers x0 x1 = some zr) (A : Nat → Prop) (hAe : va_A (wX8_areDampNumbers cy ) sz = A) : Met l yX8_areDampNumbers wsX8_areDampNumbers ({ frames := 0, cells := 0, slots := 0, locals := 0 } : Room) (kPre D cy [.int x0, .int x1] (wX8_areDampNumbers cy ) sz) (kQi D cy zr A (wX8_areDampNumbers cy )) 0 0 A := by
  refine Met.ofW (cc := cX8_areDampNumbers) (maxL := 2) (ret := (some .boolean)) (by decide) rfl ?_
  intro p e s m args below meth c s₁ B hml hv
  obtain ⟨rfl, hsz, hP, hK, hD0, hN⟩ := hv
  have hx := B.exec
  have hb := B.bytes
  have hr := B.returns
  have ht0 : ∀ w ∈ W0, w.before _ s = true := fun w h => atoms_spec (ws := wsX8_areDampNumbers) B.pre w (List.mem_cons_of_mem _ h)
  have hown : s.vm.findClass RX8 = some m.cls := findClass_of_methodNamed B.named
  have hlocks := B.notSynchronized
  subst hsz
  have hD : va_D A (wX8_areDampNumbers cy ) := by rw [← hAe]; exact hD0.self
  have hA : ∀ q : Nat, s.heap.size ≤ q → A q := fun q h => by rw [← hAe]; exact Or.inr h
  have hS : va_S A s.heap s.heap [] := va_S.rf
  have hl := lv_entry ([.int x0, .int x1]) (n := 2) (Nat.le_of_ble_eq_true rfl)
  rw [lg_entry_eq]
  generalize (lg_sl ([.int x0, .int x1]) ++ List.replicate (2 - (lg_sl ([.int x0, .int x1])).length) Slot.unset).toArray = ls at hl ⊢
  have hl : lv_has ls 2 [(0, .int x0), (1, .int x1)] := hl
  generalize hQe : MQ below (kQi D cy zr A (wX8_areDampNumbers cy )) ([.int x0, .int x1] : List Value).toArray s 0 0 A = Q
  have J26 : ∀ (t0_26 : Int32), ∀ (H : Heap) (locs : List Loc) (ls : Array Slot), va_P D vwCl (wX8_areDampNumbers cy ) H → va_D A (wX8_areDampNumbers cy ) → va_S A s.heap H locs → lv_has ls 2 [] → fX8_areDampNumbers_J26 t0_26 = some zr → W p l e ({ frames := 0, cells := 0, slots := 0, locals := 0 } : Room) s m ([.int x0, .int x1] : List Value).toArray below meth c H locs 0 0 Q (F0 m 26 ls [.int t0_26]) := by
    intro t0_26 H locs ls hP hD hS hl hok
    unfold fX8_areDampNumbers_J26 at hok
    obtain ⟨g26, hok⟩ := gd_some hok
    cases hok
    subst hQe; exact W.zret hx hb hr (isB_nar g26) (fun t ht hW => ⟨⟨_, (), rfl, rfl, by rw [ht]; exact hP, va_K.moved hW.alike hK, hD⟩, hS.F ht⟩) hS.2.2 dX8_areDampNumbers_26
  have J25 : ∀ (H : Heap) (locs : List Loc) (ls : Array Slot), va_P D vwCl (wX8_areDampNumbers cy ) H → va_D A (wX8_areDampNumbers cy ) → va_S A s.heap H locs → lv_has ls 2 [] → fX8_areDampNumbers_J25 = some zr → W p l e ({ frames := 0, cells := 0, slots := 0, locals := 0 } : Room) s m ([.int x0, .int x1] : List Value).toArray below meth c H locs 0 0 Q (F0 m 25 ls []) := by
    intro  H locs ls hP hD hS hl hok
    unfold fX8_areDampNumbers_J25 at hok
    refine lv_iconst (v := 0) hx hb dX8_areDampNumbers_25 (by decide) ?_
    exact J26 (0 : Int32) H locs ls hP hD hS (lv_sub hl [] rfl) hok
  unfold fX8_areDampNumbers at hok
  obtain ⟨H, hH⟩ : ∃ H, H = s.heap := ⟨_, rfl⟩
  obtain ⟨locs, hlc⟩ : ∃ x : List Loc, x = [] := ⟨_, rfl⟩
  have hP : va_P D vwCl (wX8_areDampNumbers cy ) H := by rw [hH]; exact hP
  have hS : va_S A s.heap H locs := by rw [hH, hlc]; exact hS
  rw [show W p l e _ s m _ below meth c s.heap [] = W p l e _ s m _ below meth c H locs from by rw [hH, hlc]]
  refine lv_iload_n hx hb dX8_areDampNumbers_0 rfl (lv_at hl 0 rfl) ?_
  refine lv_if_lt (tgt := 25) hx hb dX8_areDampNumbers_1 (by decide) (fun c1 => ?_) (fun c1 => ?_)
  · have hok := k_pos c1 hok
    exact J25  H locs ls hP hD hS (lv_sub hl [] rfl) hok
  · have hok := k_neg c1 hok
    refine lv_iload_n hx hb dX8_areDampNumbers_4 rfl (lv_at hl 0 rfl) ?_
    refine lv_ldcw (v := 65536) hx hb hown (ht0 _ wd672) dX8_areDampNumbers_5 ?_
    refine lv_icmp_gt (tgt := 25) hx hb dX8_areDampNumbers_8 (by decide) (fun c8 => ?_) (fun c8 => ?_)
    · have hok := k_pos c8 hok
      exact J25  H locs ls hP hD hS (lv_sub hl [] rfl) hok
    · have hok := k_neg c8 hok
      refine lv_iload_n hx hb dX8_areDampNumbers_11 rfl (lv_at hl 1 rfl) ?_
      refine lv_if_lt (tgt := 25) hx hb dX8_areDampNumbers_12 (by decide) (fun c12 => ?_) (fun c12 => ?_)
      · have hok := k_pos c12 hok
        exact J25  H locs ls hP hD hS (lv_sub hl [] rfl) hok
      · have hok := k_neg c12 hok
        refine lv_iload_n hx hb dX8_areDampNumbers_15 rfl (lv_at hl 1 rfl) ?_
        refine lv_bipush (v := 60) hx hb dX8_areDampNumbers_16 (by decide) ?_
        refine lv_icmp_gt (tgt := 25) hx hb dX8_areDampNumbers_18 (by decide) (fun c18 => ?_) (fun c18 => ?_)
        · have hok := k_pos c18 hok
          exact J25  H locs ls hP hD hS (lv_sub hl [] rfl) hok
        · have hok := k_neg c18 hok
          refine lv_iconst (v := 1) hx hb dX8_areDampNumbers_21 (by decide) ?_
          refine lv_goto (tgt := 26) hx hb dX8_areDampNumbers_22 (by decide) ?_
          exact J26 (1 : Int32) H locs ls hP hD hS (lv_sub hl [] rfl) hok
def wsX8_damp : List Cond := .code yX8_damp cX8_damp 5 (some .int) :: W0
abbrev wX8_damp (cy : Nat → ClassId) (aN : Nat) (qN : Nat → Nat) (aH : Nat) (qH : Nat → Nat) (qW : Nat → Nat) (aH0 : Nat) (qD : Nat → Nat) (vN : Nat → Int32) (vH : Nat → Int32) (vW : Nat → Int32) (vD : Nat → Int32) (vD_now : Nat → Int32) (vW_who : Nat → Int32) (vH_kinds : Nat → Int32) (vW_cells : Nat → Int32) (vH_sorts : Nat → Int32) (vH_next : Nat → Int32) (vW_inFront : Nat → Int32) (vH_sizes : Nat → Int32) (vH_width : Nat → Int32) : va_W := [(aN, oX8 vN qN aH), (aH, oX4 vH qH), (qN 2, oX6 vW qW aH0), (qN 1, oX1 vD qD), (qD 0, rI cy 9 vD_now), (qW 1, rI cy 36 vW_who), (qH 14, rI cy 7 vH_kinds), (qW 0, rI cy 7 vW_cells), (qH 8, rI cy 4 vH_sorts), (qH 10, rI cy 36 vH_next), (qW 2, rI cy 7 vW_inFront), (qH 15, rI cy 7 vH_sizes), (qH 11, rI cy 36 vH_width)]
set_option maxHeartbeats 4000000 in
set_option maxRecDepth 100000 in
theorem kX8_damp (l : Launch) (D : va_G) (cy : Nat → ClassId) (sz : Nat) (aN : Nat) (qN : Nat → Nat) (aH : Nat) (qH : Nat → Nat) (qW : Nat → Nat) (aH0 : Nat) (qD : Nat → Nat) (vN : Nat → Int32) (vH : Nat → Int32) (vW : Nat → Int32) (vD : Nat → Int32) (vD_now : Nat → Int32) (vW_who : Nat → Int32) (vH_kinds : Nat → Int32) (vW_cells : Nat → Int32) (vH_sorts : Nat → Int32) (vH_next : Nat → Int32) (vW_inFront : Nat → Int32) (vH_sizes : Nat → Int32) (vH_width : Nat → Int32) (x1 : Int32) (x2 : Int32) (x3 : Int32) (zr : Int32) (z_vN : Nat → Int32) (z_vW : Nat → Int32) (z_vW_who : Nat → Int32) (z_vW_cells : Nat → Int32) (z_vW_inFront : Nat → Int32) (z_aH0 : Nat) (hok : fX8_damp aH aH0 vN vH vW vD vD_now vW_who vH_kinds vW_cells vH_sorts vH_next vW_inFront vH_sizes vH_width x1 x2 x3 = some (zr, z_vN, z_vW, z_vW_who, z_vW_cells, z_vW_inFront, z_aH0)) (A : Nat → Prop) (hAe : va_A (wX8_damp cy aN qN aH qH qW aH0 qD vN vH vW vD vD_now vW_who vH_kinds vW_cells vH_sorts vH_next vW_inFront vH_sizes vH_width) sz = A) : Met l yX8_damp wsX8_damp ({ frames := 4, cells := 0, slots := 0, locals := 95 } : Room) (kPre D cy [.ref aN, .int x1, .int x2, .int x3] (wX8_damp cy aN qN aH qH qW aH0 qD vN vH vW vD vD_now vW_who vH_kinds vW_cells vH_sorts vH_next vW_inFront vH_sizes vH_width) sz) (kQi D cy zr A (wX8_damp cy aN qN aH qH qW z_aH0 qD z_vN vH z_vW vD vD_now z_vW_who vH_kinds z_vW_cells vH_sorts vH_next z_vW_inFront vH_sizes vH_width)) 0 0 A := by
  refine Met.ofW (cc := cX8_damp) (maxL := 5) (ret := (some .int)) (by decide) rfl ?_
  intro p e s m args below meth c s₁ B hml hv
  obtain ⟨rfl, hsz, hP, hK, hD0, hN⟩ := hv
  have hx := B.exec
  have hb := B.bytes
  have hr := B.returns
  have ht0 : ∀ w ∈ W0, w.before _ s = true := fun w h => atoms_spec (ws := wsX8_damp) B.pre w (List.mem_cons_of_mem _ h)
  have hown : s.vm.findClass RX8 = some m.cls := findClass_of_methodNamed B.named
  have hlocks := B.notSynchronized
  subst hsz
  have hD : va_D A (wX8_damp cy aN qN aH qH qW aH0 qD vN vH vW vD vD_now vW_who vH_kinds vW_cells vH_sorts vH_next vW_inFront vH_sizes vH_width) := by rw [← hAe]; exact hD0.self
  have hA : ∀ q : Nat, s.heap.size ≤ q → A q := fun q h => by rw [← hAe]; exact Or.inr h
  have hS : va_S A s.heap s.heap [] := va_S.rf
  have hl := lv_entry ([.ref aN, .int x1, .int x2, .int x3]) (n := 5) (Nat.le_of_ble_eq_true rfl)
  rw [lg_entry_eq]
  generalize (lg_sl ([.ref aN, .int x1, .int x2, .int x3]) ++ List.replicate (5 - (lg_sl ([.ref aN, .int x1, .int x2, .int x3])).length) Slot.unset).toArray = ls at hl ⊢
  have hl : lv_has ls 5 [(0, .ref aN), (1, .int x1), (2, .int x2), (3, .int x3)] := hl
  generalize hQe : MQ below (kQi D cy zr A (wX8_damp cy aN qN aH qH qW z_aH0 qD z_vN vH z_vW vD vD_now z_vW_who vH_kinds z_vW_cells vH_sorts vH_next z_vW_inFront vH_sizes vH_width)) ([.ref aN, .int x1, .int x2, .int x3] : List Value).toArray s 0 0 A = Q
  have L58 : ∀ (fuel : Nat) (y4_58 : Int32) (vW_cells_58 : Nat → Int32) (vW_inFront_58 : Nat → Int32) (vW_who_58 : Nat → Int32) (vW_58 : Nat → Int32), ∀ (H : Heap) (locs : List Loc) (ls : Array Slot), va_P D vwCl (wX8_damp cy aN qN aH qH qW aH qD vN vH vW_58 vD vD_now vW_who_58 vH_kinds vW_cells_58 vH_sorts vH_next vW_inFront_58 vH_sizes vH_width) H → va_D A (wX8_damp cy aN qN aH qH qW aH qD vN vH vW_58 vD vD_now vW_who_58 vH_kinds vW_cells_58 vH_sorts vH_next vW_inFront_58 vH_sizes vH_width) → va_S A s.heap H locs → lv_has ls 5 [(0, .ref aN), (1, .int x1), (3, .int x3), (4, .int y4_58)] → lp (fX8_damp_B58 aH vN vH vH_kinds vH_next vH_sizes vH_width x1 x3) fuel (y4_58, vW_cells_58, vW_inFront_58, vW_who_58, vW_58) = some (zr, z_vN, z_vW, z_vW_who, z_vW_cells, z_vW_inFront, z_aH0) → W p l e ({ frames := 4, cells := 0, slots := 0, locals := 95 } : Room) s m ([.ref aN, .int x1, .int x2, .int x3] : List Value).toArray below meth c H locs 0 0 Q (F0 m 58 ls []) := by
    intro fuel
    induction fuel with
    | zero => intro y4_58 vW_cells_58 vW_inFront_58 vW_who_58 vW_58 H locs ls hP hD hS hl hok; exact (lp_0 hok).elim
    | succ fuel ih58 =>
      intro y4_58 vW_cells_58 vW_inFront_58 vW_who_58 vW_58 H locs ls hP hD hS hl hok
      obtain ⟨y58, hok, hL58, hR58⟩ := lp_step hok
      unfold fX8_damp_B58 at hok
      try dsimp only at hok
      refine lv_iload hx hb dX8_damp_58 (lv_at hl 3 rfl) ?_
      refine lv_iload_n hx hb dX8_damp_60 rfl (lv_at hl 2 rfl) ?_
      refine lv_icmp_gt (tgt := 77) hx hb dX8_damp_61 (by decide) (fun c61 => ?_) (fun c61 => ?_)
      · have hok := k_pos c61 hok
        obtain ⟨e58, hok, he58⟩ := ex_some hok
        have hok := hok.trans (congrArg some (hL58 _ he58))
        refine lv_aload_n hx hb dX8_damp_77 rfl (lv_at hl 0 rfl) ?_
        refine lv_aload_n hx hb dX8_damp_78 rfl (lv_at hl 0 rfl) ?_
        refine va_get (D := D) (ci := 7) (v := .ref (qN 2)) (C := RX8) (T := TX8) (N := 9) hx hb ht0 niX8 hown hK hP 0 rfl rfl 2 (by decide) (ht0 _ wd578) (fun _ h9 => h9) rfl dX8_damp_79 ?_
        refine lv_iload_n hx hb dX8_damp_82 rfl (lv_at hl 1 rfl) ?_
        obtain ⟨r83, hc83, hok⟩ := k_bind hok
        refine kCi (wc := (wX6_cellOf cy (qN 2) qW aH vW_58 vW_cells_58)) (wc2 := (wX6_cellOf cy (qN 2) qW aH vW_58 vW_cells_58)) (wr := [(aN, oX8 vN qN aH), (aH, oX4 vH qH), (qN 1, oX1 vD qD), (qD 0, rI cy 9 vD_now), (qW 1, rI cy 36 vW_who_58), (qH 14, rI cy 7 vH_kinds), (qH 8, rI cy 4 vH_sorts), (qH 10, rI cy 36 vH_next), (qW 2, rI cy 7 vW_inFront_58), (qH 15, rI cy 7 vH_sizes), (qH 11, rI cy 36 vH_width)]) (ws2 := (wX8_damp cy aN qN aH qH qW aH qD vN vH vW_58 vD vD_now vW_who_58 vH_kinds vW_cells_58 vH_sorts vH_next vW_inFront_58 vH_sizes vH_width)) (kRunV (As := [.int x1]) (rest := [.ref aN]) ⟨hx, hb, hml, hown, ht0⟩ (kX6_cellOf l D cy _ (qN 2) qW aH vW_58 vW_cells_58 x1 r83 hc83 _ rfl) (cwV 1 ht0 (gV wd594 wd163 wd164 wd114 wd165) rfl rfl rfl (by decide +kernel) ⟨Nat.le_of_ble_eq_true rfl, Nat.le_of_ble_eq_true rfl⟩) hK hN hP hD [2, 7] rfl (by decide) 2 5 rfl rfl rfl hl.1 rfl (Nat.le_of_ble_eq_true rfl) dX8_damp_83 ⟨Nat.zero_le _, Nat.zero_le _⟩) hP hD hS hA [2, 7] [0, 1, 3, 4, 5, 6, 8, 9, 10, 11, 12] rfl rfl (by decide) (by decide) [0, 1, 11, 2, 3, 4, 5, 12, 6, 7, 8, 9, 10] (by decide) rfl rfl (fun H locs hP hD hS => ?_)
        obtain ⟨r86, hc86, hok⟩ := k_bind hok
        refine kCi (wc := (wX8_tenfold cy )) (wc2 := (wX8_tenfold cy )) (wr := [(aN, oX8 vN qN aH), (aH, oX4 vH qH), (qN 2, oX6 vW_58 qW aH), (qN 1, oX1 vD qD), (qD 0, rI cy 9 vD_now), (qW 1, rI cy 36 vW_who_58), (qH 14, rI cy 7 vH_kinds), (qW 0, rI cy 7 vW_cells_58), (qH 8, rI cy 4 vH_sorts), (qH 10, rI cy 36 vH_next), (qW 2, rI cy 7 vW_inFront_58), (qH 15, rI cy 7 vH_sizes), (qH 11, rI cy 36 vH_width)]) (ws2 := (wX8_damp cy aN qN aH qH qW aH qD vN vH vW_58 vD vD_now vW_who_58 vH_kinds vW_cells_58 vH_sorts vH_next vW_inFront_58 vH_sizes vH_width)) (kRunS (As := [.int r83]) (rest := [.ref aN]) ⟨hx, hb, hml, hown, ht0⟩ (kX8_tenfold l D cy _ r83 r86 hc86 _ rfl) (va_cwS 1 ht0 (gS wd595 wd596 wd57 wd597) rfl rfl rfl (by decide +kernel) ⟨Nat.le_of_ble_eq_true rfl, Nat.le_of_ble_eq_true rfl⟩) hK hN hP hD [] rfl (by decide) rfl hl.1 rfl (Nat.le_of_ble_eq_true rfl) dX8_damp_86 ⟨Nat.zero_le _, Nat.zero_le _⟩) hP hD hS hA [] [0, 1, 2, 3, 4, 5, 6, 7, 8, 9, 10, 11, 12] rfl rfl (by decide) (by decide) [0, 1, 2, 3, 4, 5, 6, 7, 8, 9, 10, 11, 12] (by decide) rfl rfl (fun H locs hP hD hS => ?_)
        obtain ⟨⟨r89, vN_89⟩, hc89, hok⟩ := k_bind hok
        try dsimp only at hok
        refine kCi (wc := (wX8_answer cy aN qN aH vN)) (wc2 := (wX8_answer cy aN qN aH vN_89)) (wr := [(aH, oX4 vH qH), (qN 2, oX6 vW_58 qW aH), (qN 1, oX1 vD qD), (qD 0, rI cy 9 vD_now), (qW 1, rI cy 36 vW_who_58), (qH 14, rI cy 7 vH_kinds), (qW 0, rI cy 7 vW_cells_58), (qH 8, rI cy 4 vH_sorts), (qH 10, rI cy 36 vH_next), (qW 2, rI cy 7 vW_inFront_58), (qH 15, rI cy 7 vH_sizes), (qH 11, rI cy 36 vH_width)]) (ws2 := (wX8_damp cy aN qN aH qH qW aH qD vN_89 vH vW_58 vD vD_now vW_who_58 vH_kinds vW_cells_58 vH_sorts vH_next vW_inFront_58 vH_sizes vH_width)) (kRunV (As := [.int r86]) (rest := []) ⟨hx, hb, hml, hown, ht0⟩ (kX8_answer l D cy _ aN qN aH vN r86 r89 vN_89 hc89 _ rfl) (cwV 1 ht0 (gV wd538 wd539 wd540 wd57 wd541) rfl rfl rfl (by decide +kernel) ⟨Nat.le_of_ble_eq_true rfl, Nat.le_of_ble_eq_true rfl⟩) hK hN hP hD [0] rfl (by decide) 0 7 rfl rfl rfl hl.1 rfl (Nat.le_of_ble_eq_true rfl) dX8_damp_89 ⟨Nat.zero_le _, Nat.zero_le _⟩) hP hD hS hA [0] [1, 2, 3, 4, 5, 6, 7, 8, 9, 10, 11, 12] rfl rfl (by decide) (by decide) [12, 0, 1, 2, 3, 4, 5, 6, 7, 8, 9, 10, 11] (by decide) rfl rfl (fun H locs hP hD hS => ?_)
        cases hok
        subst hQe; exact W.iret hx hb hr (fun t ht hW => ⟨⟨_, (), rfl, rfl, by rw [ht]; exact hP, va_K.moved hW.alike hK, hD⟩, hS.F ht⟩) hS.2.2 dX8_damp_92
      · have hok := k_neg c61 hok
        refine lv_aload_n hx hb dX8_damp_64 rfl (lv_at hl 0 rfl) ?_
        refine va_get (D := D) (ci := 7) (v := .ref (qN 2)) (C := RX8) (T := TX8) (N := 9) hx hb ht0 niX8 hown hK hP 0 rfl rfl 2 (by decide) (ht0 _ wd578) (fun _ h9 => h9) rfl dX8_damp_65 ?_
        obtain ⟨⟨vW_68, vW_cells_68, vW_who_68, vW_inFront_68⟩, hc68, hok⟩ := k_bind hok
        try dsimp only at hok
        refine kCv (wc := (wX6_passDamp cy (qN 2) qW aH qH vW_58 vH vW_cells_58 vH_next vW_who_58 vW_inFront_58 vH_sizes vH_width vH_kinds)) (wc2 := (wX6_passDamp cy (qN 2) qW aH qH vW_68 vH vW_cells_68 vH_next vW_who_68 vW_inFront_68 vH_sizes vH_width vH_kinds)) (wr := [(aN, oX8 vN qN aH), (qN 1, oX1 vD qD), (qD 0, rI cy 9 vD_now), (qH 8, rI cy 4 vH_sorts)]) (ws2 := (wX8_damp cy aN qN aH qH qW aH qD vN vH vW_68 vD vD_now vW_who_68 vH_kinds vW_cells_68 vH_sorts vH_next vW_inFront_68 vH_sizes vH_width)) (kRunV (As := []) (rest := []) ⟨hx, hb, hml, hown, ht0⟩ (kX6_passDamp l D cy _ (qN 2) qW aH qH vW_58 vH vW_cells_58 vH_next vW_who_58 vW_inFront_58 vH_sizes vH_width vH_kinds vW_68 vW_cells_68 vW_who_68 vW_inFront_68 hc68 _ rfl) (cwV 0 ht0 (gV wd673 wd674 wd675 wd114 wd676) rfl rfl rfl (by decide +kernel) ⟨Nat.le_of_ble_eq_true rfl, Nat.le_of_ble_eq_true rfl⟩) hK hN hP hD [2, 1, 7, 9, 5, 10, 11, 12, 6] rfl (by decide) 2 5 rfl rfl rfl hl.1 rfl (Nat.le_of_ble_eq_true rfl) dX8_damp_68 ⟨Nat.zero_le _, Nat.zero_le _⟩) hP hD hS hA [2, 1, 7, 9, 5, 10, 11, 12, 6] [0, 3, 4, 8] rfl rfl (by decide) (by decide) [0, 5, 4, 1, 2, 8, 12, 6, 3, 7, 9, 10, 11] (by decide) rfl rfl (fun H locs hP hD hS => ?_)
        refine lv_iinc (v := (y4_58 + 1)) (lv' := [(4, .int (y4_58 + 1)), (0, .ref aN), (1, .int x1), (3, .int x3)]) hx hb dX8_damp_71 hl (k := 3) rfl (by first | rfl | decide) (by decide) rfl (fun ls hl => ?_)
        refine lv_goto (tgt := 58) hx hb dX8_damp_74 (by decide) ?_
        exact ih58 (y4_58 + 1) vW_cells_68 vW_inFront_68 vW_who_68 vW_68 H locs ls hP hD hS (lv_sub hl [1, 2, 3, 0] rfl) (hR58 _ (Option.some.inj hok).symm)
  unfold fX8_damp at hok
  obtain ⟨H, hH⟩ : ∃ H, H = s.heap := ⟨_, rfl⟩
  obtain ⟨locs, hlc⟩ : ∃ x : List Loc, x = [] := ⟨_, rfl⟩
  have hP : va_P D vwCl (wX8_damp cy aN qN aH qH qW aH0 qD vN vH vW vD vD_now vW_who vH_kinds vW_cells vH_sorts vH_next vW_inFront vH_sizes vH_width) H := by rw [hH]; exact hP
  have hS : va_S A s.heap H locs := by rw [hH, hlc]; exact hS
  rw [show W p l e _ s m _ below meth c s.heap [] = W p l e _ s m _ below meth c H locs from by rw [hH, hlc]]
  refine lv_aload_n hx hb dX8_damp_0 rfl (lv_at hl 0 rfl) ?_
  refine va_get (D := D) (ci := 7) (v := .ref aH) (C := RX8) (T := TX8) (N := 9) hx hb ht0 niX8 hown hK hP 0 rfl rfl 5 (by decide) (ht0 _ wd522) (fun _ h9 => h9) rfl dX8_damp_1 ?_
  refine lv_iload_n hx hb dX8_damp_4 rfl (lv_at hl 1 rfl) ?_
  obtain ⟨r5, hc5, hok⟩ := k_bind hok
  refine kCi (wc := (wX4_hasThing cy aH qH vH)) (wc2 := (wX4_hasThing cy aH qH vH)) (wr := [(aN, oX8 vN qN aH), (qN 2, oX6 vW qW aH0), (qN 1, oX1 vD qD), (qD 0, rI cy 9 vD_now), (qW 1, rI cy 36 vW_who), (qH 14, rI cy 7 vH_kinds), (qW 0, rI cy 7 vW_cells), (qH 8, rI cy 4 vH_sorts), (qH 10, rI cy 36 vH_next), (qW 2, rI cy 7 vW_inFront), (qH 15, rI cy 7 vH_sizes), (qH 11, rI cy 36 vH_width)]) (ws2 := (wX8_damp cy aN qN aH qH qW aH0 qD vN vH vW vD vD_now vW_who vH_kinds vW_cells vH_sorts vH_next vW_inFront vH_sizes vH_width)) (kRunV (As := [.int x1]) (rest := []) ⟨hx, hb, hml, hown, ht0⟩ (kX4_hasThing l D cy _ aH qH vH x1 r5 hc5 _ rfl) (cwV 1 ht0 (gV wd551 wd552 wd553 wd9 wd554) rfl rfl rfl (by decide +kernel) ⟨Nat.le_of_ble_eq_true rfl, Nat.le_of_ble_eq_true rfl⟩) hK hN hP hD [1] rfl (by decide) 1 3 rfl rfl rfl hl.1 rfl (Nat.le_of_ble_eq_true rfl) dX8_damp_5 ⟨Nat.zero_le _, Nat.zero_le _⟩) hP hD hS hA [1] [0, 2, 3, 4, 5, 6, 7, 8, 9, 10, 11, 12] rfl rfl (by decide) (by decide) [0, 12, 1, 2, 3, 4, 5, 6, 7, 8, 9, 10, 11] (by decide) rfl rfl (fun H locs hP hD hS => ?_)
  refine lv_if_ne (tgt := 17) hx hb dX8_damp_8 (by decide) (fun c8 => ?_) (fun c8 => ?_)
  · have hok := k_neg c8 hok
    refine lv_iload_n hx hb dX8_damp_17 rfl (lv_at hl 2 rfl) ?_
    refine lv_iload_n hx hb dX8_damp_18 rfl (lv_at hl 3 rfl) ?_
    obtain ⟨r19, hc19, hok⟩ := k_bind hok
    refine kCi (wc := (wX8_areDampNumbers cy )) (wc2 := (wX8_areDampNumbers cy )) (wr := [(aN, oX8 vN qN aH), (aH, oX4 vH qH), (qN 2, oX6 vW qW aH0), (qN 1, oX1 vD qD), (qD 0, rI cy 9 vD_now), (qW 1, rI cy 36 vW_who), (qH 14, rI cy 7 vH_kinds), (qW 0, rI cy 7 vW_cells), (qH 8, rI cy 4 vH_sorts), (qH 10, rI cy 36 vH_next), (qW 2, rI cy 7 vW_inFront), (qH 15, rI cy 7 vH_sizes), (qH 11, rI cy 36 vH_width)]) (ws2 := (wX8_damp cy aN qN aH qH qW aH0 qD vN vH vW vD vD_now vW_who vH_kinds vW_cells vH_sorts vH_next vW_inFront vH_sizes vH_width)) (kRunS (As := [.int x2, .int x3]) (rest := []) ⟨hx, hb, hml, hown, ht0⟩ (kX8_areDampNumbers l D cy _ x2 x3 r19 hc19 _ rfl) (va_cwS 2 ht0 (gS wd677 wd678 wd57 wd679) rfl rfl rfl (by decide +kernel) ⟨Nat.le_of_ble_eq_true rfl, Nat.le_of_ble_eq_true rfl⟩) hK hN hP hD [] rfl (by decide) rfl hl.1 rfl (Nat.le_of_ble_eq_true rfl) dX8_damp_19 ⟨Nat.zero_le _, Nat.zero_le _⟩) hP hD hS hA [] [0, 1, 2, 3, 4, 5, 6, 7, 8, 9, 10, 11, 12] rfl rfl (by decide) (by decide) [0, 1, 2, 3, 4, 5, 6, 7, 8, 9, 10, 11, 12] (by decide) rfl rfl (fun H locs hP hD hS => ?_)
    refine lv_if_ne (tgt := 31) hx hb dX8_damp_22 (by decide) (fun c22 => ?_) (fun c22 => ?_)
    · have hok := k_neg c22 hok
      refine lv_aload_n hx hb dX8_damp_31 rfl (lv_at hl 0 rfl) ?_
      refine va_get (D := D) (ci := 7) (v := .ref (qN 2)) (C := RX8) (T := TX8) (N := 9) hx hb ht0 niX8 hown hK hP 0 rfl rfl 2 (by decide) (ht0 _ wd578) (fun _ h9 => h9) rfl dX8_damp_32 ?_
      refine lv_aload_n hx hb dX8_damp_35 rfl (lv_at hl 0 rfl) ?_
      refine va_get (D := D) (ci := 7) (v := .ref aH) (C := RX8) (T := TX8) (N := 9) hx hb ht0 niX8 hown hK hP 0 rfl rfl 5 (by decide) (ht0 _ wd522) (fun _ h9 => h9) rfl dX8_damp_36 ?_
      refine lv_aload_n hx hb dX8_damp_39 rfl (lv_at hl 0 rfl) ?_
      refine va_get (D := D) (ci := 7) (v := .ref (qN 1)) (C := RX8) (T := TX8) (N := 9) hx hb ht0 niX8 hown hK hP 0 rfl rfl 1 (by decide) (ht0 _ wd527) (fun _ h9 => h9) rfl dX8_damp_40 ?_
      refine lv_iconst (v := 0) hx hb dX8_damp_43 (by decide) ?_
      obtain ⟨⟨vW_44, vW_who_44, vW_cells_44⟩, hc44, hok⟩ := k_bind hok
      try dsimp only at hok
      refine kCv (wc := (wX6_start cy (qN 2) aH (qN 1) qW aH0 qD qH vW vD vD_now vW_who vH vH_kinds vW_cells vH_sorts)) (wc2 := (wX6_start cy (qN 2) aH (qN 1) qW aH qD qH vW_44 vD vD_now vW_who_44 vH vH_kinds vW_cells_44 vH_sorts)) (wr := [(aN, oX8 vN qN aH), (qH 10, rI cy 36 vH_next), (qW 2, rI cy 7 vW_inFront), (qH 15, rI cy 7 vH_sizes), (qH 11, rI cy 36 vH_width)]) (ws2 := (wX8_damp cy aN qN aH qH qW aH qD vN vH vW_44 vD vD_now vW_who_44 vH_kinds vW_cells_44 vH_sorts vH_next vW_inFront vH_sizes vH_width)) (kRunV (As := [.ref aH, .ref (qN 1), .int 0]) (rest := []) ⟨hx, hb, hml, hown, ht0⟩ (kX6_start l D cy _ (qN 2) aH (qN 1) qW aH0 qD qH vW vD vD_now vW_who vH vH_kinds vW_cells vH_sorts (0 : Int32) vW_44 vW_who_44 vW_cells_44 hc44 _ rfl) (cwV 3 ht0 (gV wd579 wd181 wd182 wd114 wd183) rfl rfl rfl (by decide +kernel) ⟨Nat.le_of_ble_eq_true rfl, Nat.le_of_ble_eq_true rfl⟩) hK hN hP hD [2, 3, 4, 5, 1, 6, 7, 8] rfl (by decide) 2 5 rfl rfl rfl hl.1 rfl (Nat.le_of_ble_eq_true rfl) dX8_damp_44 ⟨Nat.zero_le _, Nat.zero_le _⟩) hP hD hS hA [2, 3, 4, 5, 1, 6, 7, 8] [0, 9, 10, 11, 12] rfl rfl (by decide) (by decide) [0, 9, 5, 6, 7, 8, 10, 11, 12, 1, 2, 3, 4] (by decide) rfl rfl (fun H locs hP hD hS => ?_)
      refine lv_aload_n hx hb dX8_damp_47 rfl (lv_at hl 0 rfl) ?_
      refine va_get (D := D) (ci := 7) (v := .ref (qN 2)) (C := RX8) (T := TX8) (N := 9) hx hb ht0 niX8 hown hK hP 0 rfl rfl 2 (by decide) (ht0 _ wd578) (fun _ h9 => h9) rfl dX8_damp_48 ?_
      refine lv_iload_n hx hb dX8_damp_51 rfl (lv_at hl 2 rfl) ?_
      obtain ⟨vW_52, hc52, hok⟩ := k_bind hok
      refine kCv (wc := (wX6_sow cy (qN 2) qW aH vW_44)) (wc2 := (wX6_sow cy (qN 2) qW aH vW_52)) (wr := [(aN, oX8 vN qN aH), (aH, oX4 vH qH), (qN 1, oX1 vD qD), (qD 0, rI cy 9 vD_now), (qW 1, rI cy 36 vW_who_44), (qH 14, rI cy 7 vH_kinds), (qW 0, rI cy 7 vW_cells_44), (qH 8, rI cy 4 vH_sorts), (qH 10, rI cy 36 vH_next), (qW 2, rI cy 7 vW_inFront), (qH 15, rI cy 7 vH_sizes), (qH 11, rI cy 36 vH_width)]) (ws2 := (wX8_damp cy aN qN aH qH qW aH qD vN vH vW_52 vD vD_now vW_who_44 vH_kinds vW_cells_44 vH_sorts vH_next vW_inFront vH_sizes vH_width)) (kRunV (As := [.int x2]) (rest := []) ⟨hx, hb, hml, hown, ht0⟩ (kX6_sow l D cy _ (qN 2) qW aH vW_44 x2 vW_52 hc52 _ rfl) (cwV 1 ht0 (gV wd680 wd681 wd682 wd114 wd683) rfl rfl rfl (by decide +kernel) ⟨Nat.le_of_ble_eq_true rfl, Nat.le_of_ble_eq_true rfl⟩) hK hN hP hD [2] rfl (by decide) 2 5 rfl rfl rfl hl.1 rfl (Nat.le_of_ble_eq_true rfl) dX8_damp_52 ⟨Nat.zero_le _, Nat.zero_le _⟩) hP hD hS hA [2] [0, 1, 3, 4, 5, 6, 7, 8, 9, 10, 11, 12] rfl rfl (by decide) (by decide) [0, 1, 12, 2, 3, 4, 5, 6, 7, 8, 9, 10, 11] (by decide) rfl rfl (fun H locs hP hD hS => ?_)
      refine lv_iconst (v := 1) hx hb dX8_damp_55 (by decide) ?_
      refine lv_istore (lv' := [(4, .int 1), (0, .ref aN), (1, .int x1), (2, .int x2), (3, .int x3)]) hx hb dX8_damp_56 hl (by decide) rfl (fun ls hl => ?_)
      exact L58 5000 (1 : Int32) vW_cells_44 vW_inFront vW_who_44 vW_52 H locs ls hP hD hS (lv_sub hl [1, 2, 4, 0] rfl) hok
    · have hok := k_pos c22 hok
      refine lv_aload_n hx hb dX8_damp_25 rfl (lv_at hl 0 rfl) ?_
      refine lv_iconst (v := 2) hx hb dX8_damp_26 (by decide) ?_
      obtain ⟨⟨r27, vN_27⟩, hc27, hok⟩ := k_bind hok
      try dsimp only at hok
      refine kCi (wc := (wX8_refuse cy aN qN aH vN)) (wc2 := (wX8_refuse cy aN qN aH vN_27)) (wr := [(aH, oX4 vH qH), (qN 2, oX6 vW qW aH0), (qN 1, oX1 vD qD), (qD 0, rI cy 9 vD_now), (qW 1, rI cy 36 vW_who), (qH 14, rI cy 7 vH_kinds), (qW 0, rI cy 7 vW_cells), (qH 8, rI cy 4 vH_sorts), (qH 10, rI cy 36 vH_next), (qW 2, rI cy 7 vW_inFront), (qH 15, rI cy 7 vH_sizes), (qH 11, rI cy 36 vH_width)]) (ws2 := (wX8_damp cy aN qN aH qH qW aH0 qD vN_27 vH vW vD vD_now vW_who vH_kinds vW_cells vH_sorts vH_next vW_inFront vH_sizes vH_width)) (kRunV (As := [.int 2]) (rest := []) ⟨hx, hb, hml, hown, ht0⟩ (kX8_refuse l D cy _ aN qN aH vN (2 : Int32) r27 vN_27 hc27 _ rfl) (cwV 1 ht0 (gV wd504 wd505 wd506 wd57 wd507) rfl rfl rfl (by decide +kernel) ⟨Nat.le_of_ble_eq_true rfl, Nat.le_of_ble_eq_true rfl⟩) hK hN hP hD [0] rfl (by decide) 0 7 rfl rfl rfl hl.1 rfl (Nat.le_of_ble_eq_true rfl) dX8_damp_27 ⟨Nat.zero_le _, Nat.zero_le _⟩) hP hD hS hA [0] [1, 2, 3, 4, 5, 6, 7, 8, 9, 10, 11, 12] rfl rfl (by decide) (by decide) [12, 0, 1, 2, 3, 4, 5, 6, 7, 8, 9, 10, 11] (by decide) rfl rfl (fun H locs hP hD hS => ?_)
      cases hok
      subst hQe; exact W.iret hx hb hr (fun t ht hW => ⟨⟨_, (), rfl, rfl, by rw [ht]; exact hP, va_K.moved hW.alike hK, hD⟩, hS.F ht⟩) hS.2.2 dX8_damp_30
  · have hok := k_pos c8 hok
    refine lv_aload_n hx hb dX8_damp_11 rfl (lv_at hl 0 rfl) ?_
    refine lv_iconst (v := 1) hx hb dX8_damp_12 (by decide) ?_
    obtain ⟨⟨r13, vN_13⟩, hc13, hok⟩ := k_bind hok
    try dsimp only at hok
    refine kCi (wc := (wX8_refuse cy aN qN aH vN)) (wc2 := (wX8_refuse cy aN qN aH vN_13)) (wr := [(aH, oX4 vH qH), (qN 2, oX6 vW qW aH0), (qN 1, oX1 vD qD), (qD 0, rI cy 9 vD_now), (qW 1, rI cy 36 vW_who), (qH 14, rI cy 7 vH_kinds), (qW 0, rI cy 7 vW_cells), (qH 8, rI cy 4 vH_sorts), (qH 10, rI cy 36 vH_next), (qW 2, rI cy 7 vW_inFront), (qH 15, rI cy 7 vH_sizes), (qH 11, rI cy 36 vH_width)]) (ws2 := (wX8_damp cy aN qN aH qH qW aH0 qD vN_13 vH vW vD vD_now vW_who vH_kinds vW_cells vH_sorts vH_next vW_inFront vH_sizes vH_width)) (kRunV (As := [.int 1]) (rest := []) ⟨hx, hb, hml, hown, ht0⟩ (kX8_refuse l D cy _ aN qN aH vN (1 : Int32) r13 vN_13 hc13 _ rfl) (cwV 1 ht0 (gV wd504 wd505 wd506 wd57 wd507) rfl rfl rfl (by decide +kernel) ⟨Nat.le_of_ble_eq_true rfl, Nat.le_of_ble_eq_true rfl⟩) hK hN hP hD [0] rfl (by decide) 0 7 rfl rfl rfl hl.1 rfl (Nat.le_of_ble_eq_true rfl) dX8_damp_13 ⟨Nat.zero_le _, Nat.zero_le _⟩) hP hD hS hA [0] [1, 2, 3, 4, 5, 6, 7, 8, 9, 10, 11, 12] rfl rfl (by decide) (by decide) [12, 0, 1, 2, 3, 4, 5, 6, 7, 8, 9, 10, 11] (by decide) rfl rfl (fun H locs hP hD hS => ?_)
    cases hok
    subst hQe; exact W.iret hx hb hr (fun t ht hW => ⟨⟨_, (), rfl, rfl, by rw [ht]; exact hP, va_K.moved hW.alike hK, hD⟩, hS.F ht⟩) hS.2.2 dX8_damp_16
def wsX8_dampSteps : List Cond := .code yX8_dampSteps cX8_dampSteps 5 (some .int) :: W0
abbrev wX8_dampSteps (cy : Nat → ClassId) (aN : Nat) (qN : Nat → Nat) (aH : Nat) (qH : Nat → Nat) (qW : Nat → Nat) (aH0 : Nat) (qD : Nat → Nat) (vN : Nat → Int32) (vH : Nat → Int32) (vW : Nat → Int32) (vD : Nat → Int32) (vD_now : Nat → Int32) (vW_who : Nat → Int32) (vH_kinds : Nat → Int32) (vW_cells : Nat → Int32) (vH_sorts : Nat → Int32) (vH_next : Nat → Int32) (vW_inFront : Nat → Int32) (vH_sizes : Nat → Int32) (vH_width : Nat → Int32) : va_W := [(aN, oX8 vN qN aH), (aH, oX4 vH qH), (qN 2, oX6 vW qW aH0), (qN 1, oX1 vD qD), (qD 0, rI cy 9 vD_now), (qW 1, rI cy 36 vW_who), (qH 14, rI cy 7 vH_kinds), (qW 0, rI cy 7 vW_cells), (qH 8, rI cy 4 vH_sorts), (qH 10, rI cy 36 vH_next), (qW 2, rI cy 7 vW_inFront), (qH 15, rI cy 7 vH_sizes), (qH 11, rI cy 36 vH_width)]
set_option maxHeartbeats 4000000 in
set_option maxRecDepth 100000 in
theorem kX8_dampSteps (l : Launch) (D : va_G) (cy : Nat → ClassId) (sz : Nat) (aN : Nat) (qN : Nat → Nat) (aH : Nat) (qH : Nat → Nat) (qW : Nat → Nat) (aH0 : Nat) (qD : Nat → Nat) (vN : Nat → Int32) (vH : Nat → Int32) (vW : Nat → Int32) (vD : Nat → Int32) (vD_now : Nat → Int32) (vW_who : Nat → Int32) (vH_kinds : Nat → Int32) (vW_cells : Nat → Int32) (vH_sorts : Nat → Int32) (vH_next : Nat → Int32) (vW_inFront : Nat → Int32) (vH_sizes : Nat → Int32) (vH_width : Nat → Int32) (x1 : Int32) (x2 : Int32) (zr : Int32) (z_vN : Nat → Int32) (z_vW : Nat → Int32) (z_vW_who : Nat → Int32) (z_vW_cells : Nat → Int32) (z_vW_inFront : Nat → Int32) (z_aH0 : Nat) (hok : fX8_dampSteps aH aH0 vN vH vW vD vD_now vW_who vH_kinds vW_cells vH_sorts vH_next vW_inFront vH_sizes vH_width x1 x2 = some (zr, z_vN, z_vW, z_vW_who, z_vW_cells, z_vW_inFront, z_aH0)) (A : Nat → Prop) (hAe : va_A (wX8_dampSteps cy aN qN aH qH qW aH0 qD vN vH vW vD vD_now vW_who vH_kinds vW_cells vH_sorts vH_next vW_inFront vH_sizes vH_width) sz = A) : Met l yX8_dampSteps wsX8_dampSteps ({ frames := 4, cells := 0, slots := 0, locals := 95 } : Room) (kPre D cy [.ref aN, .int x1, .int x2] (wX8_dampSteps cy aN qN aH qH qW aH0 qD vN vH vW vD vD_now vW_who vH_kinds vW_cells vH_sorts vH_next vW_inFront vH_sizes vH_width) sz) (kQi D cy zr A (wX8_dampSteps cy aN qN aH qH qW z_aH0 qD z_vN vH z_vW vD vD_now z_vW_who vH_kinds z_vW_cells vH_sorts vH_next z_vW_inFront vH_sizes vH_width)) 0 0 A := by
  refine Met.ofW (cc := cX8_dampSteps) (maxL := 5) (ret := (some .int)) (by decide) rfl ?_
  intro p e s m args below meth c s₁ B hml hv
  obtain ⟨rfl, hsz, hP, hK, hD0, hN⟩ := hv
  have hx := B.exec
  have hb := B.bytes
  have hr := B.returns
  have ht0 : ∀ w ∈ W0, w.before _ s = true := fun w h => atoms_spec (ws := wsX8_dampSteps) B.pre w (List.mem_cons_of_mem _ h)
  have hown : s.vm.findClass RX8 = some m.cls := findClass_of_methodNamed B.named
  have hlocks := B.notSynchronized
  subst hsz
  have hD : va_D A (wX8_dampSteps cy aN qN aH qH qW aH0 qD vN vH vW vD vD_now vW_who vH_kinds vW_cells vH_sorts vH_next vW_inFront vH_sizes vH_width) := by rw [← hAe]; exact hD0.self
  have hA : ∀ q : Nat, s.heap.size ≤ q → A q := fun q h => by rw [← hAe]; exact Or.inr h
  have hS : va_S A s.heap s.heap [] := va_S.rf
  have hl := lv_entry ([.ref aN, .int x1, .int x2]) (n := 5) (Nat.le_of_ble_eq_true rfl)
  rw [lg_entry_eq]
  generalize (lg_sl ([.ref aN, .int x1, .int x2]) ++ List.replicate (5 - (lg_sl ([.ref aN, .int x1, .int x2])).length) Slot.unset).toArray = ls at hl ⊢
  have hl : lv_has ls 5 [(0, .ref aN), (1, .int x1), (2, .int x2)] := hl
  generalize hQe : MQ below (kQi D cy zr A (wX8_dampSteps cy aN qN aH qH qW z_aH0 qD z_vN vH z_vW vD vD_now z_vW_who vH_kinds z_vW_cells vH_sorts vH_next z_vW_inFront vH_sizes vH_width)) ([.ref aN, .int x1, .int x2] : List Value).toArray s 0 0 A = Q
  have L59 : ∀ (fuel : Nat) (y3_59 : Int32) (y4_59 : Int32) (vW_cells_59 : Nat → Int32) (vW_inFront_59 : Nat → Int32) (vW_who_59 : Nat → Int32) (vW_59 : Nat → Int32), ∀ (H : Heap) (locs : List Loc) (ls : Array Slot), va_P D vwCl (wX8_dampSteps cy aN qN aH qH qW aH qD vN vH vW_59 vD vD_now vW_who_59 vH_kinds vW_cells_59 vH_sorts vH_next vW_inFront_59 vH_sizes vH_width) H → va_D A (wX8_dampSteps cy aN qN aH qH qW aH qD vN vH vW_59 vD vD_now vW_who_59 vH_kinds vW_cells_59 vH_sorts vH_next vW_inFront_59 vH_sizes vH_width) → va_S A s.heap H locs → lv_has ls 5 [(0, .ref aN), (2, .int x2), (3, .int y3_59), (4, .int y4_59)] → lp (fX8_dampSteps_B59 aH vN vH vH_kinds vH_next vH_sizes vH_width x2) fuel (y3_59, y4_59, vW_cells_59, vW_inFront_59, vW_who_59, vW_59) = some (zr, z_vN, z_vW, z_vW_who, z_vW_cells, z_vW_inFront, z_aH0) → W p l e ({ frames := 4, cells := 0, slots := 0, locals := 95 } : Room) s m ([.ref aN, .int x1, .int x2] : List Value).toArray below meth c H locs 0 0 Q (F0 m 59 ls []) := by
    intro fuel
    induction fuel with
    | zero => intro y3_59 y4_59 vW_cells_59 vW_inFront_59 vW_who_59 vW_59 H locs ls hP hD hS hl hok; exact (lp_0 hok).elim
    | succ fuel ih59 =>
      intro y3_59 y4_59 vW_cells_59 vW_inFront_59 vW_who_59 vW_59 H locs ls hP hD hS hl hok
      obtain ⟨y59, hok, hL59, hR59⟩ := lp_step hok
      unfold fX8_dampSteps_B59 at hok
      try dsimp only at hok
      refine lv_iload hx hb dX8_dampSteps_59 (lv_at hl 3 rfl) ?_
      refine lv_iload_n hx hb dX8_dampSteps_61 rfl (lv_at hl 1 rfl) ?_
      refine lv_icmp_gt (tgt := 91) hx hb dX8_dampSteps_62 (by decide) (fun c62 => ?_) (fun c62 => ?_)
      · have hok := k_pos c62 hok
        obtain ⟨e59, hok, he59⟩ := ex_some hok
        have hok := hok.trans (congrArg some (hL59 _ he59))
        refine lv_aload_n hx hb dX8_dampSteps_91 rfl (lv_at hl 0 rfl) ?_
        refine lv_iload_n hx hb dX8_dampSteps_92 rfl (lv_at hl 2 rfl) ?_
        obtain ⟨⟨r93, vN_93⟩, hc93, hok⟩ := k_bind hok
        try dsimp only at hok
        refine kCi (wc := (wX8_answer cy aN qN aH vN)) (wc2 := (wX8_answer cy aN qN aH vN_93)) (wr := [(aH, oX4 vH qH), (qN 2, oX6 vW_59 qW aH), (qN 1, oX1 vD qD), (qD 0, rI cy 9 vD_now), (qW 1, rI cy 36 vW_who_59), (qH 14, rI cy 7 vH_kinds), (qW 0, rI cy 7 vW_cells_59), (qH 8, rI cy 4 vH_sorts), (qH 10, rI cy 36 vH_next), (qW 2, rI cy 7 vW_inFront_59), (qH 15, rI cy 7 vH_sizes), (qH 11, rI cy 36 vH_width)]) (ws2 := (wX8_dampSteps cy aN qN aH qH qW aH qD vN_93 vH vW_59 vD vD_now vW_who_59 vH_kinds vW_cells_59 vH_sorts vH_next vW_inFront_59 vH_sizes vH_width)) (kRunV (As := [.int y3_59]) (rest := []) ⟨hx, hb, hml, hown, ht0⟩ (kX8_answer l D cy _ aN qN aH vN y3_59 r93 vN_93 hc93 _ rfl) (cwV 1 ht0 (gV wd538 wd539 wd540 wd57 wd541) rfl rfl rfl (by decide +kernel) ⟨Nat.le_of_ble_eq_true rfl, Nat.le_of_ble_eq_true rfl⟩) hK hN hP hD [0] rfl (by decide) 0 7 rfl rfl rfl hl.1 rfl (Nat.le_of_ble_eq_true rfl) dX8_dampSteps_93 ⟨Nat.zero_le _, Nat.zero_le _⟩) hP hD hS hA [0] [1, 2, 3, 4, 5, 6, 7, 8, 9, 10, 11, 12] rfl rfl (by decide) (by decide) [12, 0, 1, 2, 3, 4, 5, 6, 7, 8, 9, 10, 11] (by decide) rfl rfl (fun H locs hP hD hS => ?_)
        cases hok
        subst hQe; exact W.iret hx hb hr (fun t ht hW => ⟨⟨_, (), rfl, rfl, by rw [ht]; exact hP, va_K.moved hW.alike hK, hD⟩, hS.F ht⟩) hS.2.2 dX8_dampSteps_96
      · have hok := k_neg c62 hok
        refine lv_aload_n hx hb dX8_dampSteps_65 rfl (lv_at hl 0 rfl) ?_
        refine va_get (D := D) (ci := 7) (v := .ref (qN 2)) (C := RX8) (T := TX8) (N := 9) hx hb ht0 niX8 hown hK hP 0 rfl rfl 2 (by decide) (ht0 _ wd578) (fun _ h9 => h9) rfl dX8_dampSteps_66 ?_
        obtain ⟨⟨vW_69, vW_cells_69, vW_who_69, vW_inFront_69⟩, hc69, hok⟩ := k_bind hok
        try dsimp only at hok
        refine kCv (wc := (wX6_passDamp cy (qN 2) qW aH qH vW_59 vH vW_cells_59 vH_next vW_who_59 vW_inFront_59 vH_sizes vH_width vH_kinds)) (wc2 := (wX6_passDamp cy (qN 2) qW aH qH vW_69 vH vW_cells_69 vH_next vW_who_69 vW_inFront_69 vH_sizes vH_width vH_kinds)) (wr := [(aN, oX8 vN qN aH), (qN 1, oX1 vD qD), (qD 0, rI cy 9 vD_now), (qH 8, rI cy 4 vH_sorts)]) (ws2 := (wX8_dampSteps cy aN qN aH qH qW aH qD vN vH vW_69 vD vD_now vW_who_69 vH_kinds vW_cells_69 vH_sorts vH_next vW_inFront_69 vH_sizes vH_width)) (kRunV (As := []) (rest := []) ⟨hx, hb, hml, hown, ht0⟩ (kX6_passDamp l D cy _ (qN 2) qW aH qH vW_59 vH vW_cells_59 vH_next vW_who_59 vW_inFront_59 vH_sizes vH_width vH_kinds vW_69 vW_cells_69 vW_who_69 vW_inFront_69 hc69 _ rfl) (cwV 0 ht0 (gV wd673 wd674 wd675 wd114 wd676) rfl rfl rfl (by decide +kernel) ⟨Nat.le_of_ble_eq_true rfl, Nat.le_of_ble_eq_true rfl⟩) hK hN hP hD [2, 1, 7, 9, 5, 10, 11, 12, 6] rfl (by decide) 2 5 rfl rfl rfl hl.1 rfl (Nat.le_of_ble_eq_true rfl) dX8_dampSteps_69 ⟨Nat.zero_le _, Nat.zero_le _⟩) hP hD hS hA [2, 1, 7, 9, 5, 10, 11, 12, 6] [0, 3, 4, 8] rfl rfl (by decide) (by decide) [0, 5, 4, 1, 2, 8, 12, 6, 3, 7, 9, 10, 11] (by decide) rfl rfl (fun H locs hP hD hS => ?_)
        refine lv_iload_n hx hb dX8_dampSteps_72 rfl (lv_at hl 2 rfl) ?_
        refine lv_aload_n hx hb dX8_dampSteps_73 rfl (lv_at hl 0 rfl) ?_
        refine va_get (D := D) (ci := 7) (v := .ref (qN 2)) (C := RX8) (T := TX8) (N := 9) hx hb ht0 niX8 hown hK hP 0 rfl rfl 2 (by decide) (ht0 _ wd578) (fun _ h9 => h9) rfl dX8_dampSteps_74 ?_
        obtain ⟨r77, hc77, hok⟩ := k_bind hok
        refine kCi (wc := (wX6_went cy (qN 2) qW aH vW_69)) (wc2 := (wX6_went cy (qN 2) qW aH vW_69)) (wr := [(aN, oX8 vN qN aH), (aH, oX4 vH qH), (qN 1, oX1 vD qD), (qD 0, rI cy 9 vD_now), (qW 1, rI cy 36 vW_who_69), (qH 14, rI cy 7 vH_kinds), (qW 0, rI cy 7 vW_cells_69), (qH 8, rI cy 4 vH_sorts), (qH 10, rI cy 36 vH_next), (qW 2, rI cy 7 vW_inFront_69), (qH 15, rI cy 7 vH_sizes), (qH 11, rI cy 36 vH_width)]) (ws2 := (wX8_dampSteps cy aN qN aH qH qW aH qD vN vH vW_69 vD vD_now vW_who_69 vH_kinds vW_cells_69 vH_sorts vH_next vW_inFront_69 vH_sizes vH_width)) (kRunV (As := []) (rest := [.int y3_59]) ⟨hx, hb, hml, hown, ht0⟩ (kX6_went l D cy _ (qN 2) qW aH vW_69 r77 hc77 _ rfl) (cwV 0 ht0 (gV wd581 wd582 wd583 wd114 wd584) rfl rfl rfl (by decide +kernel) ⟨Nat.le_of_ble_eq_true rfl, Nat.le_of_ble_eq_true rfl⟩) hK hN hP hD [2] rfl (by decide) 2 5 rfl rfl rfl hl.1 rfl (Nat.le_of_ble_eq_true rfl) dX8_dampSteps_77 ⟨Nat.zero_le _, Nat.zero_le _⟩) hP hD hS hA [2] [0, 1, 3, 4, 5, 6, 7, 8, 9, 10, 11, 12] rfl rfl (by decide) (by decide) [0, 1, 12, 2, 3, 4, 5, 6, 7, 8, 9, 10, 11] (by decide) rfl rfl (fun H locs hP hD hS => ?_)
        obtain ⟨r80, hc80, hok⟩ := k_bind hok
        refine kCi (wc := (wJ6_bitCount_0f7a4 cy )) (wc2 := (wJ6_bitCount_0f7a4 cy )) (wr := [(aN, oX8 vN qN aH), (aH, oX4 vH qH), (qN 2, oX6 vW_69 qW aH), (qN 1, oX1 vD qD), (qD 0, rI cy 9 vD_now), (qW 1, rI cy 36 vW_who_69), (qH 14, rI cy 7 vH_kinds), (qW 0, rI cy 7 vW_cells_69), (qH 8, rI cy 4 vH_sorts), (qH 10, rI cy 36 vH_next), (qW 2, rI cy 7 vW_inFront_69), (qH 15, rI cy 7 vH_sizes), (qH 11, rI cy 36 vH_width)]) (ws2 := (wX8_dampSteps cy aN qN aH qH qW aH qD vN vH vW_69 vD vD_now vW_who_69 vH_kinds vW_cells_69 vH_sorts vH_next vW_inFront_69 vH_sizes vH_width)) (kRunS (As := [.int r77]) (rest := [.int y3_59]) ⟨hx, hb, hml, hown, ht0⟩ (kJ6_bitCount_0f7a4 l D cy _ r77 r80 hc80 _ rfl) (va_cwS 1 ht0 (gS wd550 wd89 wd90 wd91) rfl rfl rfl (by decide +kernel) ⟨Nat.le_of_ble_eq_true rfl, Nat.le_of_ble_eq_true rfl⟩) hK hN hP hD [] rfl (by decide) rfl hl.1 rfl (Nat.le_of_ble_eq_true rfl) dX8_dampSteps_80 ⟨Nat.zero_le _, Nat.zero_le _⟩) hP hD hS hA [] [0, 1, 2, 3, 4, 5, 6, 7, 8, 9, 10, 11, 12] rfl rfl (by decide) (by decide) [0, 1, 2, 3, 4, 5, 6, 7, 8, 9, 10, 11, 12] (by decide) rfl rfl (fun H locs hP hD hS => ?_)
        refine lv_iadd hx hb dX8_dampSteps_83 ?_
        refine lv_istore_n (lv' := [(3, .int (y3_59 + r80)), (0, .ref aN), (2, .int x2), (4, .int y4_59)]) hx hb dX8_dampSteps_84 rfl hl (by decide) rfl (fun ls hl => ?_)
        refine lv_iinc (v := (y4_59 + 1)) (lv' := [(4, .int (y4_59 + 1)), (3, .int (y3_59 + r80)), (0, .ref aN), (2, .int x2)]) hx hb dX8_dampSteps_85 hl (k := 3) rfl (by first | rfl | decide) (by decide) rfl (fun ls hl => ?_)
        refine lv_goto (tgt := 59) hx hb dX8_dampSteps_88 (by decide) ?_
        exact ih59 (y3_59 + r80) (y4_59 + 1) vW_cells_69 vW_inFront_69 vW_who_69 vW_69 H locs ls hP hD hS (lv_sub hl [2, 3, 1, 0] rfl) (hR59 _ (Option.some.inj hok).symm)
  unfold fX8_dampSteps at hok
  obtain ⟨H, hH⟩ : ∃ H, H = s.heap := ⟨_, rfl⟩
  obtain ⟨locs, hlc⟩ : ∃ x : List Loc, x = [] := ⟨_, rfl⟩
  have hP : va_P D vwCl (wX8_dampSteps cy aN qN aH qH qW aH0 qD vN vH vW vD vD_now vW_who vH_kinds vW_cells vH_sorts vH_next vW_inFront vH_sizes vH_width) H := by rw [hH]; exact hP
  have hS : va_S A s.heap H locs := by rw [hH, hlc]; exact hS
  rw [show W p l e _ s m _ below meth c s.heap [] = W p l e _ s m _ below meth c H locs from by rw [hH, hlc]]
  refine lv_aload_n hx hb dX8_dampSteps_0 rfl (lv_at hl 0 rfl) ?_
  refine va_get (D := D) (ci := 7) (v := .ref aH) (C := RX8) (T := TX8) (N := 9) hx hb ht0 niX8 hown hK hP 0 rfl rfl 5 (by decide) (ht0 _ wd522) (fun _ h9 => h9) rfl dX8_dampSteps_1 ?_
  obtain ⟨r4, hc4, hok⟩ := k_bind hok
  refine kCi (wc := (wX4_stands cy aH qH vH)) (wc2 := (wX4_stands cy aH qH vH)) (wr := [(aN, oX8 vN qN aH), (qN 2, oX6 vW qW aH0), (qN 1, oX1 vD qD), (qD 0, rI cy 9 vD_now), (qW 1, rI cy 36 vW_who), (qH 14, rI cy 7 vH_kinds), (qW 0, rI cy 7 vW_cells), (qH 8, rI cy 4 vH_sorts), (qH 10, rI cy 36 vH_next), (qW 2, rI cy 7 vW_inFront), (qH 15, rI cy 7 vH_sizes), (qH 11, rI cy 36 vH_width)]) (ws2 := (wX8_dampSteps cy aN qN aH qH qW aH0 qD vN vH vW vD vD_now vW_who vH_kinds vW_cells vH_sorts vH_next vW_inFront vH_sizes vH_width)) (kRunV (As := []) (rest := []) ⟨hx, hb, hml, hown, ht0⟩ (kX4_stands l D cy _ aH qH vH r4 hc4 _ rfl) (cwV 0 ht0 (gV wd577 wd462 wd463 wd9 wd464) rfl rfl rfl (by decide +kernel) ⟨Nat.le_of_ble_eq_true rfl, Nat.le_of_ble_eq_true rfl⟩) hK hN hP hD [1] rfl (by decide) 1 3 rfl rfl rfl hl.1 rfl (Nat.le_of_ble_eq_true rfl) dX8_dampSteps_4 ⟨Nat.zero_le _, Nat.zero_le _⟩) hP hD hS hA [1] [0, 2, 3, 4, 5, 6, 7, 8, 9, 10, 11, 12] rfl rfl (by decide) (by decide) [0, 12, 1, 2, 3, 4, 5, 6, 7, 8, 9, 10, 11] (by decide) rfl rfl (fun H locs hP hD hS => ?_)
  refine lv_if_ne (tgt := 16) hx hb dX8_dampSteps_7 (by decide) (fun c7 => ?_) (fun c7 => ?_)
  · have hok := k_neg c7 hok
    refine lv_iload_n hx hb dX8_dampSteps_16 rfl (lv_at hl 1 rfl) ?_
    refine lv_iload_n hx hb dX8_dampSteps_17 rfl (lv_at hl 2 rfl) ?_
    obtain ⟨r18, hc18, hok⟩ := k_bind hok
    refine kCi (wc := (wX8_areDampNumbers cy )) (wc2 := (wX8_areDampNumbers cy )) (wr := [(aN, oX8 vN qN aH), (aH, oX4 vH qH), (qN 2, oX6 vW qW aH0), (qN 1, oX1 vD qD), (qD 0, rI cy 9 vD_now), (qW 1, rI cy 36 vW_who), (qH 14, rI cy 7 vH_kinds), (qW 0, rI cy 7 vW_cells), (qH 8, rI cy 4 vH_sorts), (qH 10, rI cy 36 vH_next), (qW 2, rI cy 7 vW_inFront), (qH 15, rI cy 7 vH_sizes), (qH 11, rI cy 36 vH_width)]) (ws2 := (wX8_dampSteps cy aN qN aH qH qW aH0 qD vN vH vW vD vD_now vW_who vH_kinds vW_cells vH_sorts vH_next vW_inFront vH_sizes vH_width)) (kRunS (As := [.int x1, .int x2]) (rest := []) ⟨hx, hb, hml, hown, ht0⟩ (kX8_areDampNumbers l D cy _ x1 x2 r18 hc18 _ rfl) (va_cwS 2 ht0 (gS wd677 wd678 wd57 wd679) rfl rfl rfl (by decide +kernel) ⟨Nat.le_of_ble_eq_true rfl, Nat.le_of_ble_eq_true rfl⟩) hK hN hP hD [] rfl (by decide) rfl hl.1 rfl (Nat.le_of_ble_eq_true rfl) dX8_dampSteps_18 ⟨Nat.zero_le _, Nat.zero_le _⟩) hP hD hS hA [] [0, 1, 2, 3, 4, 5, 6, 7, 8, 9, 10, 11, 12] rfl rfl (by decide) (by decide) [0, 1, 2, 3, 4, 5, 6, 7, 8, 9, 10, 11, 12] (by decide) rfl rfl (fun H locs hP hD hS => ?_)
    refine lv_if_ne (tgt := 30) hx hb dX8_dampSteps_21 (by decide) (fun c21 => ?_) (fun c21 => ?_)
    · have hok := k_neg c21 hok
      refine lv_iconst (v := 0) hx hb dX8_dampSteps_30 (by decide) ?_
      refine lv_istore_n (lv' := [(3, .int 0), (0, .ref aN), (1, .int x1), (2, .int x2)]) hx hb dX8_dampSteps_31 rfl hl (by decide) rfl (fun ls hl => ?_)
      refine lv_aload_n hx hb dX8_dampSteps_32 rfl (lv_at hl 1 rfl) ?_
      refine va_get (D := D) (ci := 7) (v := .ref (qN 2)) (C := RX8) (T := TX8) (N := 9) hx hb ht0 niX8 hown hK hP 0 rfl rfl 2 (by decide) (ht0 _ wd578) (fun _ h9 => h9) rfl dX8_dampSteps_33 ?_
      refine lv_aload_n hx hb dX8_dampSteps_36 rfl (lv_at hl 1 rfl) ?_
      refine va_get (D := D) (ci := 7) (v := .ref aH) (C := RX8) (T := TX8) (N := 9) hx hb ht0 niX8 hown hK hP 0 rfl rfl 5 (by decide) (ht0 _ wd522) (fun _ h9 => h9) rfl dX8_dampSteps_37 ?_
      refine lv_aload_n hx hb dX8_dampSteps_40 rfl (lv_at hl 1 rfl) ?_
      refine va_get (D := D) (ci := 7) (v := .ref (qN 1)) (C := RX8) (T := TX8) (N := 9) hx hb ht0 niX8 hown hK hP 0 rfl rfl 1 (by decide) (ht0 _ wd527) (fun _ h9 => h9) rfl dX8_dampSteps_41 ?_
      refine lv_iconst (v := 0) hx hb dX8_dampSteps_44 (by decide) ?_
      obtain ⟨⟨vW_45, vW_who_45, vW_cells_45⟩, hc45, hok⟩ := k_bind hok
      try dsimp only at hok
      refine kCv (wc := (wX6_start cy (qN 2) aH (qN 1) qW aH0 qD qH vW vD vD_now vW_who vH vH_kinds vW_cells vH_sorts)) (wc2 := (wX6_start cy (qN 2) aH (qN 1) qW aH qD qH vW_45 vD vD_now vW_who_45 vH vH_kinds vW_cells_45 vH_sorts)) (wr := [(aN, oX8 vN qN aH), (qH 10, rI cy 36 vH_next), (qW 2, rI cy 7 vW_inFront), (qH 15, rI cy 7 vH_sizes), (qH 11, rI cy 36 vH_width)]) (ws2 := (wX8_dampSteps cy aN qN aH qH qW aH qD vN vH vW_45 vD vD_now vW_who_45 vH_kinds vW_cells_45 vH_sorts vH_next vW_inFront vH_sizes vH_width)) (kRunV (As := [.ref aH, .ref (qN 1), .int 0]) (rest := []) ⟨hx, hb, hml, hown, ht0⟩ (kX6_start l D cy _ (qN 2) aH (qN 1) qW aH0 qD qH vW vD vD_now vW_who vH vH_kinds vW_cells vH_sorts (0 : Int32) vW_45 vW_who_45 vW_cells_45 hc45 _ rfl) (cwV 3 ht0 (gV wd579 wd181 wd182 wd114 wd183) rfl rfl rfl (by decide +kernel) ⟨Nat.le_of_ble_eq_true rfl, Nat.le_of_ble_eq_true rfl⟩) hK hN hP hD [2, 3, 4, 5, 1, 6, 7, 8] rfl (by decide) 2 5 rfl rfl rfl hl.1 rfl (Nat.le_of_ble_eq_true rfl) dX8_dampSteps_45 ⟨Nat.zero_le _, Nat.zero_le _⟩) hP hD hS hA [2, 3, 4, 5, 1, 6, 7, 8] [0, 9, 10, 11, 12] rfl rfl (by decide) (by decide) [0, 9, 5, 6, 7, 8, 10, 11, 12, 1, 2, 3, 4] (by decide) rfl rfl (fun H locs hP hD hS => ?_)
      refine lv_aload_n hx hb dX8_dampSteps_48 rfl (lv_at hl 1 rfl) ?_
      refine va_get (D := D) (ci := 7) (v := .ref (qN 2)) (C := RX8) (T := TX8) (N := 9) hx hb ht0 niX8 hown hK hP 0 rfl rfl 2 (by decide) (ht0 _ wd578) (fun _ h9 => h9) rfl dX8_dampSteps_49 ?_
      refine lv_iload_n hx hb dX8_dampSteps_52 rfl (lv_at hl 2 rfl) ?_
      obtain ⟨vW_53, hc53, hok⟩ := k_bind hok
      refine kCv (wc := (wX6_sow cy (qN 2) qW aH vW_45)) (wc2 := (wX6_sow cy (qN 2) qW aH vW_53)) (wr := [(aN, oX8 vN qN aH), (aH, oX4 vH qH), (qN 1, oX1 vD qD), (qD 0, rI cy 9 vD_now), (qW 1, rI cy 36 vW_who_45), (qH 14, rI cy 7 vH_kinds), (qW 0, rI cy 7 vW_cells_45), (qH 8, rI cy 4 vH_sorts), (qH 10, rI cy 36 vH_next), (qW 2, rI cy 7 vW_inFront), (qH 15, rI cy 7 vH_sizes), (qH 11, rI cy 36 vH_width)]) (ws2 := (wX8_dampSteps cy aN qN aH qH qW aH qD vN vH vW_53 vD vD_now vW_who_45 vH_kinds vW_cells_45 vH_sorts vH_next vW_inFront vH_sizes vH_width)) (kRunV (As := [.int x1]) (rest := []) ⟨hx, hb, hml, hown, ht0⟩ (kX6_sow l D cy _ (qN 2) qW aH vW_45 x1 vW_53 hc53 _ rfl) (cwV 1 ht0 (gV wd680 wd681 wd682 wd114 wd683) rfl rfl rfl (by decide +kernel) ⟨Nat.le_of_ble_eq_true rfl, Nat.le_of_ble_eq_true rfl⟩) hK hN hP hD [2] rfl (by decide) 2 5 rfl rfl rfl hl.1 rfl (Nat.le_of_ble_eq_true rfl) dX8_dampSteps_53 ⟨Nat.zero_le _, Nat.zero_le _⟩) hP hD hS hA [2] [0, 1, 3, 4, 5, 6, 7, 8, 9, 10, 11, 12] rfl rfl (by decide) (by decide) [0, 1, 12, 2, 3, 4, 5, 6, 7, 8, 9, 10, 11] (by decide) rfl rfl (fun H locs hP hD hS => ?_)
      refine lv_iconst (v := 1) hx hb dX8_dampSteps_56 (by decide) ?_
      refine lv_istore (lv' := [(4, .int 1), (3, .int 0), (0, .ref aN), (1, .int x1), (2, .int x2)]) hx hb dX8_dampSteps_57 hl (by decide) rfl (fun ls hl => ?_)
      exact L59 5000 (0 : Int32) (1 : Int32) vW_cells_45 vW_inFront vW_who_45 vW_53 H locs ls hP hD hS (lv_sub hl [2, 4, 1, 0] rfl) hok
    · have hok := k_pos c21 hok
      refine lv_aload_n hx hb dX8_dampSteps_24 rfl (lv_at hl 0 rfl) ?_
      refine lv_iconst (v := 2) hx hb dX8_dampSteps_25 (by decide) ?_
      obtain ⟨⟨r26, vN_26⟩, hc26, hok⟩ := k_bind hok
      try dsimp only at hok
      refine kCi (wc := (wX8_refuse cy aN qN aH vN)) (wc2 := (wX8_refuse cy aN qN aH vN_26)) (wr := [(aH, oX4 vH qH), (qN 2, oX6 vW qW aH0), (qN 1, oX1 vD qD), (qD 0, rI cy 9 vD_now), (qW 1, rI cy 36 vW_who), (qH 14, rI cy 7 vH_kinds), (qW 0, rI cy 7 vW_cells), (qH 8, rI cy 4 vH_sorts), (qH 10, rI cy 36 vH_next), (qW 2, rI cy 7 vW_inFront), (qH 15, rI cy 7 vH_sizes), (qH 11, rI cy 36 vH_width)]) (ws2 := (wX8_dampSteps cy aN qN aH qH qW aH0 qD vN_26 vH vW vD vD_now vW_who vH_kinds vW_cells vH_sorts vH_next vW_inFront vH_sizes vH_width)) (kRunV (As := [.int 2]) (rest := []) ⟨hx, hb, hml, hown, ht0⟩ (kX8_refuse l D cy _ aN qN aH vN (2 : Int32) r26 vN_26 hc26 _ rfl) (cwV 1 ht0 (gV wd504 wd505 wd506 wd57 wd507) rfl rfl rfl (by decide +kernel) ⟨Nat.le_of_ble_eq_true rfl, Nat.le_of_ble_eq_true rfl⟩) hK hN hP hD [0] rfl (by decide) 0 7 rfl rfl rfl hl.1 rfl (Nat.le_of_ble_eq_true rfl) dX8_dampSteps_26 ⟨Nat.zero_le _, Nat.zero_le _⟩) hP hD hS hA [0] [1, 2, 3, 4, 5, 6, 7, 8, 9, 10, 11, 12] rfl rfl (by decide) (by decide) [12, 0, 1, 2, 3, 4, 5, 6, 7, 8, 9, 10, 11] (by decide) rfl rfl (fun H locs hP hD hS => ?_)
      cases hok
      subst hQe; exact W.iret hx hb hr (fun t ht hW => ⟨⟨_, (), rfl, rfl, by rw [ht]; exact hP, va_K.moved hW.alike hK, hD⟩, hS.F ht⟩) hS.2.2 dX8_dampSteps_29
  · have hok := k_pos c7 hok
    refine lv_aload_n hx hb dX8_dampSteps_10 rfl (lv_at hl 0 rfl) ?_
    refine lv_iconst (v := 1) hx hb dX8_dampSteps_11 (by decide) ?_
    obtain ⟨⟨r12, vN_12⟩, hc12, hok⟩ := k_bind hok
    try dsimp only at hok
    refine kCi (wc := (wX8_refuse cy aN qN aH vN)) (wc2 := (wX8_refuse cy aN qN aH vN_12)) (wr := [(aH, oX4 vH qH), (qN 2, oX6 vW qW aH0), (qN 1, oX1 vD qD), (qD 0, rI cy 9 vD_now), (qW 1, rI cy 36 vW_who), (qH 14, rI cy 7 vH_kinds), (qW 0, rI cy 7 vW_cells), (qH 8, rI cy 4 vH_sorts), (qH 10, rI cy 36 vH_next), (qW 2, rI cy 7 vW_inFront), (qH 15, rI cy 7 vH_sizes), (qH 11, rI cy 36 vH_width)]) (ws2 := (wX8_dampSteps cy aN qN aH qH qW aH0 qD vN_12 vH vW vD vD_now vW_who vH_kinds vW_cells vH_sorts vH_next vW_inFront vH_sizes vH_width)) (kRunV (As := [.int 1]) (rest := []) ⟨hx, hb, hml, hown, ht0⟩ (kX8_refuse l D cy _ aN qN aH vN (1 : Int32) r12 vN_12 hc12 _ rfl) (cwV 1 ht0 (gV wd504 wd505 wd506 wd57 wd507) rfl rfl rfl (by decide +kernel) ⟨Nat.le_of_ble_eq_true rfl, Nat.le_of_ble_eq_true rfl⟩) hK hN hP hD [0] rfl (by decide) 0 7 rfl rfl rfl hl.1 rfl (Nat.le_of_ble_eq_true rfl) dX8_dampSteps_12 ⟨Nat.zero_le _, Nat.zero_le _⟩) hP hD hS hA [0] [1, 2, 3, 4, 5, 6, 7, 8, 9, 10, 11, 12] rfl rfl (by decide) (by decide) [12, 0, 1, 2, 3, 4, 5, 6, 7, 8, 9, 10, 11] (by decide) rfl rfl (fun H locs hP hD hS => ?_)
    cases hok
    subst hQe; exact W.iret hx hb hr (fun t ht hW => ⟨⟨_, (), rfl, rfl, by rw [ht]; exact hP, va_K.moved hW.alike hK, hD⟩, hS.F ht⟩) hS.2.2 dX8_dampSteps_15
def wsX8_dampWhen : List Cond := .code yX8_dampWhen cX8_dampWhen 7 (some .int) :: W0
abbrev wX8_dampWhen (cy : Nat → ClassId) (aN : Nat) (qN : Nat → Nat) (aH : Nat) (qH : Nat → Nat) (qD : Nat → Nat) (qW : Nat → Nat) (aH0 : Nat) (vN : Nat → Int32) (vH : Nat → Int32) (vD : Nat → Int32) (vD_now : Nat → Int32) (vH_places : Nat → Int32) (vW : Nat → Int32) (vW_who : Nat → Int32) (vH_kinds : Nat → Int32) (vW_cells : Nat → Int32) (vH_sorts : Nat → Int32) (vH_next : Nat → Int32) (vW_inFront : Nat → Int32) (vH_sizes : Nat → Int32) (vH_width : Nat → Int32) : va_W := [(aN, oX8 vN qN aH), (aH, oX4 vH qH), (qN 1, oX1 vD qD), (qD 0, rI cy 9 vD_now), (qH 9, rI cy 4 vH_places), (qN 2, oX6 vW qW aH0), (qW 1, rI cy 36 vW_who), (qH 14, rI cy 7 vH_kinds), (qW 0, rI cy 7 vW_cells), (qH 8, rI cy 4 vH_sorts), (qH 10, rI cy 36 vH_next), (qW 2, rI cy 7 vW_inFront), (qH 15, rI cy 7 vH_sizes), (qH 11, rI cy 36 vH_width)]
set_option maxHeartbeats 4000000 in
set_option maxRecDepth 100000 in
theorem kX8_dampWhen (l : Launch) (D : va_G) (cy : Nat → ClassId) (sz : Nat) (aN : Nat) (qN : Nat → Nat) (aH : Nat) (qH : Nat → Nat) (qD : Nat → Nat) (qW : Nat → Nat) (aH0 : Nat) (vN : Nat → Int32) (vH : Nat → Int32) (vD : Nat → Int32) (vD_now : Nat → Int32) (vH_places : Nat → Int32) (vW : Nat → Int32) (vW_who : Nat → Int32) (vH_kinds : Nat → Int32) (vW_cells : Nat → Int32) (vH_sorts : Nat → Int32) (vH_next : Nat → Int32) (vW_inFront : Nat → Int32) (vH_sizes : Nat → Int32) (vH_width : Nat → Int32) (x1 : Int32) (x2 : Int32) (x3 : Int32) (x4 : Int32) (zr : Int32) (z_vN : Nat → Int32) (z_vW : Nat → Int32) (z_vW_who : Nat → Int32) (z_vW_cells : Nat → Int32) (z_vW_inFront : Nat → Int32) (z_aH0 : Nat) (hok : fX8_dampWhen aH aH0 vN vH vD vD_now vH_places vW vW_who vH_kinds vW_cells vH_sorts vH_next vW_inFront vH_sizes vH_width x1 x2 x3 x4 = some (zr, z_vN, z_vW, z_vW_who, z_vW_cells, z_vW_inFront, z_aH0)) (A : Nat → Prop) (hAe : va_A (wX8_dampWhen cy aN qN aH qH qD qW aH0 vN vH vD vD_now vH_places vW vW_who vH_kinds vW_cells vH_sorts vH_next vW_inFront vH_sizes vH_width) sz = A) : Met l yX8_dampWhen wsX8_dampWhen ({ frames := 4, cells := 0, slots := 0, locals := 95 } : Room) (kPre D cy [.ref aN, .int x1, .int x2, .int x3, .int x4] (wX8_dampWhen cy aN qN aH qH qD qW aH0 vN vH vD vD_now vH_places vW vW_who vH_kinds vW_cells vH_sorts vH_next vW_inFront vH_sizes vH_width) sz) (kQi D cy zr A (wX8_dampWhen cy aN qN aH qH qD qW z_aH0 z_vN vH vD vD_now vH_places z_vW z_vW_who vH_kinds z_vW_cells vH_sorts vH_next z_vW_inFront vH_sizes vH_width)) 0 0 A := by
  refine Met.ofW (cc := cX8_dampWhen) (maxL := 7) (ret := (some .int)) (by decide) rfl ?_
  intro p e s m args below meth c s₁ B hml hv
  obtain ⟨rfl, hsz, hP, hK, hD0, hN⟩ := hv
  have hx := B.exec
  have hb := B.bytes
  have hr := B.returns
  have ht0 : ∀ w ∈ W0, w.before _ s = true := fun w h => atoms_spec (ws := wsX8_dampWhen) B.pre w (List.mem_cons_of_mem _ h)
  have hown : s.vm.findClass RX8 = some m.cls := findClass_of_methodNamed B.named
  have hlocks := B.notSynchronized
  subst hsz
  have hD : va_D A (wX8_dampWhen cy aN qN aH qH qD qW aH0 vN vH vD vD_now vH_places vW vW_who vH_kinds vW_cells vH_sorts vH_next vW_inFront vH_sizes vH_width) := by rw [← hAe]; exact hD0.self
  have hA : ∀ q : Nat, s.heap.size ≤ q → A q := fun q h => by rw [← hAe]; exact Or.inr h
  have hS : va_S A s.heap s.heap [] := va_S.rf
  have hl := lv_entry ([.ref aN, .int x1, .int x2, .int x3, .int x4]) (n := 7) (Nat.le_of_ble_eq_true rfl)
  rw [lg_entry_eq]
  generalize (lg_sl ([.ref aN, .int x1, .int x2, .int x3, .int x4]) ++ List.replicate (7 - (lg_sl ([.ref aN, .int x1, .int x2, .int x3, .int x4])).length) Slot.unset).toArray = ls at hl ⊢
  have hl : lv_has ls 7 [(0, .ref aN), (1, .int x1), (2, .int x2), (3, .int x3), (4, .int x4)] := hl
  generalize hQe : MQ below (kQi D cy zr A (wX8_dampWhen cy aN qN aH qH qD qW z_aH0 z_vN vH vD vD_now vH_places z_vW z_vW_who vH_kinds z_vW_cells vH_sorts vH_next z_vW_inFront vH_sizes vH_width)) ([.ref aN, .int x1, .int x2, .int x3, .int x4] : List Value).toArray s 0 0 A = Q
  have L91 : ∀ (fuel : Nat) (y5_91 : Int32) (y6_91 : Int32) (vW_cells_91 : Nat → Int32) (vW_inFront_91 : Nat → Int32) (vW_who_91 : Nat → Int32) (vW_91 : Nat → Int32), ∀ (H : Heap) (locs : List Loc) (ls : Array Slot), va_P D vwCl (wX8_dampWhen cy aN qN aH qH qD qW aH vN vH vD vD_now vH_places vW_91 vW_who_91 vH_kinds vW_cells_91 vH_sorts vH_next vW_inFront_91 vH_sizes vH_width) H → va_D A (wX8_dampWhen cy aN qN aH qH qD qW aH vN vH vD vD_now vH_places vW_91 vW_who_91 vH_kinds vW_cells_91 vH_sorts vH_next vW_inFront_91 vH_sizes vH_width) → va_S A s.heap H locs → lv_has ls 7 [(0, .ref aN), (1, .int x1), (2, .int x2), (4, .int x4), (5, .int y5_91), (6, .int y6_91)] → lp (fX8_dampWhen_B91 aH vN vH vH_kinds vH_next vH_sizes vH_width x1 x2 x4) fuel (y5_91, y6_91, vW_cells_91, vW_inFront_91, vW_who_91, vW_91) = some (zr, z_vN, z_vW, z_vW_who, z_vW_cells, z_vW_inFront, z_aH0) → W p l e ({ frames := 4, cells := 0, slots := 0, locals := 95 } : Room) s m ([.ref aN, .int x1, .int x2, .int x3, .int x4] : List Value).toArray below meth c H locs 0 0 Q (F0 m 91 ls []) := by
    intro fuel
    induction fuel with
    | zero => intro y5_91 y6_91 vW_cells_91 vW_inFront_91 vW_who_91 vW_91 H locs ls hP hD hS hl hok; exact (lp_0 hok).elim
    | succ fuel ih91 =>
      intro y5_91 y6_91 vW_cells_91 vW_inFront_91 vW_who_91 vW_91 H locs ls hP hD hS hl hok
      obtain ⟨y91, hok, hL91, hR91⟩ := lp_step hok
      unfold fX8_dampWhen_B91 at hok
      try dsimp only at hok
      refine lv_iload hx hb dX8_dampWhen_91 (lv_at hl 5 rfl) ?_
      refine lv_iload hx hb dX8_dampWhen_93 (lv_at hl 3 rfl) ?_
      refine lv_icmp_gt (tgt := 135) hx hb dX8_dampWhen_95 (by decide) (fun c95 => ?_) (fun c95 => ?_)
      · have hok := k_pos c95 hok
        obtain ⟨e91, hok, he91⟩ := ex_some hok
        have hok := hok.trans (congrArg some (hL91 _ he91))
        refine lv_aload_n hx hb dX8_dampWhen_135 rfl (lv_at hl 0 rfl) ?_
        refine lv_iconst (v := 0) hx hb dX8_dampWhen_136 (by decide) ?_
        obtain ⟨⟨r137, vN_137⟩, hc137, hok⟩ := k_bind hok
        try dsimp only at hok
        refine kCi (wc := (wX8_answer cy aN qN aH vN)) (wc2 := (wX8_answer cy aN qN aH vN_137)) (wr := [(aH, oX4 vH qH), (qN 1, oX1 vD qD), (qD 0, rI cy 9 vD_now), (qH 9, rI cy 4 vH_places), (qN 2, oX6 vW_91 qW aH), (qW 1, rI cy 36 vW_who_91), (qH 14, rI cy 7 vH_kinds), (qW 0, rI cy 7 vW_cells_91), (qH 8, rI cy 4 vH_sorts), (qH 10, rI cy 36 vH_next), (qW 2, rI cy 7 vW_inFront_91), (qH 15, rI cy 7 vH_sizes), (qH 11, rI cy 36 vH_width)]) (ws2 := (wX8_dampWhen cy aN qN aH qH qD qW aH vN_137 vH vD vD_now vH_places vW_91 vW_who_91 vH_kinds vW_cells_91 vH_sorts vH_next vW_inFront_91 vH_sizes vH_width)) (kRunV (As := [.int 0]) (rest := []) ⟨hx, hb, hml, hown, ht0⟩ (kX8_answer l D cy _ aN qN aH vN (0 : Int32) r137 vN_137 hc137 _ rfl) (cwV 1 ht0 (gV wd538 wd539 wd540 wd57 wd541) rfl rfl rfl (by decide +kernel) ⟨Nat.le_of_ble_eq_true rfl, Nat.le_of_ble_eq_true rfl⟩) hK hN hP hD [0] rfl (by decide) 0 7 rfl rfl rfl hl.1 rfl (Nat.le_of_ble_eq_true rfl) dX8_dampWhen_137 ⟨Nat.zero_le _, Nat.zero_le _⟩) hP hD hS hA [0] [1, 2, 3, 4, 5, 6, 7, 8, 9, 10, 11, 12, 13] rfl rfl (by decide) (by decide) [13, 0, 1, 2, 3, 4, 5, 6, 7, 8, 9, 10, 11, 12] (by decide) rfl rfl (fun H locs hP hD hS => ?_)
        cases hok
        subst hQe; exact W.iret hx hb hr (fun t ht hW => ⟨⟨_, (), rfl, rfl, by rw [ht]; exact hP, va_K.moved hW.alike hK, hD⟩, hS.F ht⟩) hS.2.2 dX8_dampWhen_140
      · have hok := k_neg c95 hok
        refine lv_aload_n hx hb dX8_dampWhen_98 rfl (lv_at hl 0 rfl) ?_
        refine va_get (D := D) (ci := 7) (v := .ref (qN 2)) (C := RX8) (T := TX8) (N := 9) hx hb ht0 niX8 hown hK hP 0 rfl rfl 2 (by decide) (ht0 _ wd578) (fun _ h9 => h9) rfl dX8_dampWhen_99 ?_
        obtain ⟨⟨vW_102, vW_cells_102, vW_who_102, vW_inFront_102⟩, hc102, hok⟩ := k_bind hok
        try dsimp only at hok
        refine kCv (wc := (wX6_passDamp cy (qN 2) qW aH qH vW_91 vH vW_cells_91 vH_next vW_who_91 vW_inFront_91 vH_sizes vH_width vH_kinds)) (wc2 := (wX6_passDamp cy (qN 2) qW aH qH vW_102 vH vW_cells_102 vH_next vW_who_102 vW_inFront_102 vH_sizes vH_width vH_kinds)) (wr := [(aN, oX8 vN qN aH), (qN 1, oX1 vD qD), (qD 0, rI cy 9 vD_now), (qH 9, rI cy 4 vH_places), (qH 8, rI cy 4 vH_sorts)]) (ws2 := (wX8_dampWhen cy aN qN aH qH qD qW aH vN vH vD vD_now vH_places vW_102 vW_who_102 vH_kinds vW_cells_102 vH_sorts vH_next vW_inFront_102 vH_sizes vH_width)) (kRunV (As := []) (rest := []) ⟨hx, hb, hml, hown, ht0⟩ (kX6_passDamp l D cy _ (qN 2) qW aH qH vW_91 vH vW_cells_91 vH_next vW_who_91 vW_inFront_91 vH_sizes vH_width vH_kinds vW_102 vW_cells_102 vW_who_102 vW_inFront_102 hc102 _ rfl) (cwV 0 ht0 (gV wd673 wd674 wd675 wd114 wd676) rfl rfl rfl (by decide +kernel) ⟨Nat.le_of_ble_eq_true rfl, Nat.le_of_ble_eq_true rfl⟩) hK hN hP hD [5, 1, 8, 10, 6, 11, 12, 13, 7] rfl (by decide) 5 5 rfl rfl rfl hl.1 rfl (Nat.le_of_ble_eq_true rfl) dX8_dampWhen_102 ⟨Nat.zero_le _, Nat.zero_le _⟩) hP hD hS hA [5, 1, 8, 10, 6, 11, 12, 13, 7] [0, 2, 3, 4, 9] rfl rfl (by decide) (by decide) [0, 6, 1, 2, 3, 5, 9, 13, 7, 4, 8, 10, 11, 12] (by decide) rfl rfl (fun H locs hP hD hS => ?_)
        refine lv_aload_n hx hb dX8_dampWhen_105 rfl (lv_at hl 0 rfl) ?_
        refine va_get (D := D) (ci := 7) (v := .ref (qN 2)) (C := RX8) (T := TX8) (N := 9) hx hb ht0 niX8 hown hK hP 0 rfl rfl 2 (by decide) (ht0 _ wd578) (fun _ h9 => h9) rfl dX8_dampWhen_106 ?_
        refine lv_iload_n hx hb dX8_dampWhen_109 rfl (lv_at hl 1 rfl) ?_
        obtain ⟨r110, hc110, hok⟩ := k_bind hok
        refine kCi (wc := (wX6_cellOf cy (qN 2) qW aH vW_102 vW_cells_102)) (wc2 := (wX6_cellOf cy (qN 2) qW aH vW_102 vW_cells_102)) (wr := [(aN, oX8 vN qN aH), (aH, oX4 vH qH), (qN 1, oX1 vD qD), (qD 0, rI cy 9 vD_now), (qH 9, rI cy 4 vH_places), (qW 1, rI cy 36 vW_who_102), (qH 14, rI cy 7 vH_kinds), (qH 8, rI cy 4 vH_sorts), (qH 10, rI cy 36 vH_next), (qW 2, rI cy 7 vW_inFront_102), (qH 15, rI cy 7 vH_sizes), (qH 11, rI cy 36 vH_width)]) (ws2 := (wX8_dampWhen cy aN qN aH qH qD qW aH vN vH vD vD_now vH_places vW_102 vW_who_102 vH_kinds vW_cells_102 vH_sorts vH_next vW_inFront_102 vH_sizes vH_width)) (kRunV (As := [.int x1]) (rest := []) ⟨hx, hb, hml, hown, ht0⟩ (kX6_cellOf l D cy _ (qN 2) qW aH vW_102 vW_cells_102 x1 r110 hc110 _ rfl) (cwV 1 ht0 (gV wd594 wd163 wd164 wd114 wd165) rfl rfl rfl (by decide +kernel) ⟨Nat.le_of_ble_eq_true rfl, Nat.le_of_ble_eq_true rfl⟩) hK hN hP hD [5, 8] rfl (by decide) 5 5 rfl rfl rfl hl.1 rfl (Nat.le_of_ble_eq_true rfl) dX8_dampWhen_110 ⟨Nat.zero_le _, Nat.zero_le _⟩) hP hD hS hA [5, 8] [0, 1, 2, 3, 4, 6, 7, 9, 10, 11, 12, 13] rfl rfl (by decide) (by decide) [0, 1, 2, 3, 4, 12, 5, 6, 13, 7, 8, 9, 10, 11] (by decide) rfl rfl (fun H locs hP hD hS => ?_)
        refine lv_iload hx hb dX8_dampWhen_113 (lv_at hl 4 rfl) ?_
        refine lv_iload_n hx hb dX8_dampWhen_115 rfl (lv_at hl 2 rfl) ?_
        obtain ⟨r116, hc116, hok⟩ := k_bind hok
        refine kCi (wc := (wX8_cellAt cy )) (wc2 := (wX8_cellAt cy )) (wr := [(aN, oX8 vN qN aH), (aH, oX4 vH qH), (qN 1, oX1 vD qD), (qD 0, rI cy 9 vD_now), (qH 9, rI cy 4 vH_places), (qN 2, oX6 vW_102 qW aH), (qW 1, rI cy 36 vW_who_102), (qH 14, rI cy 7 vH_kinds), (qW 0, rI cy 7 vW_cells_102), (qH 8, rI cy 4 vH_sorts), (qH 10, rI cy 36 vH_next), (qW 2, rI cy 7 vW_inFront_102), (qH 15, rI cy 7 vH_sizes), (qH 11, rI cy 36 vH_width)]) (ws2 := (wX8_dampWhen cy aN qN aH qH qD qW aH vN vH vD vD_now vH_places vW_102 vW_who_102 vH_kinds vW_cells_102 vH_sorts vH_next vW_inFront_102 vH_sizes vH_width)) (kRunS (As := [.int y5_91, .int x2]) (rest := [.int r110]) ⟨hx, hb, hml, hown, ht0⟩ (kX8_cellAt l D cy _ y5_91 x2 r116 hc116 _ rfl) (va_cwS 2 ht0 (gS wd570 wd261 wd57 wd260) rfl rfl rfl (by decide +kernel) ⟨Nat.le_of_ble_eq_true rfl, Nat.le_of_ble_eq_true rfl⟩) hK hN hP hD [] rfl (by decide) rfl hl.1 rfl (Nat.le_of_ble_eq_true rfl) dX8_dampWhen_116 ⟨Nat.zero_le _, Nat.zero_le _⟩) hP hD hS hA [] [0, 1, 2, 3, 4, 5, 6, 7, 8, 9, 10, 11, 12, 13] rfl rfl (by decide) (by decide) [0, 1, 2, 3, 4, 5, 6, 7, 8, 9, 10, 11, 12, 13] (by decide) rfl rfl (fun H locs hP hD hS => ?_)
        refine lv_icmp_ne (tgt := 129) hx hb dX8_dampWhen_119 (by decide) (fun c119 => ?_) (fun c119 => ?_)
        · have hok := k_neg c119 hok
          refine lv_iinc (v := (y6_91 + 1)) (lv' := [(6, .int (y6_91 + 1)), (0, .ref aN), (1, .int x1), (2, .int x2), (4, .int x4), (5, .int y5_91)]) hx hb dX8_dampWhen_129 hl (k := 5) rfl (by first | rfl | decide) (by decide) rfl (fun ls hl => ?_)
          refine lv_goto (tgt := 91) hx hb dX8_dampWhen_132 (by decide) ?_
          exact ih91 y5_91 (y6_91 + 1) vW_cells_102 vW_inFront_102 vW_who_102 vW_102 H locs ls hP hD hS (lv_sub hl [1, 2, 3, 4, 5, 0] rfl) (hR91 _ (Option.some.inj hok).symm)
        · have hok := k_pos c119 hok
          obtain ⟨e91, hok, he91⟩ := ex_some hok
          have hok := hok.trans (congrArg some (hL91 _ he91))
          refine lv_aload_n hx hb dX8_dampWhen_122 rfl (lv_at hl 0 rfl) ?_
          refine lv_iload hx hb dX8_dampWhen_123 (lv_at hl 5 rfl) ?_
          obtain ⟨⟨r125, vN_125⟩, hc125, hok⟩ := k_bind hok
          try dsimp only at hok
          refine kCi (wc := (wX8_answer cy aN qN aH vN)) (wc2 := (wX8_answer cy aN qN aH vN_125)) (wr := [(aH, oX4 vH qH), (qN 1, oX1 vD qD), (qD 0, rI cy 9 vD_now), (qH 9, rI cy 4 vH_places), (qN 2, oX6 vW_102 qW aH), (qW 1, rI cy 36 vW_who_102), (qH 14, rI cy 7 vH_kinds), (qW 0, rI cy 7 vW_cells_102), (qH 8, rI cy 4 vH_sorts), (qH 10, rI cy 36 vH_next), (qW 2, rI cy 7 vW_inFront_102), (qH 15, rI cy 7 vH_sizes), (qH 11, rI cy 36 vH_width)]) (ws2 := (wX8_dampWhen cy aN qN aH qH qD qW aH vN_125 vH vD vD_now vH_places vW_102 vW_who_102 vH_kinds vW_cells_102 vH_sorts vH_next vW_inFront_102 vH_sizes vH_width)) (kRunV (As := [.int y6_91]) (rest := []) ⟨hx, hb, hml, hown, ht0⟩ (kX8_answer l D cy _ aN qN aH vN y6_91 r125 vN_125 hc125 _ rfl) (cwV 1 ht0 (gV wd538 wd539 wd540 wd57 wd541) rfl rfl rfl (by decide +kernel) ⟨Nat.le_of_ble_eq_true rfl, Nat.le_of_ble_eq_true rfl⟩) hK hN hP hD [0] rfl (by decide) 0 7 rfl rfl rfl hl.1 rfl (Nat.le_of_ble_eq_true rfl) dX8_dampWhen_125 ⟨Nat.zero_le _, Nat.zero_le _⟩) hP hD hS hA [0] [1, 2, 3, 4, 5, 6, 7, 8, 9, 10, 11, 12, 13] rfl rfl (by decide) (by decide) [13, 0, 1, 2, 3, 4, 5, 6, 7, 8, 9, 10, 11, 12] (by decide) rfl rfl (fun H locs hP hD hS => ?_)
          cases hok
          subst hQe; exact W.iret hx hb hr (fun t ht hW => ⟨⟨_, (), rfl, rfl, by rw [ht]; exact hP, va_K.moved hW.alike hK, hD⟩, hS.F ht⟩) hS.2.2 dX8_dampWhen_128
  unfold fX8_dampWhen at hok
  obtain ⟨H, hH⟩ : ∃ H, H = s.heap := ⟨_, rfl⟩
  obtain ⟨locs, hlc⟩ : ∃ x : List Loc, x = [] := ⟨_, rfl⟩
  have hP : va_P D vwCl (wX8_dampWhen cy aN qN aH qH qD qW aH0 vN vH vD vD_now vH_places vW vW_who vH_kinds vW_cells vH_sorts vH_next vW_inFront vH_sizes vH_width) H := by rw [hH]; exact hP
  have hS : va_S A s.heap H locs := by rw [hH, hlc]; exact hS
  rw [show W p l e _ s m _ below meth c s.heap [] = W p l e _ s m _ below meth c H locs from by rw [hH, hlc]]
  refine lv_aload_n hx hb dX8_dampWhen_0 rfl (lv_at hl 0 rfl) ?_
  refine va_get (D := D) (ci := 7) (v := .ref aH) (C := RX8) (T := TX8) (N := 9) hx hb ht0 niX8 hown hK hP 0 rfl rfl 5 (by decide) (ht0 _ wd522) (fun _ h9 => h9) rfl dX8_dampWhen_1 ?_
  refine lv_iload_n hx hb dX8_dampWhen_4 rfl (lv_at hl 1 rfl) ?_
  obtain ⟨r5, hc5, hok⟩ := k_bind hok
  refine kCi (wc := (wX4_hasThing cy aH qH vH)) (wc2 := (wX4_hasThing cy aH qH vH)) (wr := [(aN, oX8 vN qN aH), (qN 1, oX1 vD qD), (qD 0, rI cy 9 vD_now), (qH 9, rI cy 4 vH_places), (qN 2, oX6 vW qW aH0), (qW 1, rI cy 36 vW_who), (qH 14, rI cy 7 vH_kinds), (qW 0, rI cy 7 vW_cells), (qH 8, rI cy 4 vH_sorts), (qH 10, rI cy 36 vH_next), (qW 2, rI cy 7 vW_inFront), (qH 15, rI cy 7 vH_sizes), (qH 11, rI cy 36 vH_width)]) (ws2 := (wX8_dampWhen cy aN qN aH qH qD qW aH0 vN vH vD vD_now vH_places vW vW_who vH_kinds vW_cells vH_sorts vH_next vW_inFront vH_sizes vH_width)) (kRunV (As := [.int x1]) (rest := []) ⟨hx, hb, hml, hown, ht0⟩ (kX4_hasThing l D cy _ aH qH vH x1 r5 hc5 _ rfl) (cwV 1 ht0 (gV wd551 wd552 wd553 wd9 wd554) rfl rfl rfl (by decide +kernel) ⟨Nat.le_of_ble_eq_true rfl, Nat.le_of_ble_eq_true rfl⟩) hK hN hP hD [1] rfl (by decide) 1 3 rfl rfl rfl hl.1 rfl (Nat.le_of_ble_eq_true rfl) dX8_dampWhen_5 ⟨Nat.zero_le _, Nat.zero_le _⟩) hP hD hS hA [1] [0, 2, 3, 4, 5, 6, 7, 8, 9, 10, 11, 12, 13] rfl rfl (by decide) (by decide) [0, 13, 1, 2, 3, 4, 5, 6, 7, 8, 9, 10, 11, 12] (by decide) rfl rfl (fun H locs hP hD hS => ?_)
  refine lv_if_ne (tgt := 17) hx hb dX8_dampWhen_8 (by decide) (fun c8 => ?_) (fun c8 => ?_)
  · have hok := k_neg c8 hok
    refine lv_aload_n hx hb dX8_dampWhen_17 rfl (lv_at hl 0 rfl) ?_
    refine va_get (D := D) (ci := 7) (v := .ref (qN 1)) (C := RX8) (T := TX8) (N := 9) hx hb ht0 niX8 hown hK hP 0 rfl rfl 1 (by decide) (ht0 _ wd527) (fun _ h9 => h9) rfl dX8_dampWhen_18 ?_
    refine lv_iload_n hx hb dX8_dampWhen_21 rfl (lv_at hl 1 rfl) ?_
    obtain ⟨r22, hc22, hok⟩ := k_bind hok
    refine kCi (wc := (wX1_cellOf cy (qN 1) qD vD vD_now)) (wc2 := (wX1_cellOf cy (qN 1) qD vD vD_now)) (wr := [(aN, oX8 vN qN aH), (aH, oX4 vH qH), (qH 9, rI cy 4 vH_places), (qN 2, oX6 vW qW aH0), (qW 1, rI cy 36 vW_who), (qH 14, rI cy 7 vH_kinds), (qW 0, rI cy 7 vW_cells), (qH 8, rI cy 4 vH_sorts), (qH 10, rI cy 36 vH_next), (qW 2, rI cy 7 vW_inFront), (qH 15, rI cy 7 vH_sizes), (qH 11, rI cy 36 vH_width)]) (ws2 := (wX8_dampWhen cy aN qN aH qH qD qW aH0 vN vH vD vD_now vH_places vW vW_who vH_kinds vW_cells vH_sorts vH_next vW_inFront vH_sizes vH_width)) (kRunV (As := [.int x1]) (rest := []) ⟨hx, hb, hml, hown, ht0⟩ (kX1_cellOf l D cy _ (qN 1) qD vD vD_now x1 r22 hc22 _ rfl) (cwV 1 ht0 (gV wd556 wd82 wd83 wd74 wd84) rfl rfl rfl (by decide +kernel) ⟨Nat.le_of_ble_eq_true rfl, Nat.le_of_ble_eq_true rfl⟩) hK hN hP hD [2, 3] rfl (by decide) 2 1 rfl rfl rfl hl.1 rfl (Nat.le_of_ble_eq_true rfl) dX8_dampWhen_22 ⟨Nat.zero_le _, Nat.zero_le _⟩) hP hD hS hA [2, 3] [0, 1, 4, 5, 6, 7, 8, 9, 10, 11, 12, 13] rfl rfl (by decide) (by decide) [0, 1, 12, 13, 2, 3, 4, 5, 6, 7, 8, 9, 10, 11] (by decide) rfl rfl (fun H locs hP hD hS => ?_)
    obtain ⟨r25, hc25, hok⟩ := k_bind hok
    refine kCi (wc := (wX8_ringOfCell cy )) (wc2 := (wX8_ringOfCell cy )) (wr := [(aN, oX8 vN qN aH), (aH, oX4 vH qH), (qN 1, oX1 vD qD), (qD 0, rI cy 9 vD_now), (qH 9, rI cy 4 vH_places), (qN 2, oX6 vW qW aH0), (qW 1, rI cy 36 vW_who), (qH 14, rI cy 7 vH_kinds), (qW 0, rI cy 7 vW_cells), (qH 8, rI cy 4 vH_sorts), (qH 10, rI cy 36 vH_next), (qW 2, rI cy 7 vW_inFront), (qH 15, rI cy 7 vH_sizes), (qH 11, rI cy 36 vH_width)]) (ws2 := (wX8_dampWhen cy aN qN aH qH qD qW aH0 vN vH vD vD_now vH_places vW vW_who vH_kinds vW_cells vH_sorts vH_next vW_inFront vH_sizes vH_width)) (kRunS (As := [.int r22]) (rest := []) ⟨hx, hb, hml, hown, ht0⟩ (kX8_ringOfCell l D cy _ r22 r25 hc25 _ rfl) (va_cwS 1 ht0 (gS wd557 wd58 wd57 wd56) rfl rfl rfl (by decide +kernel) ⟨Nat.le_of_ble_eq_true rfl, Nat.le_of_ble_eq_true rfl⟩) hK hN hP hD [] rfl (by decide) rfl hl.1 rfl (Nat.le_of_ble_eq_true rfl) dX8_dampWhen_25 ⟨Nat.zero_le _, Nat.zero_le _⟩) hP hD hS hA [] [0, 1, 2, 3, 4, 5, 6, 7, 8, 9, 10, 11, 12, 13] rfl rfl (by decide) (by decide) [0, 1, 2, 3, 4, 5, 6, 7, 8, 9, 10, 11, 12, 13] (by decide) rfl rfl (fun H locs hP hD hS => ?_)
    refine lv_istore (lv' := [(5, .int r25), (0, .ref aN), (1, .int x1), (2, .int x2), (3, .int x3), (4, .int x4)]) hx hb dX8_dampWhen_28 hl (by decide) rfl (fun ls hl => ?_)
    refine lv_aload_n hx hb dX8_dampWhen_30 rfl (lv_at hl 1 rfl) ?_
    refine va_get (D := D) (ci := 7) (v := .ref aH) (C := RX8) (T := TX8) (N := 9) hx hb ht0 niX8 hown hK hP 0 rfl rfl 5 (by decide) (ht0 _ wd522) (fun _ h9 => h9) rfl dX8_dampWhen_31 ?_
    refine lv_iload hx hb dX8_dampWhen_34 (lv_at hl 0 rfl) ?_
    refine lv_iload_n hx hb dX8_dampWhen_36 rfl (lv_at hl 3 rfl) ?_
    obtain ⟨r37, hc37, hok⟩ := k_bind hok
    refine kCi (wc := (wX4_hasPlace cy aH qH vH vH_places)) (wc2 := (wX4_hasPlace cy aH qH vH vH_places)) (wr := [(aN, oX8 vN qN aH), (qN 1, oX1 vD qD), (qD 0, rI cy 9 vD_now), (qN 2, oX6 vW qW aH0), (qW 1, rI cy 36 vW_who), (qH 14, rI cy 7 vH_kinds), (qW 0, rI cy 7 vW_cells), (qH 8, rI cy 4 vH_sorts), (qH 10, rI cy 36 vH_next), (qW 2, rI cy 7 vW_inFront), (qH 15, rI cy 7 vH_sizes), (qH 11, rI cy 36 vH_width)]) (ws2 := (wX8_dampWhen cy aN qN aH qH qD qW aH0 vN vH vD vD_now vH_places vW vW_who vH_kinds vW_cells vH_sorts vH_next vW_inFront vH_sizes vH_width)) (kRunV (As := [.int r25, .int x2]) (rest := []) ⟨hx, hb, hml, hown, ht0⟩ (kX4_hasPlace l D cy _ aH qH vH vH_places r25 x2 r37 hc37 _ rfl) (cwV 2 ht0 (gV wd566 wd567 wd568 wd9 wd569) rfl rfl rfl (by decide +kernel) ⟨Nat.le_of_ble_eq_true rfl, Nat.le_of_ble_eq_true rfl⟩) hK hN hP hD [1, 4] rfl (by decide) 1 3 rfl rfl rfl hl.1 rfl (Nat.le_of_ble_eq_true rfl) dX8_dampWhen_37 ⟨Nat.zero_le _, Nat.zero_le _⟩) hP hD hS hA [1, 4] [0, 2, 3, 5, 6, 7, 8, 9, 10, 11, 12, 13] rfl rfl (by decide) (by decide) [0, 12, 1, 2, 13, 3, 4, 5, 6, 7, 8, 9, 10, 11] (by decide) rfl rfl (fun H locs hP hD hS => ?_)
    refine lv_if_ne (tgt := 49) hx hb dX8_dampWhen_40 (by decide) (fun c40 => ?_) (fun c40 => ?_)
    · have hok := k_neg c40 hok
      refine lv_iload_n hx hb dX8_dampWhen_49 rfl (lv_at hl 4 rfl) ?_
      refine lv_iload hx hb dX8_dampWhen_50 (lv_at hl 5 rfl) ?_
      obtain ⟨r52, hc52, hok⟩ := k_bind hok
      refine kCi (wc := (wX8_areDampNumbers cy )) (wc2 := (wX8_areDampNumbers cy )) (wr := [(aN, oX8 vN qN aH), (aH, oX4 vH qH), (qN 1, oX1 vD qD), (qD 0, rI cy 9 vD_now), (qH 9, rI cy 4 vH_places), (qN 2, oX6 vW qW aH0), (qW 1, rI cy 36 vW_who), (qH 14, rI cy 7 vH_kinds), (qW 0, rI cy 7 vW_cells), (qH 8, rI cy 4 vH_sorts), (qH 10, rI cy 36 vH_next), (qW 2, rI cy 7 vW_inFront), (qH 15, rI cy 7 vH_sizes), (qH 11, rI cy 36 vH_width)]) (ws2 := (wX8_dampWhen cy aN qN aH qH qD qW aH0 vN vH vD vD_now vH_places vW vW_who vH_kinds vW_cells vH_sorts vH_next vW_inFront vH_sizes vH_width)) (kRunS (As := [.int x3, .int x4]) (rest := []) ⟨hx, hb, hml, hown, ht0⟩ (kX8_areDampNumbers l D cy _ x3 x4 r52 hc52 _ rfl) (va_cwS 2 ht0 (gS wd677 wd678 wd57 wd679) rfl rfl rfl (by decide +kernel) ⟨Nat.le_of_ble_eq_true rfl, Nat.le_of_ble_eq_true rfl⟩) hK hN hP hD [] rfl (by decide) rfl hl.1 rfl (Nat.le_of_ble_eq_true rfl) dX8_dampWhen_52 ⟨Nat.zero_le _, Nat.zero_le _⟩) hP hD hS hA [] [0, 1, 2, 3, 4, 5, 6, 7, 8, 9, 10, 11, 12, 13] rfl rfl (by decide) (by decide) [0, 1, 2, 3, 4, 5, 6, 7, 8, 9, 10, 11, 12, 13] (by decide) rfl rfl (fun H locs hP hD hS => ?_)
      refine lv_if_ne (tgt := 64) hx hb dX8_dampWhen_55 (by decide) (fun c55 => ?_) (fun c55 => ?_)
      · have hok := k_neg c55 hok
        refine lv_aload_n hx hb dX8_dampWhen_64 rfl (lv_at hl 1 rfl) ?_
        refine va_get (D := D) (ci := 7) (v := .ref (qN 2)) (C := RX8) (T := TX8) (N := 9) hx hb ht0 niX8 hown hK hP 0 rfl rfl 2 (by decide) (ht0 _ wd578) (fun _ h9 => h9) rfl dX8_dampWhen_65 ?_
        refine lv_aload_n hx hb dX8_dampWhen_68 rfl (lv_at hl 1 rfl) ?_
        refine va_get (D := D) (ci := 7) (v := .ref aH) (C := RX8) (T := TX8) (N := 9) hx hb ht0 niX8 hown hK hP 0 rfl rfl 5 (by decide) (ht0 _ wd522) (fun _ h9 => h9) rfl dX8_dampWhen_69 ?_
        refine lv_aload_n hx hb dX8_dampWhen_72 rfl (lv_at hl 1 rfl) ?_
        refine va_get (D := D) (ci := 7) (v := .ref (qN 1)) (C := RX8) (T := TX8) (N := 9) hx hb ht0 niX8 hown hK hP 0 rfl rfl 1 (by decide) (ht0 _ wd527) (fun _ h9 => h9) rfl dX8_dampWhen_73 ?_
        refine lv_iconst (v := 0) hx hb dX8_dampWhen_76 (by decide) ?_
        obtain ⟨⟨vW_77, vW_who_77, vW_cells_77⟩, hc77, hok⟩ := k_bind hok
        try dsimp only at hok
        refine kCv (wc := (wX6_start cy (qN 2) aH (qN 1) qW aH0 qD qH vW vD vD_now vW_who vH vH_kinds vW_cells vH_sorts)) (wc2 := (wX6_start cy (qN 2) aH (qN 1) qW aH qD qH vW_77 vD vD_now vW_who_77 vH vH_kinds vW_cells_77 vH_sorts)) (wr := [(aN, oX8 vN qN aH), (qH 9, rI cy 4 vH_places), (qH 10, rI cy 36 vH_next), (qW 2, rI cy 7 vW_inFront), (qH 15, rI cy 7 vH_sizes), (qH 11, rI cy 36 vH_width)]) (ws2 := (wX8_dampWhen cy aN qN aH qH qD qW aH vN vH vD vD_now vH_places vW_77 vW_who_77 vH_kinds vW_cells_77 vH_sorts vH_next vW_inFront vH_sizes vH_width)) (kRunV (As := [.ref aH, .ref (qN 1), .int 0]) (rest := []) ⟨hx, hb, hml, hown, ht0⟩ (kX6_start l D cy _ (qN 2) aH (qN 1) qW aH0 qD qH vW vD vD_now vW_who vH vH_kinds vW_cells vH_sorts (0 : Int32) vW_77 vW_who_77 vW_cells_77 hc77 _ rfl) (cwV 3 ht0 (gV wd579 wd181 wd182 wd114 wd183) rfl rfl rfl (by decide +kernel) ⟨Nat.le_of_ble_eq_true rfl, Nat.le_of_ble_eq_true rfl⟩) hK hN hP hD [5, 2, 3, 6, 1, 7, 8, 9] rfl (by decide) 5 5 rfl rfl rfl hl.1 rfl (Nat.le_of_ble_eq_true rfl) dX8_dampWhen_77 ⟨Nat.zero_le _, Nat.zero_le _⟩) hP hD hS hA [5, 2, 3, 6, 1, 7, 8, 9] [0, 4, 10, 11, 12, 13] rfl rfl (by decide) (by decide) [0, 10, 7, 8, 1, 6, 9, 11, 12, 13, 2, 3, 4, 5] (by decide) rfl rfl (fun H locs hP hD hS => ?_)
        refine lv_aload_n hx hb dX8_dampWhen_80 rfl (lv_at hl 1 rfl) ?_
        refine va_get (D := D) (ci := 7) (v := .ref (qN 2)) (C := RX8) (T := TX8) (N := 9) hx hb ht0 niX8 hown hK hP 0 rfl rfl 2 (by decide) (ht0 _ wd578) (fun _ h9 => h9) rfl dX8_dampWhen_81 ?_
        refine lv_iload_n hx hb dX8_dampWhen_84 rfl (lv_at hl 4 rfl) ?_
        obtain ⟨vW_85, hc85, hok⟩ := k_bind hok
        refine kCv (wc := (wX6_sow cy (qN 2) qW aH vW_77)) (wc2 := (wX6_sow cy (qN 2) qW aH vW_85)) (wr := [(aN, oX8 vN qN aH), (aH, oX4 vH qH), (qN 1, oX1 vD qD), (qD 0, rI cy 9 vD_now), (qH 9, rI cy 4 vH_places), (qW 1, rI cy 36 vW_who_77), (qH 14, rI cy 7 vH_kinds), (qW 0, rI cy 7 vW_cells_77), (qH 8, rI cy 4 vH_sorts), (qH 10, rI cy 36 vH_next), (qW 2, rI cy 7 vW_inFront), (qH 15, rI cy 7 vH_sizes), (qH 11, rI cy 36 vH_width)]) (ws2 := (wX8_dampWhen cy aN qN aH qH qD qW aH vN vH vD vD_now vH_places vW_85 vW_who_77 vH_kinds vW_cells_77 vH_sorts vH_next vW_inFront vH_sizes vH_width)) (kRunV (As := [.int x3]) (rest := []) ⟨hx, hb, hml, hown, ht0⟩ (kX6_sow l D cy _ (qN 2) qW aH vW_77 x3 vW_85 hc85 _ rfl) (cwV 1 ht0 (gV wd680 wd681 wd682 wd114 wd683) rfl rfl rfl (by decide +kernel) ⟨Nat.le_of_ble_eq_true rfl, Nat.le_of_ble_eq_true rfl⟩) hK hN hP hD [5] rfl (by decide) 5 5 rfl rfl rfl hl.1 rfl (Nat.le_of_ble_eq_true rfl) dX8_dampWhen_85 ⟨Nat.zero_le _, Nat.zero_le _⟩) hP hD hS hA [5] [0, 1, 2, 3, 4, 6, 7, 8, 9, 10, 11, 12, 13] rfl rfl (by decide) (by decide) [0, 1, 2, 3, 4, 13, 5, 6, 7, 8, 9, 10, 11, 12] (by decide) rfl rfl (fun H locs hP hD hS => ?_)
        refine lv_iconst (v := 1) hx hb dX8_dampWhen_88 (by decide) ?_
        refine lv_istore (lv' := [(6, .int 1), (5, .int r25), (0, .ref aN), (1, .int x1), (2, .int x2), (3, .int x3), (4, .int x4)]) hx hb dX8_dampWhen_89 hl (by decide) rfl (fun ls hl => ?_)
        exact L91 5000 r25 (1 : Int32) vW_cells_77 vW_inFront vW_who_77 vW_85 H locs ls hP hD hS (lv_sub hl [2, 3, 4, 6, 1, 0] rfl) hok
      · have hok := k_pos c55 hok
        refine lv_aload_n hx hb dX8_dampWhen_58 rfl (lv_at hl 1 rfl) ?_
        refine lv_iconst (v := 2) hx hb dX8_dampWhen_59 (by decide) ?_
        obtain ⟨⟨r60, vN_60⟩, hc60, hok⟩ := k_bind hok
        try dsimp only at hok
        refine kCi (wc := (wX8_refuse cy aN qN aH vN)) (wc2 := (wX8_refuse cy aN qN aH vN_60)) (wr := [(aH, oX4 vH qH), (qN 1, oX1 vD qD), (qD 0, rI cy 9 vD_now), (qH 9, rI cy 4 vH_places), (qN 2, oX6 vW qW aH0), (qW 1, rI cy 36 vW_who), (qH 14, rI cy 7 vH_kinds), (qW 0, rI cy 7 vW_cells), (qH 8, rI cy 4 vH_sorts), (qH 10, rI cy 36 vH_next), (qW 2, rI cy 7 vW_inFront), (qH 15, rI cy 7 vH_sizes), (qH 11, rI cy 36 vH_width)]) (ws2 := (wX8_dampWhen cy aN qN aH qH qD qW aH0 vN_60 vH vD vD_now vH_places vW vW_who vH_kinds vW_cells vH_sorts vH_next vW_inFront vH_sizes vH_width)) (kRunV (As := [.int 2]) (rest := []) ⟨hx, hb, hml, hown, ht0⟩ (kX8_refuse l D cy _ aN qN aH vN (2 : Int32) r60 vN_60 hc60 _ rfl) (cwV 1 ht0 (gV wd504 wd505 wd506 wd57 wd507) rfl rfl rfl (by decide +kernel) ⟨Nat.le_of_ble_eq_true rfl, Nat.le_of_ble_eq_true rfl⟩) hK hN hP hD [0] rfl (by decide) 0 7 rfl rfl rfl hl.1 rfl (Nat.le_of_ble_eq_true rfl) dX8_dampWhen_60 ⟨Nat.zero_le _, Nat.zero_le _⟩) hP hD hS hA [0] [1, 2, 3, 4, 5, 6, 7, 8, 9, 10, 11, 12, 13] rfl rfl (by decide) (by decide) [13, 0, 1, 2, 3, 4, 5, 6, 7, 8, 9, 10, 11, 12] (by decide) rfl rfl (fun H locs hP hD hS => ?_)
        cases hok
        subst hQe; exact W.iret hx hb hr (fun t ht hW => ⟨⟨_, (), rfl, rfl, by rw [ht]; exact hP, va_K.moved hW.alike hK, hD⟩, hS.F ht⟩) hS.2.2 dX8_dampWhen_63
    · have hok := k_pos c40 hok
      refine lv_aload_n hx hb dX8_dampWhen_43 rfl (lv_at hl 1 rfl) ?_
      refine lv_iconst (v := 1) hx hb dX8_dampWhen_44 (by decide) ?_
      obtain ⟨⟨r45, vN_45⟩, hc45, hok⟩ := k_bind hok
      try dsimp only at hok
      refine kCi (wc := (wX8_refuse cy aN qN aH vN)) (wc2 := (wX8_refuse cy aN qN aH vN_45)) (wr := [(aH, oX4 vH qH), (qN 1, oX1 vD qD), (qD 0, rI cy 9 vD_now), (qH 9, rI cy 4 vH_places), (qN 2, oX6 vW qW aH0), (qW 1, rI cy 36 vW_who), (qH 14, rI cy 7 vH_kinds), (qW 0, rI cy 7 vW_cells), (qH 8, rI cy 4 vH_sorts), (qH 10, rI cy 36 vH_next), (qW 2, rI cy 7 vW_inFront), (qH 15, rI cy 7 vH_sizes), (qH 11, rI cy 36 vH_width)]) (ws2 := (wX8_dampWhen cy aN qN aH qH qD qW aH0 vN_45 vH vD vD_now vH_places vW vW_who vH_kinds vW_cells vH_sorts vH_next vW_inFront vH_sizes vH_width)) (kRunV (As := [.int 1]) (rest := []) ⟨hx, hb, hml, hown, ht0⟩ (kX8_refuse l D cy _ aN qN aH vN (1 : Int32) r45 vN_45 hc45 _ rfl) (cwV 1 ht0 (gV wd504 wd505 wd506 wd57 wd507) rfl rfl rfl (by decide +kernel) ⟨Nat.le_of_ble_eq_true rfl, Nat.le_of_ble_eq_true rfl⟩) hK hN hP hD [0] rfl (by decide) 0 7 rfl rfl rfl hl.1 rfl (Nat.le_of_ble_eq_true rfl) dX8_dampWhen_45 ⟨Nat.zero_le _, Nat.zero_le _⟩) hP hD hS hA [0] [1, 2, 3, 4, 5, 6, 7, 8, 9, 10, 11, 12, 13] rfl rfl (by decide) (by decide) [13, 0, 1, 2, 3, 4, 5, 6, 7, 8, 9, 10, 11, 12] (by decide) rfl rfl (fun H locs hP hD hS => ?_)
      cases hok
      subst hQe; exact W.iret hx hb hr (fun t ht hW => ⟨⟨_, (), rfl, rfl, by rw [ht]; exact hP, va_K.moved hW.alike hK, hD⟩, hS.F ht⟩) hS.2.2 dX8_dampWhen_48
  · have hok := k_pos c8 hok
    refine lv_aload_n hx hb dX8_dampWhen_11 rfl (lv_at hl 0 rfl) ?_
    refine lv_iconst (v := 1) hx hb dX8_dampWhen_12 (by decide) ?_
    obtain ⟨⟨r13, vN_13⟩, hc13, hok⟩ := k_bind hok
    try dsimp only at hok
    refine kCi (wc := (wX8_refuse cy aN qN aH vN)) (wc2 := (wX8_refuse cy aN qN aH vN_13)) (wr := [(aH, oX4 vH qH), (qN 1, oX1 vD qD), (qD 0, rI cy 9 vD_now), (qH 9, rI cy 4 vH_places), (qN 2, oX6 vW qW aH0), (qW 1, rI cy 36 vW_who), (qH 14, rI cy 7 vH_kinds), (qW 0, rI cy 7 vW_cells), (qH 8, rI cy 4 vH_sorts), (qH 10, rI cy 36 vH_next), (qW 2, rI cy 7 vW_inFront), (qH 15, rI cy 7 vH_sizes), (qH 11, rI cy 36 vH_width)]) (ws2 := (wX8_dampWhen cy aN qN aH qH qD qW aH0 vN_13 vH vD vD_now vH_places vW vW_who vH_kinds vW_cells vH_sorts vH_next vW_inFront vH_sizes vH_width)) (kRunV (As := [.int 1]) (rest := []) ⟨hx, hb, hml, hown, ht0⟩ (kX8_refuse l D cy _ aN qN aH vN (1 : Int32) r13 vN_13 hc13 _ rfl) (cwV 1 ht0 (gV wd504 wd505 wd506 wd57 wd507) rfl rfl rfl (by decide +kernel) ⟨Nat.le_of_ble_eq_true rfl, Nat.le_of_ble_eq_true rfl⟩) hK hN hP hD [0] rfl (by decide) 0 7 rfl rfl rfl hl.1 rfl (Nat.le_of_ble_eq_true rfl) dX8_dampWhen_13 ⟨Nat.zero_le _, Nat.zero_le _⟩) hP hD hS hA [0] [1, 2, 3, 4, 5, 6, 7, 8, 9, 10, 11, 12, 13] rfl rfl (by decide) (by decide) [13, 0, 1, 2, 3, 4, 5, 6, 7, 8, 9, 10, 11, 12] (by decide) rfl rfl (fun H locs hP hD hS => ?_)
    cases hok
    subst hQe; exact W.iret hx hb hr (fun t ht hW => ⟨⟨_, (), rfl, rfl, by rw [ht]; exact hP, va_K.moved hW.alike hK, hD⟩, hS.F ht⟩) hS.2.2 dX8_dampWhen_16
def wsX8_isDone : List Cond := .code yX8_isDone cX8_isDone 2 (some .boolean) :: W0
abbrev wX8_isDone (cy : Nat → ClassId) (aN : Nat) (qN : Nat → Nat) (aH : Nat) (vN : Nat → Int32) : va_W := [(aN, oX8 vN qN aH)]
set_option maxHeartbeats 4000000 in
set_option maxRecDepth 100000 in
theorem kX8_isDone (l : Launch) (D : va_G) (cy : Nat → ClassId) (sz : Nat) (aN : Nat) (qN : Nat → Nat) (aH : Nat) (vN : Nat → Int32) (x1 : Int32) (zr : Int32) (z_vN : Nat → Int32) (hok : fX8_isDone vN x1 = some (zr, z_vN)) (A : Nat → Prop) (hAe : va_A (wX8_isDone cy aN qN aH vN) sz = A) : Met l yX8_isDone wsX8_isDone ({ frames := 0, cells := 0, slots := 0, locals := 0 } : Room) (kPre D cy [.ref aN, .int x1] (wX8_isDone cy aN qN aH vN) sz) (kQi D cy zr A (wX8_isDone cy aN qN aH z_vN)) 0 0 A := by
  refine Met.ofW (cc := cX8_isDone) (maxL := 2) (ret := (some .boolean)) (by decide) rfl ?_
  intro p e s m args below meth c s₁ B hml hv
  obtain ⟨rfl, hsz, hP, hK, hD0, hN⟩ := hv
  have hx := B.exec
  have hb := B.bytes
  have hr := B.returns
  have ht0 : ∀ w ∈ W0, w.before _ s = true := fun w h => atoms_spec (ws := wsX8_isDone) B.pre w (List.mem_cons_of_mem _ h)
  have hown : s.vm.findClass RX8 = some m.cls := findClass_of_methodNamed B.named
  have hlocks := B.notSynchronized
  subst hsz
  have hD : va_D A (wX8_isDone cy aN qN aH vN) := by rw [← hAe]; exact hD0.self
  have hA : ∀ q : Nat, s.heap.size ≤ q → A q := fun q h => by rw [← hAe]; exact Or.inr h
  have hS : va_S A s.heap s.heap [] := va_S.rf
  have hl := lv_entry ([.ref aN, .int x1]) (n := 2) (Nat.le_of_ble_eq_true rfl)
  rw [lg_entry_eq]
  generalize (lg_sl ([.ref aN, .int x1]) ++ List.replicate (2 - (lg_sl ([.ref aN, .int x1])).length) Slot.unset).toArray = ls at hl ⊢
  have hl : lv_has ls 2 [(0, .ref aN), (1, .int x1)] := hl
  generalize hQe : MQ below (kQi D cy zr A (wX8_isDone cy aN qN aH z_vN)) ([.ref aN, .int x1] : List Value).toArray s 0 0 A = Q
  have J14 : ∀ (t0_14 : Int32), ∀ (H : Heap) (locs : List Loc) (ls : Array Slot), va_P D vwCl (wX8_isDone cy aN qN aH (upd vN 6 x1)) H → va_D A (wX8_isDone cy aN qN aH (upd vN 6 x1)) → va_S A s.heap H locs → lv_has ls 2 [] → fX8_isDone_J14 vN x1 t0_14 = some (zr, z_vN) → W p l e ({ frames := 0, cells := 0, slots := 0, locals := 0 } : Room) s m ([.ref aN, .int x1] : List Value).toArray below meth c H locs 0 0 Q (F0 m 14 ls [.int t0_14]) := by
    intro t0_14 H locs ls hP hD hS hl hok
    unfold fX8_isDone_J14 at hok
    obtain ⟨g14, hok⟩ := gd_some hok
    cases hok
    subst hQe; exact W.zret hx hb hr (isB_nar g14) (fun t ht hW => ⟨⟨_, (), rfl, rfl, by rw [ht]; exact hP, va_K.moved hW.alike hK, hD⟩, hS.F ht⟩) hS.2.2 dX8_isDone_14
  unfold fX8_isDone at hok
  obtain ⟨H, hH⟩ : ∃ H, H = s.heap := ⟨_, rfl⟩
  obtain ⟨locs, hlc⟩ : ∃ x : List Loc, x = [] := ⟨_, rfl⟩
  have hP : va_P D vwCl (wX8_isDone cy aN qN aH vN) H := by rw [hH]; exact hP
  have hS : va_S A s.heap H locs := by rw [hH, hlc]; exact hS
  rw [show W p l e _ s m _ below meth c s.heap [] = W p l e _ s m _ below meth c H locs from by rw [hH, hlc]]
  refine lv_aload_n hx hb dX8_isDone_0 rfl (lv_at hl 0 rfl) ?_
  refine lv_iload_n hx hb dX8_isDone_1 rfl (lv_at hl 1 rfl) ?_
  refine va_put (D := D) (ci := 7) (v := .int x1) (ty := .int) (C := RX8) (T := TX8) (N := 9) hx hb ht0 niX8 tyX8 tyX8_ok nmX8 hown hK hP hD hS 0 rfl rfl 6 (by decide) (ht0 _ wd503) (fun _ h9 => h9) rfl (by decide +kernel) rfl rfl (Nat.le_of_ble_eq_true rfl) dX8_isDone_2 (fun H locs hP hD hS => ?_)
  have hP : va_P D vwCl (wX8_isDone cy aN qN aH (upd vN 6 x1)) H := hP
  have hD : va_D A (wX8_isDone cy aN qN aH (upd vN 6 x1)) := hD
  refine lv_iload_n hx hb dX8_isDone_5 rfl (lv_at hl 1 rfl) ?_
  refine lv_if_ne (tgt := 13) hx hb dX8_isDone_6 (by decide) (fun c6 => ?_) (fun c6 => ?_)
  · have hok := k_neg c6 hok
    refine lv_iconst (v := 0) hx hb dX8_isDone_13 (by decide) ?_
    exact J14 (0 : Int32) H locs ls hP hD hS (lv_sub hl [] rfl) hok
  · have hok := k_pos c6 hok
    refine lv_iconst (v := 1) hx hb dX8_isDone_9 (by decide) ?_
    refine lv_goto (tgt := 14) hx hb dX8_isDone_10 (by decide) ?_
    exact J14 (1 : Int32) H locs ls hP hD hS (lv_sub hl [] rfl) hok
def wsX8_hold : List Cond := .code yX8_hold cX8_hold 2 (some .boolean) :: W0
abbrev wX8_hold (cy : Nat → ClassId) (aN : Nat) (qN : Nat → Nat) (aH : Nat) (qH : Nat → Nat) (qD : Nat → Nat) (pD_past : Nat → Nat) (vN : Nat → Int32) (vH : Nat → Int32) (vD : Nat → Int32) (vD_now : Nat → Int32) (vD_past : Nat → Nat → Int32) : va_W := [(aN, oX8 vN qN aH), (aH, oX4 vH qH), (qN 1, oX1 vD qD), (qD 0, rI cy 9 vD_now), (qD 1, rR cy 16 (fun j => some (pD_past j))), (pD_past 0, rI cy 9 (vD_past 0)), (pD_past 1, rI cy 9 (vD_past 1)), (pD_past 2, rI cy 9 (vD_past 2)), (pD_past 3, rI cy 9 (vD_past 3)), (pD_past 4, rI cy 9 (vD_past 4)), (pD_past 5, rI cy 9 (vD_past 5)), (pD_past 6, rI cy 9 (vD_past 6)), (pD_past 7, rI cy 9 (vD_past 7)), (pD_past 8, rI cy 9 (vD_past 8)), (pD_past 9, rI cy 9 (vD_past 9)), (pD_past 10, rI cy 9 (vD_past 10)), (pD_past 11, rI cy 9 (vD_past 11)), (pD_past 12, rI cy 9 (vD_past 12)), (pD_past 13, rI cy 9 (vD_past 13)), (pD_past 14, rI cy 9 (vD_past 14)), (pD_past 15, rI cy 9 (vD_past 15))]
set_option maxHeartbeats 4000000 in
set_option maxRecDepth 100000 in
theorem kX8_hold (l : Launch) (D : va_G) (cy : Nat → ClassId) (sz : Nat) (aN : Nat) (qN : Nat → Nat) (aH : Nat) (qH : Nat → Nat) (qD : Nat → Nat) (pD_past : Nat → Nat) (vN : Nat → Int32) (vH : Nat → Int32) (vD : Nat → Int32) (vD_now : Nat → Int32) (vD_past : Nat → Nat → Int32) (x1 : Int32) (zr : Int32) (z_vN : Nat → Int32) (z_vD : Nat → Int32) (z_vD_now : Nat → Int32) (z_vD_past : Nat → Nat → Int32) (hok : fX8_hold vN vH vD vD_now vD_past x1 = some (zr, z_vN, z_vD, z_vD_now, z_vD_past)) (A : Nat → Prop) (hAe : va_A (wX8_hold cy aN qN aH qH qD pD_past vN vH vD vD_now vD_past) sz = A) : Met l yX8_hold wsX8_hold ({ frames := 2, cells := 0, slots := 0, locals := 60 } : Room) (kPre D cy [.ref aN, .int x1] (wX8_hold cy aN qN aH qH qD pD_past vN vH vD vD_now vD_past) sz) (kQi D cy zr A (wX8_hold cy aN qN aH qH qD pD_past z_vN vH z_vD z_vD_now z_vD_past)) 0 0 A := by
  refine Met.ofW (cc := cX8_hold) (maxL := 2) (ret := (some .boolean)) (by decide) rfl ?_
  intro p e s m args below meth c s₁ B hml hv
  obtain ⟨rfl, hsz, hP, hK, hD0, hN⟩ := hv
  have hx := B.exec
  have hb := B.bytes
  have hr := B.returns
  have ht0 : ∀ w ∈ W0, w.before _ s = true := fun w h => atoms_spec (ws := wsX8_hold) B.pre w (List.mem_cons_of_mem _ h)
  have hown : s.vm.findClass RX8 = some m.cls := findClass_of_methodNamed B.named
  have hlocks := B.notSynchronized
  subst hsz
  have hD : va_D A (wX8_hold cy aN qN aH qH qD pD_past vN vH vD vD_now vD_past) := by rw [← hAe]; exact hD0.self
  have hA : ∀ q : Nat, s.heap.size ≤ q → A q := fun q h => by rw [← hAe]; exact Or.inr h
  have hS : va_S A s.heap s.heap [] := va_S.rf
  have hl := lv_entry ([.ref aN, .int x1]) (n := 2) (Nat.le_of_ble_eq_true rfl)
  rw [lg_entry_eq]
  generalize (lg_sl ([.ref aN, .int x1]) ++ List.replicate (2 - (lg_sl ([.ref aN, .int x1])).length) Slot.unset).toArray = ls at hl ⊢
  have hl : lv_has ls 2 [(0, .ref aN), (1, .int x1)] := hl
  unfold fX8_hold at hok
  obtain ⟨H, hH⟩ : ∃ H, H = s.heap := ⟨_, rfl⟩
  obtain ⟨locs, hlc⟩ : ∃ x : List Loc, x = [] := ⟨_, rfl⟩
  have hP : va_P D vwCl (wX8_hold cy aN qN aH qH qD pD_past vN vH vD vD_now vD_past) H := by rw [hH]; exact hP
  have hS : va_S A s.heap H locs := by rw [hH, hlc]; exact hS
  rw [show W p l e _ s m _ below meth c s.heap [] = W p l e _ s m _ below meth c H locs from by rw [hH, hlc]]
  refine lv_aload_n hx hb dX8_hold_0 rfl (lv_at hl 0 rfl) ?_
  refine va_get (D := D) (ci := 7) (v := .ref aH) (C := RX8) (T := TX8) (N := 9) hx hb ht0 niX8 hown hK hP 0 rfl rfl 5 (by decide) (ht0 _ wd522) (fun _ h9 => h9) rfl dX8_hold_1 ?_
  refine lv_iload_n hx hb dX8_hold_4 rfl (lv_at hl 1 rfl) ?_
  obtain ⟨r5, hc5, hok⟩ := k_bind hok
  refine kCi (wc := (wX4_hasThing cy aH qH vH)) (wc2 := (wX4_hasThing cy aH qH vH)) (wr := [(aN, oX8 vN qN aH), (qN 1, oX1 vD qD), (qD 0, rI cy 9 vD_now), (qD 1, rR cy 16 (fun j => some (pD_past j))), (pD_past 0, rI cy 9 (vD_past 0)), (pD_past 1, rI cy 9 (vD_past 1)), (pD_past 2, rI cy 9 (vD_past 2)), (pD_past 3, rI cy 9 (vD_past 3)), (pD_past 4, rI cy 9 (vD_past 4)), (pD_past 5, rI cy 9 (vD_past 5)), (pD_past 6, rI cy 9 (vD_past 6)), (pD_past 7, rI cy 9 (vD_past 7)), (pD_past 8, rI cy 9 (vD_past 8)), (pD_past 9, rI cy 9 (vD_past 9)), (pD_past 10, rI cy 9 (vD_past 10)), (pD_past 11, rI cy 9 (vD_past 11)), (pD_past 12, rI cy 9 (vD_past 12)), (pD_past 13, rI cy 9 (vD_past 13)), (pD_past 14, rI cy 9 (vD_past 14)), (pD_past 15, rI cy 9 (vD_past 15))]) (ws2 := (wX8_hold cy aN qN aH qH qD pD_past vN vH vD vD_now vD_past)) (kRunV (As := [.int x1]) (rest := []) ⟨hx, hb, hml, hown, ht0⟩ (kX4_hasThing l D cy _ aH qH vH x1 r5 hc5 _ rfl) (cwV 1 ht0 (gV wd551 wd552 wd553 wd9 wd554) rfl rfl rfl (by decide +kernel) ⟨Nat.le_of_ble_eq_true rfl, Nat.le_of_ble_eq_true rfl⟩) hK hN hP hD [1] rfl (by decide) 1 3 rfl rfl rfl hl.1 rfl (Nat.le_of_ble_eq_true rfl) dX8_hold_5 ⟨Nat.zero_le _, Nat.zero_le _⟩) hP hD hS hA [1] [0, 2, 3, 4, 5, 6, 7, 8, 9, 10, 11, 12, 13, 14, 15, 16, 17, 18, 19, 20] rfl rfl (by decide) (by decide) [0, 20, 1, 2, 3, 4, 5, 6, 7, 8, 9, 10, 11, 12, 13, 14, 15, 16, 17, 18, 19] (by decide) rfl rfl (fun H locs hP hD hS => ?_)
  refine lv_if_ne (tgt := 17) hx hb dX8_hold_8 (by decide) (fun c8 => ?_) (fun c8 => ?_)
  · have hok := k_neg c8 hok
    refine lv_aload_n hx hb dX8_hold_17 rfl (lv_at hl 0 rfl) ?_
    refine va_get (D := D) (ci := 7) (v := .ref (qN 1)) (C := RX8) (T := TX8) (N := 9) hx hb ht0 niX8 hown hK hP 0 rfl rfl 1 (by decide) (ht0 _ wd527) (fun _ h9 => h9) rfl dX8_hold_18 ?_
    refine lv_iload_n hx hb dX8_hold_21 rfl (lv_at hl 1 rfl) ?_
    obtain ⟨r22, hc22, hok⟩ := k_bind hok
    refine kCi (wc := (wX1_isHeld cy (qN 1) qD vD vD_now)) (wc2 := (wX1_isHeld cy (qN 1) qD vD vD_now)) (wr := [(aN, oX8 vN qN aH), (aH, oX4 vH qH), (qD 1, rR cy 16 (fun j => some (pD_past j))), (pD_past 0, rI cy 9 (vD_past 0)), (pD_past 1, rI cy 9 (vD_past 1)), (pD_past 2, rI cy 9 (vD_past 2)), (pD_past 3, rI cy 9 (vD_past 3)), (pD_past 4, rI cy 9 (vD_past 4)), (pD_past 5, rI cy 9 (vD_past 5)), (pD_past 6, rI cy 9 (vD_past 6)), (pD_past 7, rI cy 9 (vD_past 7)), (pD_past 8, rI cy 9 (vD_past 8)), (pD_past 9, rI cy 9 (vD_past 9)), (pD_past 10, rI cy 9 (vD_past 10)), (pD_past 11, rI cy 9 (vD_past 11)), (pD_past 12, rI cy 9 (vD_past 12)), (pD_past 13, rI cy 9 (vD_past 13)), (pD_past 14, rI cy 9 (vD_past 14)), (pD_past 15, rI cy 9 (vD_past 15))]) (ws2 := (wX8_hold cy aN qN aH qH qD pD_past vN vH vD vD_now vD_past)) (kRunV (As := [.int x1]) (rest := []) ⟨hx, hb, hml, hown, ht0⟩ (kX1_isHeld l D cy _ (qN 1) qD vD vD_now x1 r22 hc22 _ rfl) (cwV 1 ht0 (gV wd565 wd72 wd73 wd74 wd75) rfl rfl rfl (by decide +kernel) ⟨Nat.le_of_ble_eq_true rfl, Nat.le_of_ble_eq_true rfl⟩) hK hN hP hD [2, 3] rfl (by decide) 2 1 rfl rfl rfl hl.1 rfl (Nat.le_of_ble_eq_true rfl) dX8_hold_22 ⟨Nat.zero_le _, Nat.zero_le _⟩) hP hD hS hA [2, 3] [0, 1, 4, 5, 6, 7, 8, 9, 10, 11, 12, 13, 14, 15, 16, 17, 18, 19, 20] rfl rfl (by decide) (by decide) [0, 1, 19, 20, 2, 3, 4, 5, 6, 7, 8, 9, 10, 11, 12, 13, 14, 15, 16, 17, 18] (by decide) rfl rfl (fun H locs hP hD hS => ?_)
    refine lv_if_eq (tgt := 34) hx hb dX8_hold_25 (by decide) (fun c25 => ?_) (fun c25 => ?_)
    · have hok := k_pos c25 hok
      refine lv_aload_n hx hb dX8_hold_34 rfl (lv_at hl 0 rfl) ?_
      refine va_get (D := D) (ci := 7) (v := .ref (qN 1)) (C := RX8) (T := TX8) (N := 9) hx hb ht0 niX8 hown hK hP 0 rfl rfl 1 (by decide) (ht0 _ wd527) (fun _ h9 => h9) rfl dX8_hold_35 ?_
      obtain ⟨⟨vD_38, vD_past_38⟩, hc38, hok⟩ := k_bind hok
      try dsimp only at hok
      refine kCv (wc := (wX1_keep cy (qN 1) qD pD_past vD vD_past vD_now)) (wc2 := (wX1_keep cy (qN 1) qD pD_past vD_38 vD_past_38 vD_now)) (wr := [(aN, oX8 vN qN aH), (aH, oX4 vH qH)]) (ws2 := (wX8_hold cy aN qN aH qH qD pD_past vN vH vD_38 vD_now vD_past_38)) (kRunV (As := []) (rest := []) ⟨hx, hb, hml, hown, ht0⟩ (kX1_keep l D cy _ (qN 1) qD pD_past vD vD_past vD_now vD_38 vD_past_38 hc38 _ rfl) (cwV 0 ht0 (gV wd684 wd685 wd686 wd74 wd687) rfl rfl rfl (by decide +kernel) ⟨Nat.le_of_ble_eq_true rfl, Nat.le_of_ble_eq_true rfl⟩) hK hN hP hD [2, 4, 5, 6, 7, 8, 9, 10, 11, 12, 13, 14, 15, 16, 17, 18, 19, 20, 3] rfl (by decide) 2 1 rfl rfl rfl hl.1 rfl (Nat.le_of_ble_eq_true rfl) dX8_hold_38 ⟨Nat.zero_le _, Nat.zero_le _⟩) hP hD hS hA [2, 4, 5, 6, 7, 8, 9, 10, 11, 12, 13, 14, 15, 16, 17, 18, 19, 20, 3] [0, 1] rfl rfl (by decide) (by decide) [0, 1, 2, 20, 3, 4, 5, 6, 7, 8, 9, 10, 11, 12, 13, 14, 15, 16, 17, 18, 19] (by decide) rfl rfl (fun H locs hP hD hS => ?_)
      refine lv_aload_n hx hb dX8_hold_41 rfl (lv_at hl 0 rfl) ?_
      refine va_get (D := D) (ci := 7) (v := .ref (qN 1)) (C := RX8) (T := TX8) (N := 9) hx hb ht0 niX8 hown hK hP 0 rfl rfl 1 (by decide) (ht0 _ wd527) (fun _ h9 => h9) rfl dX8_hold_42 ?_
      refine lv_iload_n hx hb dX8_hold_45 rfl (lv_at hl 1 rfl) ?_
      obtain ⟨vD_now_46, hc46, hok⟩ := k_bind hok
      refine kCv (wc := (wX1_turnHeld cy (qN 1) qD vD_38 vD_now)) (wc2 := (wX1_turnHeld cy (qN 1) qD vD_38 vD_now_46)) (wr := [(aN, oX8 vN qN aH), (aH, oX4 vH qH), (qD 1, rR cy 16 (fun j => some (pD_past j))), (pD_past 0, rI cy 9 (vD_past_38 0)), (pD_past 1, rI cy 9 (vD_past_38 1)), (pD_past 2, rI cy 9 (vD_past_38 2)), (pD_past 3, rI cy 9 (vD_past_38 3)), (pD_past 4, rI cy 9 (vD_past_38 4)), (pD_past 5, rI cy 9 (vD_past_38 5)), (pD_past 6, rI cy 9 (vD_past_38 6)), (pD_past 7, rI cy 9 (vD_past_38 7)), (pD_past 8, rI cy 9 (vD_past_38 8)), (pD_past 9, rI cy 9 (vD_past_38 9)), (pD_past 10, rI cy 9 (vD_past_38 10)), (pD_past 11, rI cy 9 (vD_past_38 11)), (pD_past 12, rI cy 9 (vD_past_38 12)), (pD_past 13, rI cy 9 (vD_past_38 13)), (pD_past 14, rI cy 9 (vD_past_38 14)), (pD_past 15, rI cy 9 (vD_past_38 15))]) (ws2 := (wX8_hold cy aN qN aH qH qD pD_past vN vH vD_38 vD_now_46 vD_past_38)) (kRunV (As := [.int x1]) (rest := []) ⟨hx, hb, hml, hown, ht0⟩ (kX1_turnHeld l D cy _ (qN 1) qD vD_38 vD_now x1 vD_now_46 hc46 _ rfl) (cwV 1 ht0 (gV wd688 wd689 wd690 wd74 wd691) rfl rfl rfl (by decide +kernel) ⟨Nat.le_of_ble_eq_true rfl, Nat.le_of_ble_eq_true rfl⟩) hK hN hP hD [2, 3] rfl (by decide) 2 1 rfl rfl rfl hl.1 rfl (Nat.le_of_ble_eq_true rfl) dX8_hold_46 ⟨Nat.zero_le _, Nat.zero_le _⟩) hP hD hS hA [2, 3] [0, 1, 4, 5, 6, 7, 8, 9, 10, 11, 12, 13, 14, 15, 16, 17, 18, 19, 20] rfl rfl (by decide) (by decide) [0, 1, 19, 20, 2, 3, 4, 5, 6, 7, 8, 9, 10, 11, 12, 13, 14, 15, 16, 17, 18] (by decide) rfl rfl (fun H locs hP hD hS => ?_)
      refine lv_aload_n hx hb dX8_hold_49 rfl (lv_at hl 0 rfl) ?_
      refine lv_iconst (v := 0) hx hb dX8_hold_50 (by decide) ?_
      obtain ⟨⟨r51, vN_51⟩, hc51, hok⟩ := k_bind hok
      try dsimp only at hok
      refine kCi (wc := (wX8_isDone cy aN qN aH vN)) (wc2 := (wX8_isDone cy aN qN aH vN_51)) (wr := [(aH, oX4 vH qH), (qN 1, oX1 vD_38 qD), (qD 0, rI cy 9 vD_now_46), (qD 1, rR cy 16 (fun j => some (pD_past j))), (pD_past 0, rI cy 9 (vD_past_38 0)), (pD_past 1, rI cy 9 (vD_past_38 1)), (pD_past 2, rI cy 9 (vD_past_38 2)), (pD_past 3, rI cy 9 (vD_past_38 3)), (pD_past 4, rI cy 9 (vD_past_38 4)), (pD_past 5, rI cy 9 (vD_past_38 5)), (pD_past 6, rI cy 9 (vD_past_38 6)), (pD_past 7, rI cy 9 (vD_past_38 7)), (pD_past 8, rI cy 9 (vD_past_38 8)), (pD_past 9, rI cy 9 (vD_past_38 9)), (pD_past 10, rI cy 9 (vD_past_38 10)), (pD_past 11, rI cy 9 (vD_past_38 11)), (pD_past 12, rI cy 9 (vD_past_38 12)), (pD_past 13, rI cy 9 (vD_past_38 13)), (pD_past 14, rI cy 9 (vD_past_38 14)), (pD_past 15, rI cy 9 (vD_past_38 15))]) (ws2 := (wX8_hold cy aN qN aH qH qD pD_past vN_51 vH vD_38 vD_now_46 vD_past_38)) (kRunV (As := [.int 0]) (rest := []) ⟨hx, hb, hml, hown, ht0⟩ (kX8_isDone l D cy _ aN qN aH vN (0 : Int32) r51 vN_51 hc51 _ rfl) (cwV 1 ht0 (gV wd692 wd693 wd694 wd57 wd695) rfl rfl rfl (by decide +kernel) ⟨Nat.le_of_ble_eq_true rfl, Nat.le_of_ble_eq_true rfl⟩) hK hN hP hD [0] rfl (by decide) 0 7 rfl rfl rfl hl.1 rfl (Nat.le_of_ble_eq_true rfl) dX8_hold_51 ⟨Nat.zero_le _, Nat.zero_le _⟩) hP hD hS hA [0] [1, 2, 3, 4, 5, 6, 7, 8, 9, 10, 11, 12, 13, 14, 15, 16, 17, 18, 19, 20] rfl rfl (by decide) (by decide) [20, 0, 1, 2, 3, 4, 5, 6, 7, 8, 9, 10, 11, 12, 13, 14, 15, 16, 17, 18, 19] (by decide) rfl rfl (fun H locs hP hD hS => ?_)
      obtain ⟨g54, hok⟩ := gd_some hok
      cases hok
      exact W.zret hx hb hr (isB_nar g54) (fun t ht hW => ⟨⟨_, (), rfl, rfl, by rw [ht]; exact hP, va_K.moved hW.alike hK, hD⟩, hS.F ht⟩) hS.2.2 dX8_hold_54
    · have hok := k_neg c25 hok
      refine lv_aload_n hx hb dX8_hold_28 rfl (lv_at hl 0 rfl) ?_
      refine lv_iconst (v := 5) hx hb dX8_hold_29 (by decide) ?_
      obtain ⟨⟨r30, vN_30⟩, hc30, hok⟩ := k_bind hok
      try dsimp only at hok
      refine kCi (wc := (wX8_isDone cy aN qN aH vN)) (wc2 := (wX8_isDone cy aN qN aH vN_30)) (wr := [(aH, oX4 vH qH), (qN 1, oX1 vD qD), (qD 0, rI cy 9 vD_now), (qD 1, rR cy 16 (fun j => some (pD_past j))), (pD_past 0, rI cy 9 (vD_past 0)), (pD_past 1, rI cy 9 (vD_past 1)), (pD_past 2, rI cy 9 (vD_past 2)), (pD_past 3, rI cy 9 (vD_past 3)), (pD_past 4, rI cy 9 (vD_past 4)), (pD_past 5, rI cy 9 (vD_past 5)), (pD_past 6, rI cy 9 (vD_past 6)), (pD_past 7, rI cy 9 (vD_past 7)), (pD_past 8, rI cy 9 (vD_past 8)), (pD_past 9, rI cy 9 (vD_past 9)), (pD_past 10, rI cy 9 (vD_past 10)), (pD_past 11, rI cy 9 (vD_past 11)), (pD_past 12, rI cy 9 (vD_past 12)), (pD_past 13, rI cy 9 (vD_past 13)), (pD_past 14, rI cy 9 (vD_past 14)), (pD_past 15, rI cy 9 (vD_past 15))]) (ws2 := (wX8_hold cy aN qN aH qH qD pD_past vN_30 vH vD vD_now vD_past)) (kRunV (As := [.int 5]) (rest := []) ⟨hx, hb, hml, hown, ht0⟩ (kX8_isDone l D cy _ aN qN aH vN (5 : Int32) r30 vN_30 hc30 _ rfl) (cwV 1 ht0 (gV wd692 wd693 wd694 wd57 wd695) rfl rfl rfl (by decide +kernel) ⟨Nat.le_of_ble_eq_true rfl, Nat.le_of_ble_eq_true rfl⟩) hK hN hP hD [0] rfl (by decide) 0 7 rfl rfl rfl hl.1 rfl (Nat.le_of_ble_eq_true rfl) dX8_hold_30 ⟨Nat.zero_le _, Nat.zero_le _⟩) hP hD hS hA [0] [1, 2, 3, 4, 5, 6, 7, 8, 9, 10, 11, 12, 13, 14, 15, 16, 17, 18, 19, 20] rfl rfl (by decide) (by decide) [20, 0, 1, 2, 3, 4, 5, 6, 7, 8, 9, 10, 11, 12, 13, 14, 15, 16, 17, 18, 19] (by decide) rfl rfl (fun H locs hP hD hS => ?_)
      obtain ⟨g33, hok⟩ := gd_some hok
      cases hok
      exact W.zret hx hb hr (isB_nar g33) (fun t ht hW => ⟨⟨_, (), rfl, rfl, by rw [ht]; exact hP, va_K.moved hW.alike hK, hD⟩, hS.F ht⟩) hS.2.2 dX8_hold_33
  · have hok := k_pos c8 hok
    refine lv_aload_n hx hb dX8_hold_11 rfl (lv_at hl 0 rfl) ?_
    refine lv_iconst (v := 1) hx hb dX8_hold_12 (by decide) ?_
    obtain ⟨⟨r13, vN_13⟩, hc13, hok⟩ := k_bind hok
    try dsimp only at hok
    refine kCi (wc := (wX8_isDone cy aN qN aH vN)) (wc2 := (wX8_isDone cy aN qN aH vN_13)) (wr := [(aH, oX4 vH qH), (qN 1, oX1 vD qD), (qD 0, rI cy 9 vD_now), (qD 1, rR cy 16 (fun j => some (pD_past j))), (pD_past 0, rI cy 9 (vD_past 0)), (pD_past 1, rI cy 9 (vD_past 1)), (pD_past 2, rI cy 9 (vD_past 2)), (pD_past 3, rI cy 9 (vD_past 3)), (pD_past 4, rI cy 9 (vD_past 4)), (pD_past 5, rI cy 9 (vD_past 5)), (pD_past 6, rI cy 9 (vD_past 6)), (pD_past 7, rI cy 9 (vD_past 7)), (pD_past 8, rI cy 9 (vD_past 8)), (pD_past 9, rI cy 9 (vD_past 9)), (pD_past 10, rI cy 9 (vD_past 10)), (pD_past 11, rI cy 9 (vD_past 11)), (pD_past 12, rI cy 9 (vD_past 12)), (pD_past 13, rI cy 9 (vD_past 13)), (pD_past 14, rI cy 9 (vD_past 14)), (pD_past 15, rI cy 9 (vD_past 15))]) (ws2 := (wX8_hold cy aN qN aH qH qD pD_past vN_13 vH vD vD_now vD_past)) (kRunV (As := [.int 1]) (rest := []) ⟨hx, hb, hml, hown, ht0⟩ (kX8_isDone l D cy _ aN qN aH vN (1 : Int32) r13 vN_13 hc13 _ rfl) (cwV 1 ht0 (gV wd692 wd693 wd694 wd57 wd695) rfl rfl rfl (by decide +kernel) ⟨Nat.le_of_ble_eq_true rfl, Nat.le_of_ble_eq_true rfl⟩) hK hN hP hD [0] rfl (by decide) 0 7 rfl rfl rfl hl.1 rfl (Nat.le_of_ble_eq_true rfl) dX8_hold_13 ⟨Nat.zero_le _, Nat.zero_le _⟩) hP hD hS hA [0] [1, 2, 3, 4, 5, 6, 7, 8, 9, 10, 11, 12, 13, 14, 15, 16, 17, 18, 19, 20] rfl rfl (by decide) (by decide) [20, 0, 1, 2, 3, 4, 5, 6, 7, 8, 9, 10, 11, 12, 13, 14, 15, 16, 17, 18, 19] (by decide) rfl rfl (fun H locs hP hD hS => ?_)
    obtain ⟨g16, hok⟩ := gd_some hok
    cases hok
    exact W.zret hx hb hr (isB_nar g16) (fun t ht hW => ⟨⟨_, (), rfl, rfl, by rw [ht]; exact hP, va_K.moved hW.alike hK, hD⟩, hS.F ht⟩) hS.2.2 dX8_hold_16
def wsX8_let : List Cond := .code yX8_let cX8_let 2 (some .boolean) :: W0
abbrev wX8_let (cy : Nat → ClassId) (aN : Nat) (qN : Nat → Nat) (aH : Nat) (qH : Nat → Nat) (qD : Nat → Nat) (pD_past : Nat → Nat) (vN : Nat → Int32) (vH : Nat → Int32) (vD : Nat → Int32) (vD_now : Nat → Int32) (vD_past : Nat → Nat → Int32) : va_W := [(aN, oX8 vN qN aH), (aH, oX4 vH qH), (qN 1, oX1 vD qD), (qD 0, rI cy 9 vD_now), (qD 1, rR cy 16 (fun j => some (pD_past j))), (pD_past 0, rI cy 9 (vD_past 0)), (pD_past 1, rI cy 9 (vD_past 1)), (pD_past 2, rI cy 9 (vD_past 2)), (pD_past 3, rI cy 9 (vD_past 3)), (pD_past 4, rI cy 9 (vD_past 4)), (pD_past 5, rI cy 9 (vD_past 5)), (pD_past 6, rI cy 9 (vD_past 6)), (pD_past 7, rI cy 9 (vD_past 7)), (pD_past 8, rI cy 9 (vD_past 8)), (pD_past 9, rI cy 9 (vD_past 9)), (pD_past 10, rI cy 9 (vD_past 10)), (pD_past 11, rI cy 9 (vD_past 11)), (pD_past 12, rI cy 9 (vD_past 12)), (pD_past 13, rI cy 9 (vD_past 13)), (pD_past 14, rI cy 9 (vD_past 14)), (pD_past 15, rI cy 9 (vD_past 15))]
set_option maxHeartbeats 4000000 in
set_option maxRecDepth 100000 in
theorem kX8_let (l : Launch) (D : va_G) (cy : Nat → ClassId) (sz : Nat) (aN : Nat) (qN : Nat → Nat) (aH : Nat) (qH : Nat → Nat) (qD : Nat → Nat) (pD_past : Nat → Nat) (vN : Nat → Int32) (vH : Nat → Int32) (vD : Nat → Int32) (vD_now : Nat → Int32) (vD_past : Nat → Nat → Int32) (x1 : Int32) (zr : Int32) (z_vN : Nat → Int32) (z_vD : Nat → Int32) (z_vD_now : Nat → Int32) (z_vD_past : Nat → Nat → Int32) (hok : fX8_let vN vH vD vD_now vD_past x1 = some (zr, z_vN, z_vD, z_vD_now, z_vD_past)) (A : Nat → Prop) (hAe : va_A (wX8_let cy aN qN aH qH qD pD_past vN vH vD vD_now vD_past) sz = A) : Met l yX8_let wsX8_let ({ frames := 2, cells := 0, slots := 0, locals := 60 } : Room) (kPre D cy [.ref aN, .int x1] (wX8_let cy aN qN aH qH qD pD_past vN vH vD vD_now vD_past) sz) (kQi D cy zr A (wX8_let cy aN qN aH qH qD pD_past z_vN vH z_vD z_vD_now z_vD_past)) 0 0 A := by
  refine Met.ofW (cc := cX8_let) (maxL := 2) (ret := (some .boolean)) (by decide) rfl ?_
  intro p e s m args below meth c s₁ B hml hv
  obtain ⟨rfl, hsz, hP, hK, hD0, hN⟩ := hv
  have hx := B.exec
  have hb := B.bytes
  have hr := B.returns
  have ht0 : ∀ w ∈ W0, w.before _ s = true := fun w h => atoms_spec (ws := wsX8_let) B.pre w (List.mem_cons_of_mem _ h)
  have hown : s.vm.findClass RX8 = some m.cls := findClass_of_methodNamed B.named
  have hlocks := B.notSynchronized
  subst hsz
  have hD : va_D A (wX8_let cy aN qN aH qH qD pD_past vN vH vD vD_now vD_past) := by rw [← hAe]; exact hD0.self
  have hA : ∀ q : Nat, s.heap.size ≤ q → A q := fun q h => by rw [← hAe]; exact Or.inr h
  have hS : va_S A s.heap s.heap [] := va_S.rf
  have hl := lv_entry ([.ref aN, .int x1]) (n := 2) (Nat.le_of_ble_eq_true rfl)
  rw [lg_entry_eq]
  generalize (lg_sl ([.ref aN, .int x1]) ++ List.replicate (2 - (lg_sl ([.ref aN, .int x1])).length) Slot.unset).toArray = ls at hl ⊢
  have hl : lv_has ls 2 [(0, .ref aN), (1, .int x1)] := hl
  unfold fX8_let at hok
  obtain ⟨H, hH⟩ : ∃ H, H = s.heap := ⟨_, rfl⟩
  obtain ⟨locs, hlc⟩ : ∃ x : List Loc, x = [] := ⟨_, rfl⟩
  have hP : va_P D vwCl (wX8_let cy aN qN aH qH qD pD_past vN vH vD vD_now vD_past) H := by rw [hH]; exact hP
  have hS : va_S A s.heap H locs := by rw [hH, hlc]; exact hS
  rw [show W p l e _ s m _ below meth c s.heap [] = W p l e _ s m _ below meth c H locs from by rw [hH, hlc]]
  refine lv_aload_n hx hb dX8_let_0 rfl (lv_at hl 0 rfl) ?_
  refine va_get (D := D) (ci := 7) (v := .ref aH) (C := RX8) (T := TX8) (N := 9) hx hb ht0 niX8 hown hK hP 0 rfl rfl 5 (by decide) (ht0 _ wd522) (fun _ h9 => h9) rfl dX8_let_1 ?_
  refine lv_iload_n hx hb dX8_let_4 rfl (lv_at hl 1 rfl) ?_
  obtain ⟨r5, hc5, hok⟩ := k_bind hok
  refine kCi (wc := (wX4_hasThing cy aH qH vH)) (wc2 := (wX4_hasThing cy aH qH vH)) (wr := [(aN, oX8 vN qN aH), (qN 1, oX1 vD qD), (qD 0, rI cy 9 vD_now), (qD 1, rR cy 16 (fun j => some (pD_past j))), (pD_past 0, rI cy 9 (vD_past 0)), (pD_past 1, rI cy 9 (vD_past 1)), (pD_past 2, rI cy 9 (vD_past 2)), (pD_past 3, rI cy 9 (vD_past 3)), (pD_past 4, rI cy 9 (vD_past 4)), (pD_past 5, rI cy 9 (vD_past 5)), (pD_past 6, rI cy 9 (vD_past 6)), (pD_past 7, rI cy 9 (vD_past 7)), (pD_past 8, rI cy 9 (vD_past 8)), (pD_past 9, rI cy 9 (vD_past 9)), (pD_past 10, rI cy 9 (vD_past 10)), (pD_past 11, rI cy 9 (vD_past 11)), (pD_past 12, rI cy 9 (vD_past 12)), (pD_past 13, rI cy 9 (vD_past 13)), (pD_past 14, rI cy 9 (vD_past 14)), (pD_past 15, rI cy 9 (vD_past 15))]) (ws2 := (wX8_let cy aN qN aH qH qD pD_past vN vH vD vD_now vD_past)) (kRunV (As := [.int x1]) (rest := []) ⟨hx, hb, hml, hown, ht0⟩ (kX4_hasThing l D cy _ aH qH vH x1 r5 hc5 _ rfl) (cwV 1 ht0 (gV wd551 wd552 wd553 wd9 wd554) rfl rfl rfl (by decide +kernel) ⟨Nat.le_of_ble_eq_true rfl, Nat.le_of_ble_eq_true rfl⟩) hK hN hP hD [1] rfl (by decide) 1 3 rfl rfl rfl hl.1 rfl (Nat.le_of_ble_eq_true rfl) dX8_let_5 ⟨Nat.zero_le _, Nat.zero_le _⟩) hP hD hS hA [1] [0, 2, 3, 4, 5, 6, 7, 8, 9, 10, 11, 12, 13, 14, 15, 16, 17, 18, 19, 20] rfl rfl (by decide) (by decide) [0, 20, 1, 2, 3, 4, 5, 6, 7, 8, 9, 10, 11, 12, 13, 14, 15, 16, 17, 18, 19] (by decide) rfl rfl (fun H locs hP hD hS => ?_)
  refine lv_if_ne (tgt := 17) hx hb dX8_let_8 (by decide) (fun c8 => ?_) (fun c8 => ?_)
  · have hok := k_neg c8 hok
    refine lv_aload_n hx hb dX8_let_17 rfl (lv_at hl 0 rfl) ?_
    refine va_get (D := D) (ci := 7) (v := .ref (qN 1)) (C := RX8) (T := TX8) (N := 9) hx hb ht0 niX8 hown hK hP 0 rfl rfl 1 (by decide) (ht0 _ wd527) (fun _ h9 => h9) rfl dX8_let_18 ?_
    refine lv_iload_n hx hb dX8_let_21 rfl (lv_at hl 1 rfl) ?_
    obtain ⟨r22, hc22, hok⟩ := k_bind hok
    refine kCi (wc := (wX1_isHeld cy (qN 1) qD vD vD_now)) (wc2 := (wX1_isHeld cy (qN 1) qD vD vD_now)) (wr := [(aN, oX8 vN qN aH), (aH, oX4 vH qH), (qD 1, rR cy 16 (fun j => some (pD_past j))), (pD_past 0, rI cy 9 (vD_past 0)), (pD_past 1, rI cy 9 (vD_past 1)), (pD_past 2, rI cy 9 (vD_past 2)), (pD_past 3, rI cy 9 (vD_past 3)), (pD_past 4, rI cy 9 (vD_past 4)), (pD_past 5, rI cy 9 (vD_past 5)), (pD_past 6, rI cy 9 (vD_past 6)), (pD_past 7, rI cy 9 (vD_past 7)), (pD_past 8, rI cy 9 (vD_past 8)), (pD_past 9, rI cy 9 (vD_past 9)), (pD_past 10, rI cy 9 (vD_past 10)), (pD_past 11, rI cy 9 (vD_past 11)), (pD_past 12, rI cy 9 (vD_past 12)), (pD_past 13, rI cy 9 (vD_past 13)), (pD_past 14, rI cy 9 (vD_past 14)), (pD_past 15, rI cy 9 (vD_past 15))]) (ws2 := (wX8_let cy aN qN aH qH qD pD_past vN vH vD vD_now vD_past)) (kRunV (As := [.int x1]) (rest := []) ⟨hx, hb, hml, hown, ht0⟩ (kX1_isHeld l D cy _ (qN 1) qD vD vD_now x1 r22 hc22 _ rfl) (cwV 1 ht0 (gV wd565 wd72 wd73 wd74 wd75) rfl rfl rfl (by decide +kernel) ⟨Nat.le_of_ble_eq_true rfl, Nat.le_of_ble_eq_true rfl⟩) hK hN hP hD [2, 3] rfl (by decide) 2 1 rfl rfl rfl hl.1 rfl (Nat.le_of_ble_eq_true rfl) dX8_let_22 ⟨Nat.zero_le _, Nat.zero_le _⟩) hP hD hS hA [2, 3] [0, 1, 4, 5, 6, 7, 8, 9, 10, 11, 12, 13, 14, 15, 16, 17, 18, 19, 20] rfl rfl (by decide) (by decide) [0, 1, 19, 20, 2, 3, 4, 5, 6, 7, 8, 9, 10, 11, 12, 13, 14, 15, 16, 17, 18] (by decide) rfl rfl (fun H locs hP hD hS => ?_)
    refine lv_if_ne (tgt := 34) hx hb dX8_let_25 (by decide) (fun c25 => ?_) (fun c25 => ?_)
    · have hok := k_neg c25 hok
      refine lv_aload_n hx hb dX8_let_34 rfl (lv_at hl 0 rfl) ?_
      refine va_get (D := D) (ci := 7) (v := .ref (qN 1)) (C := RX8) (T := TX8) (N := 9) hx hb ht0 niX8 hown hK hP 0 rfl rfl 1 (by decide) (ht0 _ wd527) (fun _ h9 => h9) rfl dX8_let_35 ?_
      obtain ⟨⟨vD_38, vD_past_38⟩, hc38, hok⟩ := k_bind hok
      try dsimp only at hok
      refine kCv (wc := (wX1_keep cy (qN 1) qD pD_past vD vD_past vD_now)) (wc2 := (wX1_keep cy (qN 1) qD pD_past vD_38 vD_past_38 vD_now)) (wr := [(aN, oX8 vN qN aH), (aH, oX4 vH qH)]) (ws2 := (wX8_let cy aN qN aH qH qD pD_past vN vH vD_38 vD_now vD_past_38)) (kRunV (As := []) (rest := []) ⟨hx, hb, hml, hown, ht0⟩ (kX1_keep l D cy _ (qN 1) qD pD_past vD vD_past vD_now vD_38 vD_past_38 hc38 _ rfl) (cwV 0 ht0 (gV wd684 wd685 wd686 wd74 wd687) rfl rfl rfl (by decide +kernel) ⟨Nat.le_of_ble_eq_true rfl, Nat.le_of_ble_eq_true rfl⟩) hK hN hP hD [2, 4, 5, 6, 7, 8, 9, 10, 11, 12, 13, 14, 15, 16, 17, 18, 19, 20, 3] rfl (by decide) 2 1 rfl rfl rfl hl.1 rfl (Nat.le_of_ble_eq_true rfl) dX8_let_38 ⟨Nat.zero_le _, Nat.zero_le _⟩) hP hD hS hA [2, 4, 5, 6, 7, 8, 9, 10, 11, 12, 13, 14, 15, 16, 17, 18, 19, 20, 3] [0, 1] rfl rfl (by decide) (by decide) [0, 1, 2, 20, 3, 4, 5, 6, 7, 8, 9, 10, 11, 12, 13, 14, 15, 16, 17, 18, 19] (by decide) rfl rfl (fun H locs hP hD hS => ?_)
      refine lv_aload_n hx hb dX8_let_41 rfl (lv_at hl 0 rfl) ?_
      refine va_get (D := D) (ci := 7) (v := .ref (qN 1)) (C := RX8) (T := TX8) (N := 9) hx hb ht0 niX8 hown hK hP 0 rfl rfl 1 (by decide) (ht0 _ wd527) (fun _ h9 => h9) rfl dX8_let_42 ?_
      refine lv_iload_n hx hb dX8_let_45 rfl (lv_at hl 1 rfl) ?_
      obtain ⟨vD_now_46, hc46, hok⟩ := k_bind hok
      refine kCv (wc := (wX1_turnHeld cy (qN 1) qD vD_38 vD_now)) (wc2 := (wX1_turnHeld cy (qN 1) qD vD_38 vD_now_46)) (wr := [(aN, oX8 vN qN aH), (aH, oX4 vH qH), (qD 1, rR cy 16 (fun j => some (pD_past j))), (pD_past 0, rI cy 9 (vD_past_38 0)), (pD_past 1, rI cy 9 (vD_past_38 1)), (pD_past 2, rI cy 9 (vD_past_38 2)), (pD_past 3, rI cy 9 (vD_past_38 3)), (pD_past 4, rI cy 9 (vD_past_38 4)), (pD_past 5, rI cy 9 (vD_past_38 5)), (pD_past 6, rI cy 9 (vD_past_38 6)), (pD_past 7, rI cy 9 (vD_past_38 7)), (pD_past 8, rI cy 9 (vD_past_38 8)), (pD_past 9, rI cy 9 (vD_past_38 9)), (pD_past 10, rI cy 9 (vD_past_38 10)), (pD_past 11, rI cy 9 (vD_past_38 11)), (pD_past 12, rI cy 9 (vD_past_38 12)), (pD_past 13, rI cy 9 (vD_past_38 13)), (pD_past 14, rI cy 9 (vD_past_38 14)), (pD_past 15, rI cy 9 (vD_past_38 15))]) (ws2 := (wX8_let cy aN qN aH qH qD pD_past vN vH vD_38 vD_now_46 vD_past_38)) (kRunV (As := [.int x1]) (rest := []) ⟨hx, hb, hml, hown, ht0⟩ (kX1_turnHeld l D cy _ (qN 1) qD vD_38 vD_now x1 vD_now_46 hc46 _ rfl) (cwV 1 ht0 (gV wd688 wd689 wd690 wd74 wd691) rfl rfl rfl (by decide +kernel) ⟨Nat.le_of_ble_eq_true rfl, Nat.le_of_ble_eq_true rfl⟩) hK hN hP hD [2, 3] rfl (by decide) 2 1 rfl rfl rfl hl.1 rfl (Nat.le_of_ble_eq_true rfl) dX8_let_46 ⟨Nat.zero_le _, Nat.zero_le _⟩) hP hD hS hA [2, 3] [0, 1, 4, 5, 6, 7, 8, 9, 10, 11, 12, 13, 14, 15, 16, 17, 18, 19, 20] rfl rfl (by decide) (by decide) [0, 1, 19, 20, 2, 3, 4, 5, 6, 7, 8, 9, 10, 11, 12, 13, 14, 15, 16, 17, 18] (by decide) rfl rfl (fun H locs hP hD hS => ?_)
      refine lv_aload_n hx hb dX8_let_49 rfl (lv_at hl 0 rfl) ?_
      refine lv_iconst (v := 0) hx hb dX8_let_50 (by decide) ?_
      obtain ⟨⟨r51, vN_51⟩, hc51, hok⟩ := k_bind hok
      try dsimp only at hok
      refine kCi (wc := (wX8_isDone cy aN qN aH vN)) (wc2 := (wX8_isDone cy aN qN aH vN_51)) (wr := [(aH, oX4 vH qH), (qN 1, oX1 vD_38 qD), (qD 0, rI cy 9 vD_now_46), (qD 1, rR cy 16 (fun j => some (pD_past j))), (pD_past 0, rI cy 9 (vD_past_38 0)), (pD_past 1, rI cy 9 (vD_past_38 1)), (pD_past 2, rI cy 9 (vD_past_38 2)), (pD_past 3, rI cy 9 (vD_past_38 3)), (pD_past 4, rI cy 9 (vD_past_38 4)), (pD_past 5, rI cy 9 (vD_past_38 5)), (pD_past 6, rI cy 9 (vD_past_38 6)), (pD_past 7, rI cy 9 (vD_past_38 7)), (pD_past 8, rI cy 9 (vD_past_38 8)), (pD_past 9, rI cy 9 (vD_past_38 9)), (pD_past 10, rI cy 9 (vD_past_38 10)), (pD_past 11, rI cy 9 (vD_past_38 11)), (pD_past 12, rI cy 9 (vD_past_38 12)), (pD_past 13, rI cy 9 (vD_past_38 13)), (pD_past 14, rI cy 9 (vD_past_38 14)), (pD_past 15, rI cy 9 (vD_past_38 15))]) (ws2 := (wX8_let cy aN qN aH qH qD pD_past vN_51 vH vD_38 vD_now_46 vD_past_38)) (kRunV (As := [.int 0]) (rest := []) ⟨hx, hb, hml, hown, ht0⟩ (kX8_isDone l D cy _ aN qN aH vN (0 : Int32) r51 vN_51 hc51 _ rfl) (cwV 1 ht0 (gV wd692 wd693 wd694 wd57 wd695) rfl rfl rfl (by decide +kernel) ⟨Nat.le_of_ble_eq_true rfl, Nat.le_of_ble_eq_true rfl⟩) hK hN hP hD [0] rfl (by decide) 0 7 rfl rfl rfl hl.1 rfl (Nat.le_of_ble_eq_true rfl) dX8_let_51 ⟨Nat.zero_le _, Nat.zero_le _⟩) hP hD hS hA [0] [1, 2, 3, 4, 5, 6, 7, 8, 9, 10, 11, 12, 13, 14, 15, 16, 17, 18, 19, 20] rfl rfl (by decide) (by decide) [20, 0, 1, 2, 3, 4, 5, 6, 7, 8, 9, 10, 11, 12, 13, 14, 15, 16, 17, 18, 19] (by decide) rfl rfl (fun H locs hP hD hS => ?_)
      obtain ⟨g54, hok⟩ := gd_some hok
      cases hok
      exact W.zret hx hb hr (isB_nar g54) (fun t ht hW => ⟨⟨_, (), rfl, rfl, by rw [ht]; exact hP, va_K.moved hW.alike hK, hD⟩, hS.F ht⟩) hS.2.2 dX8_let_54
    · have hok := k_pos c25 hok
      refine lv_aload_n hx hb dX8_let_28 rfl (lv_at hl 0 rfl) ?_
      refine lv_iconst (v := 5) hx hb dX8_let_29 (by decide) ?_
      obtain ⟨⟨r30, vN_30⟩, hc30, hok⟩ := k_bind hok
      try dsimp only at hok
      refine kCi (wc := (wX8_isDone cy aN qN aH vN)) (wc2 := (wX8_isDone cy aN qN aH vN_30)) (wr := [(aH, oX4 vH qH), (qN 1, oX1 vD qD), (qD 0, rI cy 9 vD_now), (qD 1, rR cy 16 (fun j => some (pD_past j))), (pD_past 0, rI cy 9 (vD_past 0)), (pD_past 1, rI cy 9 (vD_past 1)), (pD_past 2, rI cy 9 (vD_past 2)), (pD_past 3, rI cy 9 (vD_past 3)), (pD_past 4, rI cy 9 (vD_past 4)), (pD_past 5, rI cy 9 (vD_past 5)), (pD_past 6, rI cy 9 (vD_past 6)), (pD_past 7, rI cy 9 (vD_past 7)), (pD_past 8, rI cy 9 (vD_past 8)), (pD_past 9, rI cy 9 (vD_past 9)), (pD_past 10, rI cy 9 (vD_past 10)), (pD_past 11, rI cy 9 (vD_past 11)), (pD_past 12, rI cy 9 (vD_past 12)), (pD_past 13, rI cy 9 (vD_past 13)), (pD_past 14, rI cy 9 (vD_past 14)), (pD_past 15, rI cy 9 (vD_past 15))]) (ws2 := (wX8_let cy aN qN aH qH qD pD_past vN_30 vH vD vD_now vD_past)) (kRunV (As := [.int 5]) (rest := []) ⟨hx, hb, hml, hown, ht0⟩ (kX8_isDone l D cy _ aN qN aH vN (5 : Int32) r30 vN_30 hc30 _ rfl) (cwV 1 ht0 (gV wd692 wd693 wd694 wd57 wd695) rfl rfl rfl (by decide +kernel) ⟨Nat.le_of_ble_eq_true rfl, Nat.le_of_ble_eq_true rfl⟩) hK hN hP hD [0] rfl (by decide) 0 7 rfl rfl rfl hl.1 rfl (Nat.le_of_ble_eq_true rfl) dX8_let_30 ⟨Nat.zero_le _, Nat.zero_le _⟩) hP hD hS hA [0] [1, 2, 3, 4, 5, 6, 7, 8, 9, 10, 11, 12, 13, 14, 15, 16, 17, 18, 19, 20] rfl rfl (by decide) (by decide) [20, 0, 1, 2, 3, 4, 5, 6, 7, 8, 9, 10, 11, 12, 13, 14, 15, 16, 17, 18, 19] (by decide) rfl rfl (fun H locs hP hD hS => ?_)
      obtain ⟨g33, hok⟩ := gd_some hok
      cases hok
      exact W.zret hx hb hr (isB_nar g33) (fun t ht hW => ⟨⟨_, (), rfl, rfl, by rw [ht]; exact hP, va_K.moved hW.alike hK, hD⟩, hS.F ht⟩) hS.2.2 dX8_let_33
  · have hok := k_pos c8 hok
    refine lv_aload_n hx hb dX8_let_11 rfl (lv_at hl 0 rfl) ?_
    refine lv_iconst (v := 1) hx hb dX8_let_12 (by decide) ?_
    obtain ⟨⟨r13, vN_13⟩, hc13, hok⟩ := k_bind hok
    try dsimp only at hok
    refine kCi (wc := (wX8_isDone cy aN qN aH vN)) (wc2 := (wX8_isDone cy aN qN aH vN_13)) (wr := [(aH, oX4 vH qH), (qN 1, oX1 vD qD), (qD 0, rI cy 9 vD_now), (qD 1, rR cy 16 (fun j => some (pD_past j))), (pD_past 0, rI cy 9 (vD_past 0)), (pD_past 1, rI cy 9 (vD_past 1)), (pD_past 2, rI cy 9 (vD_past 2)), (pD_past 3, rI cy 9 (vD_past 3)), (pD_past 4, rI cy 9 (vD_past 4)), (pD_past 5, rI cy 9 (vD_past 5)), (pD_past 6, rI cy 9 (vD_past 6)), (pD_past 7, rI cy 9 (vD_past 7)), (pD_past 8, rI cy 9 (vD_past 8)), (pD_past 9, rI cy 9 (vD_past 9)), (pD_past 10, rI cy 9 (vD_past 10)), (pD_past 11, rI cy 9 (vD_past 11)), (pD_past 12, rI cy 9 (vD_past 12)), (pD_past 13, rI cy 9 (vD_past 13)), (pD_past 14, rI cy 9 (vD_past 14)), (pD_past 15, rI cy 9 (vD_past 15))]) (ws2 := (wX8_let cy aN qN aH qH qD pD_past vN_13 vH vD vD_now vD_past)) (kRunV (As := [.int 1]) (rest := []) ⟨hx, hb, hml, hown, ht0⟩ (kX8_isDone l D cy _ aN qN aH vN (1 : Int32) r13 vN_13 hc13 _ rfl) (cwV 1 ht0 (gV wd692 wd693 wd694 wd57 wd695) rfl rfl rfl (by decide +kernel) ⟨Nat.le_of_ble_eq_true rfl, Nat.le_of_ble_eq_true rfl⟩) hK hN hP hD [0] rfl (by decide) 0 7 rfl rfl rfl hl.1 rfl (Nat.le_of_ble_eq_true rfl) dX8_let_13 ⟨Nat.zero_le _, Nat.zero_le _⟩) hP hD hS hA [0] [1, 2, 3, 4, 5, 6, 7, 8, 9, 10, 11, 12, 13, 14, 15, 16, 17, 18, 19, 20] rfl rfl (by decide) (by decide) [20, 0, 1, 2, 3, 4, 5, 6, 7, 8, 9, 10, 11, 12, 13, 14, 15, 16, 17, 18, 19] (by decide) rfl rfl (fun H locs hP hD hS => ?_)
    obtain ⟨g16, hok⟩ := gd_some hok
    cases hok
    exact W.zret hx hb hr (isB_nar g16) (fun t ht hW => ⟨⟨_, (), rfl, rfl, by rw [ht]; exact hP, va_K.moved hW.alike hK, hD⟩, hS.F ht⟩) hS.2.2 dX8_let_16
def wsX8_put : List Cond := .code yX8_put cX8_put 5 (some .boolean) :: W0
abbrev wX8_put (cy : Nat → ClassId) (aN : Nat) (qN : Nat → Nat) (aH : Nat) (qH : Nat → Nat) (qD : Nat → Nat) (pD_past : Nat → Nat) (vN : Nat → Int32) (vH : Nat → Int32) (vH_places : Nat → Int32) (vD : Nat → Int32) (vD_now : Nat → Int32) (vD_past : Nat → Nat → Int32) : va_W := [(aN, oX8 vN qN aH), (aH, oX4 vH qH), (qH 9, rI cy 4 vH_places), (qN 1, oX1 vD qD), (qD 0, rI cy 9 vD_now), (qD 1, rR cy 16 (fun j => some (pD_past j))), (pD_past 0, rI cy 9 (vD_past 0)), (pD_past 1, rI cy 9 (vD_past 1)), (pD_past 2, rI cy 9 (vD_past 2)), (pD_past 3, rI cy 9 (vD_past 3)), (pD_past 4, rI cy 9 (vD_past 4)), (pD_past 5, rI cy 9 (vD_past 5)), (pD_past 6, rI cy 9 (vD_past 6)), (pD_past 7, rI cy 9 (vD_past 7)), (pD_past 8, rI cy 9 (vD_past 8)), (pD_past 9, rI cy 9 (vD_past 9)), (pD_past 10, rI cy 9 (vD_past 10)), (pD_past 11, rI cy 9 (vD_past 11)), (pD_past 12, rI cy 9 (vD_past 12)), (pD_past 13, rI cy 9 (vD_past 13)), (pD_past 14, rI cy 9 (vD_past 14)), (pD_past 15, rI cy 9 (vD_past 15))]
set_option maxHeartbeats 4000000 in
set_option maxRecDepth 100000 in
theorem kX8_put (l : Launch) (D : va_G) (cy : Nat → ClassId) (sz : Nat) (aN : Nat) (qN : Nat → Nat) (aH : Nat) (qH : Nat → Nat) (qD : Nat → Nat) (pD_past : Nat → Nat) (vN : Nat → Int32) (vH : Nat → Int32) (vH_places : Nat → Int32) (vD : Nat → Int32) (vD_now : Nat → Int32) (vD_past : Nat → Nat → Int32) (x1 : Int32) (x2 : Int32) (x3 : Int32) (zr : Int32) (z_vN : Nat → Int32) (z_vD : Nat → Int32) (z_vD_now : Nat → Int32) (z_vD_past : Nat → Nat → Int32) (hok : fX8_put vN vH vH_places vD vD_now vD_past x1 x2 x3 = some (zr, z_vN, z_vD, z_vD_now, z_vD_past)) (A : Nat → Prop) (hAe : va_A (wX8_put cy aN qN aH qH qD pD_past vN vH vH_places vD vD_now vD_past) sz = A) : Met l yX8_put wsX8_put ({ frames := 2, cells := 0, slots := 0, locals := 60 } : Room) (kPre D cy [.ref aN, .int x1, .int x2, .int x3] (wX8_put cy aN qN aH qH qD pD_past vN vH vH_places vD vD_now vD_past) sz) (kQi D cy zr A (wX8_put cy aN qN aH qH qD pD_past z_vN vH vH_places z_vD z_vD_now z_vD_past)) 0 0 A := by
  refine Met.ofW (cc := cX8_put) (maxL := 5) (ret := (some .boolean)) (by decide) rfl ?_
  intro p e s m args below meth c s₁ B hml hv
  obtain ⟨rfl, hsz, hP, hK, hD0, hN⟩ := hv
  have hx := B.exec
  have hb := B.bytes
  have hr := B.returns
  have ht0 : ∀ w ∈ W0, w.before _ s = true := fun w h => atoms_spec (ws := wsX8_put) B.pre w (List.mem_cons_of_mem _ h)
  have hown : s.vm.findClass RX8 = some m.cls := findClass_of_methodNamed B.named
  have hlocks := B.notSynchronized
  subst hsz
  have hD : va_D A (wX8_put cy aN qN aH qH qD pD_past vN vH vH_places vD vD_now vD_past) := by rw [← hAe]; exact hD0.self
  have hA : ∀ q : Nat, s.heap.size ≤ q → A q := fun q h => by rw [← hAe]; exact Or.inr h
  have hS : va_S A s.heap s.heap [] := va_S.rf
  have hl := lv_entry ([.ref aN, .int x1, .int x2, .int x3]) (n := 5) (Nat.le_of_ble_eq_true rfl)
  rw [lg_entry_eq]
  generalize (lg_sl ([.ref aN, .int x1, .int x2, .int x3]) ++ List.replicate (5 - (lg_sl ([.ref aN, .int x1, .int x2, .int x3])).length) Slot.unset).toArray = ls at hl ⊢
  have hl : lv_has ls 5 [(0, .ref aN), (1, .int x1), (2, .int x2), (3, .int x3)] := hl
  generalize hQe : MQ below (kQi D cy zr A (wX8_put cy aN qN aH qH qD pD_past z_vN vH vH_places z_vD z_vD_now z_vD_past)) ([.ref aN, .int x1, .int x2, .int x3] : List Value).toArray s 0 0 A = Q
  have J66 : ∀ (H : Heap) (locs : List Loc) (ls : Array Slot), va_P D vwCl (wX8_put cy aN qN aH qH qD pD_past vN vH vH_places vD vD_now vD_past) H → va_D A (wX8_put cy aN qN aH qH qD pD_past vN vH vH_places vD vD_now vD_past) → va_S A s.heap H locs → lv_has ls 5 [(0, .ref aN)] → fX8_put_J66 vN vD vD_now vD_past = some (zr, z_vN, z_vD, z_vD_now, z_vD_past) → W p l e ({ frames := 2, cells := 0, slots := 0, locals := 60 } : Room) s m ([.ref aN, .int x1, .int x2, .int x3] : List Value).toArray below meth c H locs 0 0 Q (F0 m 66 ls []) := by
    intro  H locs ls hP hD hS hl hok
    unfold fX8_put_J66 at hok
    refine lv_aload_n hx hb dX8_put_66 rfl (lv_at hl 0 rfl) ?_
    refine lv_iconst (v := 5) hx hb dX8_put_67 (by decide) ?_
    obtain ⟨⟨r68, vN_68⟩, hc68, hok⟩ := k_bind hok
    try dsimp only at hok
    refine kCi (wc := (wX8_isDone cy aN qN aH vN)) (wc2 := (wX8_isDone cy aN qN aH vN_68)) (wr := [(aH, oX4 vH qH), (qH 9, rI cy 4 vH_places), (qN 1, oX1 vD qD), (qD 0, rI cy 9 vD_now), (qD 1, rR cy 16 (fun j => some (pD_past j))), (pD_past 0, rI cy 9 (vD_past 0)), (pD_past 1, rI cy 9 (vD_past 1)), (pD_past 2, rI cy 9 (vD_past 2)), (pD_past 3, rI cy 9 (vD_past 3)), (pD_past 4, rI cy 9 (vD_past 4)), (pD_past 5, rI cy 9 (vD_past 5)), (pD_past 6, rI cy 9 (vD_past 6)), (pD_past 7, rI cy 9 (vD_past 7)), (pD_past 8, rI cy 9 (vD_past 8)), (pD_past 9, rI cy 9 (vD_past 9)), (pD_past 10, rI cy 9 (vD_past 10)), (pD_past 11, rI cy 9 (vD_past 11)), (pD_past 12, rI cy 9 (vD_past 12)), (pD_past 13, rI cy 9 (vD_past 13)), (pD_past 14, rI cy 9 (vD_past 14)), (pD_past 15, rI cy 9 (vD_past 15))]) (ws2 := (wX8_put cy aN qN aH qH qD pD_past vN_68 vH vH_places vD vD_now vD_past)) (kRunV (As := [.int 5]) (rest := []) ⟨hx, hb, hml, hown, ht0⟩ (kX8_isDone l D cy _ aN qN aH vN (5 : Int32) r68 vN_68 hc68 _ rfl) (cwV 1 ht0 (gV wd692 wd693 wd694 wd57 wd695) rfl rfl rfl (by decide +kernel) ⟨Nat.le_of_ble_eq_true rfl, Nat.le_of_ble_eq_true rfl⟩) hK hN hP hD [0] rfl (by decide) 0 7 rfl rfl rfl hl.1 rfl (Nat.le_of_ble_eq_true rfl) dX8_put_68 ⟨Nat.zero_le _, Nat.zero_le _⟩) hP hD hS hA [0] [1, 2, 3, 4, 5, 6, 7, 8, 9, 10, 11, 12, 13, 14, 15, 16, 17, 18, 19, 20, 21] rfl rfl (by decide) (by decide) [21, 0, 1, 2, 3, 4, 5, 6, 7, 8, 9, 10, 11, 12, 13, 14, 15, 16, 17, 18, 19, 20] (by decide) rfl rfl (fun H locs hP hD hS => ?_)
    obtain ⟨g71, hok⟩ := gd_some hok
    cases hok
    subst hQe; exact W.zret hx hb hr (isB_nar g71) (fun t ht hW => ⟨⟨_, (), rfl, rfl, by rw [ht]; exact hP, va_K.moved hW.alike hK, hD⟩, hS.F ht⟩) hS.2.2 dX8_put_71
  have J23 : ∀ (H : Heap) (locs : List Loc) (ls : Array Slot), va_P D vwCl (wX8_put cy aN qN aH qH qD pD_past vN vH vH_places vD vD_now vD_past) H → va_D A (wX8_put cy aN qN aH qH qD pD_past vN vH vH_places vD vD_now vD_past) → va_S A s.heap H locs → lv_has ls 5 [(0, .ref aN)] → fX8_put_J23 vN vD vD_now vD_past = some (zr, z_vN, z_vD, z_vD_now, z_vD_past) → W p l e ({ frames := 2, cells := 0, slots := 0, locals := 60 } : Room) s m ([.ref aN, .int x1, .int x2, .int x3] : List Value).toArray below meth c H locs 0 0 Q (F0 m 23 ls []) := by
    intro  H locs ls hP hD hS hl hok
    unfold fX8_put_J23 at hok
    refine lv_aload_n hx hb dX8_put_23 rfl (lv_at hl 0 rfl) ?_
    refine lv_iconst (v := 1) hx hb dX8_put_24 (by decide) ?_
    obtain ⟨⟨r25, vN_25⟩, hc25, hok⟩ := k_bind hok
    try dsimp only at hok
    refine kCi (wc := (wX8_isDone cy aN qN aH vN)) (wc2 := (wX8_isDone cy aN qN aH vN_25)) (wr := [(aH, oX4 vH qH), (qH 9, rI cy 4 vH_places), (qN 1, oX1 vD qD), (qD 0, rI cy 9 vD_now), (qD 1, rR cy 16 (fun j => some (pD_past j))), (pD_past 0, rI cy 9 (vD_past 0)), (pD_past 1, rI cy 9 (vD_past 1)), (pD_past 2, rI cy 9 (vD_past 2)), (pD_past 3, rI cy 9 (vD_past 3)), (pD_past 4, rI cy 9 (vD_past 4)), (pD_past 5, rI cy 9 (vD_past 5)), (pD_past 6, rI cy 9 (vD_past 6)), (pD_past 7, rI cy 9 (vD_past 7)), (pD_past 8, rI cy 9 (vD_past 8)), (pD_past 9, rI cy 9 (vD_past 9)), (pD_past 10, rI cy 9 (vD_past 10)), (pD_past 11, rI cy 9 (vD_past 11)), (pD_past 12, rI cy 9 (vD_past 12)), (pD_past 13, rI cy 9 (vD_past 13)), (pD_past 14, rI cy 9 (vD_past 14)), (pD_past 15, rI cy 9 (vD_past 15))]) (ws2 := (wX8_put cy aN qN aH qH qD pD_past vN_25 vH vH_places vD vD_now vD_past)) (kRunV (As := [.int 1]) (rest := []) ⟨hx, hb, hml, hown, ht0⟩ (kX8_isDone l D cy _ aN qN aH vN (1 : Int32) r25 vN_25 hc25 _ rfl) (cwV 1 ht0 (gV wd692 wd693 wd694 wd57 wd695) rfl rfl rfl (by decide +kernel) ⟨Nat.le_of_ble_eq_true rfl, Nat.le_of_ble_eq_true rfl⟩) hK hN hP hD [0] rfl (by decide) 0 7 rfl rfl rfl hl.1 rfl (Nat.le_of_ble_eq_true rfl) dX8_put_25 ⟨Nat.zero_le _, Nat.zero_le _⟩) hP hD hS hA [0] [1, 2, 3, 4, 5, 6, 7, 8, 9, 10, 11, 12, 13, 14, 15, 16, 17, 18, 19, 20, 21] rfl rfl (by decide) (by decide) [21, 0, 1, 2, 3, 4, 5, 6, 7, 8, 9, 10, 11, 12, 13, 14, 15, 16, 17, 18, 19, 20] (by decide) rfl rfl (fun H locs hP hD hS => ?_)
    obtain ⟨g28, hok⟩ := gd_some hok
    cases hok
    subst hQe; exact W.zret hx hb hr (isB_nar g28) (fun t ht hW => ⟨⟨_, (), rfl, rfl, by rw [ht]; exact hP, va_K.moved hW.alike hK, hD⟩, hS.F ht⟩) hS.2.2 dX8_put_28
  unfold fX8_put at hok
  obtain ⟨H, hH⟩ : ∃ H, H = s.heap := ⟨_, rfl⟩
  obtain ⟨locs, hlc⟩ : ∃ x : List Loc, x = [] := ⟨_, rfl⟩
  have hP : va_P D vwCl (wX8_put cy aN qN aH qH qD pD_past vN vH vH_places vD vD_now vD_past) H := by rw [hH]; exact hP
  have hS : va_S A s.heap H locs := by rw [hH, hlc]; exact hS
  rw [show W p l e _ s m _ below meth c s.heap [] = W p l e _ s m _ below meth c H locs from by rw [hH, hlc]]
  refine lv_aload_n hx hb dX8_put_0 rfl (lv_at hl 0 rfl) ?_
  refine va_get (D := D) (ci := 7) (v := .ref aH) (C := RX8) (T := TX8) (N := 9) hx hb ht0 niX8 hown hK hP 0 rfl rfl 5 (by decide) (ht0 _ wd522) (fun _ h9 => h9) rfl dX8_put_1 ?_
  refine lv_iload_n hx hb dX8_put_4 rfl (lv_at hl 1 rfl) ?_
  obtain ⟨r5, hc5, hok⟩ := k_bind hok
  refine kCi (wc := (wX4_hasThing cy aH qH vH)) (wc2 := (wX4_hasThing cy aH qH vH)) (wr := [(aN, oX8 vN qN aH), (qH 9, rI cy 4 vH_places), (qN 1, oX1 vD qD), (qD 0, rI cy 9 vD_now), (qD 1, rR cy 16 (fun j => some (pD_past j))), (pD_past 0, rI cy 9 (vD_past 0)), (pD_past 1, rI cy 9 (vD_past 1)), (pD_past 2, rI cy 9 (vD_past 2)), (pD_past 3, rI cy 9 (vD_past 3)), (pD_past 4, rI cy 9 (vD_past 4)), (pD_past 5, rI cy 9 (vD_past 5)), (pD_past 6, rI cy 9 (vD_past 6)), (pD_past 7, rI cy 9 (vD_past 7)), (pD_past 8, rI cy 9 (vD_past 8)), (pD_past 9, rI cy 9 (vD_past 9)), (pD_past 10, rI cy 9 (vD_past 10)), (pD_past 11, rI cy 9 (vD_past 11)), (pD_past 12, rI cy 9 (vD_past 12)), (pD_past 13, rI cy 9 (vD_past 13)), (pD_past 14, rI cy 9 (vD_past 14)), (pD_past 15, rI cy 9 (vD_past 15))]) (ws2 := (wX8_put cy aN qN aH qH qD pD_past vN vH vH_places vD vD_now vD_past)) (kRunV (As := [.int x1]) (rest := []) ⟨hx, hb, hml, hown, ht0⟩ (kX4_hasThing l D cy _ aH qH vH x1 r5 hc5 _ rfl) (cwV 1 ht0 (gV wd551 wd552 wd553 wd9 wd554) rfl rfl rfl (by decide +kernel) ⟨Nat.le_of_ble_eq_true rfl, Nat.le_of_ble_eq_true rfl⟩) hK hN hP hD [1] rfl (by decide) 1 3 rfl rfl rfl hl.1 rfl (Nat.le_of_ble_eq_true rfl) dX8_put_5 ⟨Nat.zero_le _, Nat.zero_le _⟩) hP hD hS hA [1] [0, 2, 3, 4, 5, 6, 7, 8, 9, 10, 11, 12, 13, 14, 15, 16, 17, 18, 19, 20, 21] rfl rfl (by decide) (by decide) [0, 21, 1, 2, 3, 4, 5, 6, 7, 8, 9, 10, 11, 12, 13, 14, 15, 16, 17, 18, 19, 20] (by decide) rfl rfl (fun H locs hP hD hS => ?_)
  refine lv_if_eq (tgt := 23) hx hb dX8_put_8 (by decide) (fun c8 => ?_) (fun c8 => ?_)
  · have hok := k_pos c8 hok
    exact J23  H locs ls hP hD hS (lv_sub hl [0] rfl) hok
  · have hok := k_neg c8 hok
    refine lv_aload_n hx hb dX8_put_11 rfl (lv_at hl 0 rfl) ?_
    refine va_get (D := D) (ci := 7) (v := .ref aH) (C := RX8) (T := TX8) (N := 9) hx hb ht0 niX8 hown hK hP 0 rfl rfl 5 (by decide) (ht0 _ wd522) (fun _ h9 => h9) rfl dX8_put_12 ?_
    refine lv_iload_n hx hb dX8_put_15 rfl (lv_at hl 2 rfl) ?_
    refine lv_iload_n hx hb dX8_put_16 rfl (lv_at hl 3 rfl) ?_
    obtain ⟨r17, hc17, hok⟩ := k_bind hok
    refine kCi (wc := (wX4_hasPlace cy aH qH vH vH_places)) (wc2 := (wX4_hasPlace cy aH qH vH vH_places)) (wr := [(aN, oX8 vN qN aH), (qN 1, oX1 vD qD), (qD 0, rI cy 9 vD_now), (qD 1, rR cy 16 (fun j => some (pD_past j))), (pD_past 0, rI cy 9 (vD_past 0)), (pD_past 1, rI cy 9 (vD_past 1)), (pD_past 2, rI cy 9 (vD_past 2)), (pD_past 3, rI cy 9 (vD_past 3)), (pD_past 4, rI cy 9 (vD_past 4)), (pD_past 5, rI cy 9 (vD_past 5)), (pD_past 6, rI cy 9 (vD_past 6)), (pD_past 7, rI cy 9 (vD_past 7)), (pD_past 8, rI cy 9 (vD_past 8)), (pD_past 9, rI cy 9 (vD_past 9)), (pD_past 10, rI cy 9 (vD_past 10)), (pD_past 11, rI cy 9 (vD_past 11)), (pD_past 12, rI cy 9 (vD_past 12)), (pD_past 13, rI cy 9 (vD_past 13)), (pD_past 14, rI cy 9 (vD_past 14)), (pD_past 15, rI cy 9 (vD_past 15))]) (ws2 := (wX8_put cy aN qN aH qH qD pD_past vN vH vH_places vD vD_now vD_past)) (kRunV (As := [.int x2, .int x3]) (rest := []) ⟨hx, hb, hml, hown, ht0⟩ (kX4_hasPlace l D cy _ aH qH vH vH_places x2 x3 r17 hc17 _ rfl) (cwV 2 ht0 (gV wd566 wd567 wd568 wd9 wd569) rfl rfl rfl (by decide +kernel) ⟨Nat.le_of_ble_eq_true rfl, Nat.le_of_ble_eq_true rfl⟩) hK hN hP hD [1, 2] rfl (by decide) 1 3 rfl rfl rfl hl.1 rfl (Nat.le_of_ble_eq_true rfl) dX8_put_17 ⟨Nat.zero_le _, Nat.zero_le _⟩) hP hD hS hA [1, 2] [0, 3, 4, 5, 6, 7, 8, 9, 10, 11, 12, 13, 14, 15, 16, 17, 18, 19, 20, 21] rfl rfl (by decide) (by decide) [0, 20, 21, 1, 2, 3, 4, 5, 6, 7, 8, 9, 10, 11, 12, 13, 14, 15, 16, 17, 18, 19] (by decide) rfl rfl (fun H locs hP hD hS => ?_)
    refine lv_if_ne (tgt := 29) hx hb dX8_put_20 (by decide) (fun c20 => ?_) (fun c20 => ?_)
    · have hok := k_neg c20 hok
      refine lv_iload_n hx hb dX8_put_29 rfl (lv_at hl 2 rfl) ?_
      refine lv_iload_n hx hb dX8_put_30 rfl (lv_at hl 3 rfl) ?_
      obtain ⟨r31, hc31, hok⟩ := k_bind hok
      refine kCi (wc := (wX8_cellAt cy )) (wc2 := (wX8_cellAt cy )) (wr := [(aN, oX8 vN qN aH), (aH, oX4 vH qH), (qH 9, rI cy 4 vH_places), (qN 1, oX1 vD qD), (qD 0, rI cy 9 vD_now), (qD 1, rR cy 16 (fun j => some (pD_past j))), (pD_past 0, rI cy 9 (vD_past 0)), (pD_past 1, rI cy 9 (vD_past 1)), (pD_past 2, rI cy 9 (vD_past 2)), (pD_past 3, rI cy 9 (vD_past 3)), (pD_past 4, rI cy 9 (vD_past 4)), (pD_past 5, rI cy 9 (vD_past 5)), (pD_past 6, rI cy 9 (vD_past 6)), (pD_past 7, rI cy 9 (vD_past 7)), (pD_past 8, rI cy 9 (vD_past 8)), (pD_past 9, rI cy 9 (vD_past 9)), (pD_past 10, rI cy 9 (vD_past 10)), (pD_past 11, rI cy 9 (vD_past 11)), (pD_past 12, rI cy 9 (vD_past 12)), (pD_past 13, rI cy 9 (vD_past 13)), (pD_past 14, rI cy 9 (vD_past 14)), (pD_past 15, rI cy 9 (vD_past 15))]) (ws2 := (wX8_put cy aN qN aH qH qD pD_past vN vH vH_places vD vD_now vD_past)) (kRunS (As := [.int x2, .int x3]) (rest := []) ⟨hx, hb, hml, hown, ht0⟩ (kX8_cellAt l D cy _ x2 x3 r31 hc31 _ rfl) (va_cwS 2 ht0 (gS wd570 wd261 wd57 wd260) rfl rfl rfl (by decide +kernel) ⟨Nat.le_of_ble_eq_true rfl, Nat.le_of_ble_eq_true rfl⟩) hK hN hP hD [] rfl (by decide) rfl hl.1 rfl (Nat.le_of_ble_eq_true rfl) dX8_put_31 ⟨Nat.zero_le _, Nat.zero_le _⟩) hP hD hS hA [] [0, 1, 2, 3, 4, 5, 6, 7, 8, 9, 10, 11, 12, 13, 14, 15, 16, 17, 18, 19, 20, 21] rfl rfl (by decide) (by decide) [0, 1, 2, 3, 4, 5, 6, 7, 8, 9, 10, 11, 12, 13, 14, 15, 16, 17, 18, 19, 20, 21] (by decide) rfl rfl (fun H locs hP hD hS => ?_)
      refine lv_istore (lv' := [(4, .int r31), (0, .ref aN), (1, .int x1), (2, .int x2), (3, .int x3)]) hx hb dX8_put_34 hl (by decide) rfl (fun ls hl => ?_)
      refine lv_aload_n hx hb dX8_put_36 rfl (lv_at hl 1 rfl) ?_
      refine va_get (D := D) (ci := 7) (v := .ref (qN 1)) (C := RX8) (T := TX8) (N := 9) hx hb ht0 niX8 hown hK hP 0 rfl rfl 1 (by decide) (ht0 _ wd527) (fun _ h9 => h9) rfl dX8_put_37 ?_
      refine lv_iload_n hx hb dX8_put_40 rfl (lv_at hl 2 rfl) ?_
      obtain ⟨r41, hc41, hok⟩ := k_bind hok
      refine kCi (wc := (wX1_isHeld cy (qN 1) qD vD vD_now)) (wc2 := (wX1_isHeld cy (qN 1) qD vD vD_now)) (wr := [(aN, oX8 vN qN aH), (aH, oX4 vH qH), (qH 9, rI cy 4 vH_places), (qD 1, rR cy 16 (fun j => some (pD_past j))), (pD_past 0, rI cy 9 (vD_past 0)), (pD_past 1, rI cy 9 (vD_past 1)), (pD_past 2, rI cy 9 (vD_past 2)), (pD_past 3, rI cy 9 (vD_past 3)), (pD_past 4, rI cy 9 (vD_past 4)), (pD_past 5, rI cy 9 (vD_past 5)), (pD_past 6, rI cy 9 (vD_past 6)), (pD_past 7, rI cy 9 (vD_past 7)), (pD_past 8, rI cy 9 (vD_past 8)), (pD_past 9, rI cy 9 (vD_past 9)), (pD_past 10, rI cy 9 (vD_past 10)), (pD_past 11, rI cy 9 (vD_past 11)), (pD_past 12, rI cy 9 (vD_past 12)), (pD_past 13, rI cy 9 (vD_past 13)), (pD_past 14, rI cy 9 (vD_past 14)), (pD_past 15, rI cy 9 (vD_past 15))]) (ws2 := (wX8_put cy aN qN aH qH qD pD_past vN vH vH_places vD vD_now vD_past)) (kRunV (As := [.int x1]) (rest := []) ⟨hx, hb, hml, hown, ht0⟩ (kX1_isHeld l D cy _ (qN 1) qD vD vD_now x1 r41 hc41 _ rfl) (cwV 1 ht0 (gV wd565 wd72 wd73 wd74 wd75) rfl rfl rfl (by decide +kernel) ⟨Nat.le_of_ble_eq_true rfl, Nat.le_of_ble_eq_true rfl⟩) hK hN hP hD [3, 4] rfl (by decide) 3 1 rfl rfl rfl hl.1 rfl (Nat.le_of_ble_eq_true rfl) dX8_put_41 ⟨Nat.zero_le _, Nat.zero_le _⟩) hP hD hS hA [3, 4] [0, 1, 2, 5, 6, 7, 8, 9, 10, 11, 12, 13, 14, 15, 16, 17, 18, 19, 20, 21] rfl rfl (by decide) (by decide) [0, 1, 2, 20, 21, 3, 4, 5, 6, 7, 8, 9, 10, 11, 12, 13, 14, 15, 16, 17, 18, 19] (by decide) rfl rfl (fun H locs hP hD hS => ?_)
      refine lv_if_ne (tgt := 66) hx hb dX8_put_44 (by decide) (fun c44 => ?_) (fun c44 => ?_)
      · have hok := k_neg c44 hok
        exact J66  H locs ls hP hD hS (lv_sub hl [1] rfl) hok
      · have hok := k_pos c44 hok
        refine lv_aload_n hx hb dX8_put_47 rfl (lv_at hl 1 rfl) ?_
        refine va_get (D := D) (ci := 7) (v := .ref (qN 1)) (C := RX8) (T := TX8) (N := 9) hx hb ht0 niX8 hown hK hP 0 rfl rfl 1 (by decide) (ht0 _ wd527) (fun _ h9 => h9) rfl dX8_put_48 ?_
        refine lv_iload hx hb dX8_put_51 (lv_at hl 0 rfl) ?_
        refine lv_aload_n hx hb dX8_put_53 rfl (lv_at hl 1 rfl) ?_
        refine va_get (D := D) (ci := 7) (v := .ref aH) (C := RX8) (T := TX8) (N := 9) hx hb ht0 niX8 hown hK hP 0 rfl rfl 5 (by decide) (ht0 _ wd522) (fun _ h9 => h9) rfl dX8_put_54 ?_
        refine va_get (D := D) (ci := 3) (v := .int (vH 5)) (C := RX4) (T := TX4) (N := 20) hx hb ht0 niX4 hown hK hP 1 rfl rfl 5 (by decide) (ht0 _ wd543) (fun _ h9 => h9) rfl dX8_put_57 ?_
        obtain ⟨r60, hc60, hok⟩ := k_bind hok
        refine kCi (wc := (wX1_thingAt cy (qN 1) qD vD vD_now)) (wc2 := (wX1_thingAt cy (qN 1) qD vD vD_now)) (wr := [(aN, oX8 vN qN aH), (aH, oX4 vH qH), (qH 9, rI cy 4 vH_places), (qD 1, rR cy 16 (fun j => some (pD_past j))), (pD_past 0, rI cy 9 (vD_past 0)), (pD_past 1, rI cy 9 (vD_past 1)), (pD_past 2, rI cy 9 (vD_past 2)), (pD_past 3, rI cy 9 (vD_past 3)), (pD_past 4, rI cy 9 (vD_past 4)), (pD_past 5, rI cy 9 (vD_past 5)), (pD_past 6, rI cy 9 (vD_past 6)), (pD_past 7, rI cy 9 (vD_past 7)), (pD_past 8, rI cy 9 (vD_past 8)), (pD_past 9, rI cy 9 (vD_past 9)), (pD_past 10, rI cy 9 (vD_past 10)), (pD_past 11, rI cy 9 (vD_past 11)), (pD_past 12, rI cy 9 (vD_past 12)), (pD_past 13, rI cy 9 (vD_past 13)), (pD_past 14, rI cy 9 (vD_past 14)), (pD_past 15, rI cy 9 (vD_past 15))]) (ws2 := (wX8_put cy aN qN aH qH qD pD_past vN vH vH_places vD vD_now vD_past)) (kRunV (As := [.int r31, .int (vH 5)]) (rest := []) ⟨hx, hb, hml, hown, ht0⟩ (kX1_thingAt l D cy _ (qN 1) qD vD vD_now r31 (vH 5) r60 hc60 _ rfl) (cwV 2 ht0 (gV wd571 wd572 wd573 wd74 wd574) rfl rfl rfl (by decide +kernel) ⟨Nat.le_of_ble_eq_true rfl, Nat.le_of_ble_eq_true rfl⟩) hK hN hP hD [3, 4] rfl (by decide) 3 1 rfl rfl rfl hl.1 rfl (Nat.le_of_ble_eq_true rfl) dX8_put_60 ⟨Nat.zero_le _, Nat.zero_le _⟩) hP hD hS hA [3, 4] [0, 1, 2, 5, 6, 7, 8, 9, 10, 11, 12, 13, 14, 15, 16, 17, 18, 19, 20, 21] rfl rfl (by decide) (by decide) [0, 1, 2, 20, 21, 3, 4, 5, 6, 7, 8, 9, 10, 11, 12, 13, 14, 15, 16, 17, 18, 19] (by decide) rfl rfl (fun H locs hP hD hS => ?_)
        refine lv_if_lt (tgt := 72) hx hb dX8_put_63 (by decide) (fun c63 => ?_) (fun c63 => ?_)
        · have hok := k_pos c63 hok
          refine lv_aload_n hx hb dX8_put_72 rfl (lv_at hl 1 rfl) ?_
          refine va_get (D := D) (ci := 7) (v := .ref (qN 1)) (C := RX8) (T := TX8) (N := 9) hx hb ht0 niX8 hown hK hP 0 rfl rfl 1 (by decide) (ht0 _ wd527) (fun _ h9 => h9) rfl dX8_put_73 ?_
          obtain ⟨⟨vD_76, vD_past_76⟩, hc76, hok⟩ := k_bind hok
          try dsimp only at hok
          refine kCv (wc := (wX1_keep cy (qN 1) qD pD_past vD vD_past vD_now)) (wc2 := (wX1_keep cy (qN 1) qD pD_past vD_76 vD_past_76 vD_now)) (wr := [(aN, oX8 vN qN aH), (aH, oX4 vH qH), (qH 9, rI cy 4 vH_places)]) (ws2 := (wX8_put cy aN qN aH qH qD pD_past vN vH vH_places vD_76 vD_now vD_past_76)) (kRunV (As := []) (rest := []) ⟨hx, hb, hml, hown, ht0⟩ (kX1_keep l D cy _ (qN 1) qD pD_past vD vD_past vD_now vD_76 vD_past_76 hc76 _ rfl) (cwV 0 ht0 (gV wd684 wd685 wd686 wd74 wd687) rfl rfl rfl (by decide +kernel) ⟨Nat.le_of_ble_eq_true rfl, Nat.le_of_ble_eq_true rfl⟩) hK hN hP hD [3, 5, 6, 7, 8, 9, 10, 11, 12, 13, 14, 15, 16, 17, 18, 19, 20, 21, 4] rfl (by decide) 3 1 rfl rfl rfl hl.1 rfl (Nat.le_of_ble_eq_true rfl) dX8_put_76 ⟨Nat.zero_le _, Nat.zero_le _⟩) hP hD hS hA [3, 5, 6, 7, 8, 9, 10, 11, 12, 13, 14, 15, 16, 17, 18, 19, 20, 21, 4] [0, 1, 2] rfl rfl (by decide) (by decide) [0, 1, 2, 3, 21, 4, 5, 6, 7, 8, 9, 10, 11, 12, 13, 14, 15, 16, 17, 18, 19, 20] (by decide) rfl rfl (fun H locs hP hD hS => ?_)
          refine lv_aload_n hx hb dX8_put_79 rfl (lv_at hl 1 rfl) ?_
          refine va_get (D := D) (ci := 7) (v := .ref (qN 1)) (C := RX8) (T := TX8) (N := 9) hx hb ht0 niX8 hown hK hP 0 rfl rfl 1 (by decide) (ht0 _ wd527) (fun _ h9 => h9) rfl dX8_put_80 ?_
          refine lv_iload_n hx hb dX8_put_83 rfl (lv_at hl 2 rfl) ?_
          refine lv_iload hx hb dX8_put_84 (lv_at hl 0 rfl) ?_
          obtain ⟨vD_now_86, hc86, hok⟩ := k_bind hok
          refine kCv (wc := (wX1_move cy (qN 1) qD vD_76 vD_now)) (wc2 := (wX1_move cy (qN 1) qD vD_76 vD_now_86)) (wr := [(aN, oX8 vN qN aH), (aH, oX4 vH qH), (qH 9, rI cy 4 vH_places), (qD 1, rR cy 16 (fun j => some (pD_past j))), (pD_past 0, rI cy 9 (vD_past_76 0)), (pD_past 1, rI cy 9 (vD_past_76 1)), (pD_past 2, rI cy 9 (vD_past_76 2)), (pD_past 3, rI cy 9 (vD_past_76 3)), (pD_past 4, rI cy 9 (vD_past_76 4)), (pD_past 5, rI cy 9 (vD_past_76 5)), (pD_past 6, rI cy 9 (vD_past_76 6)), (pD_past 7, rI cy 9 (vD_past_76 7)), (pD_past 8, rI cy 9 (vD_past_76 8)), (pD_past 9, rI cy 9 (vD_past_76 9)), (pD_past 10, rI cy 9 (vD_past_76 10)), (pD_past 11, rI cy 9 (vD_past_76 11)), (pD_past 12, rI cy 9 (vD_past_76 12)), (pD_past 13, rI cy 9 (vD_past_76 13)), (pD_past 14, rI cy 9 (vD_past_76 14)), (pD_past 15, rI cy 9 (vD_past_76 15))]) (ws2 := (wX8_put cy aN qN aH qH qD pD_past vN vH vH_places vD_76 vD_now_86 vD_past_76)) (kRunV (As := [.int x1, .int r31]) (rest := []) ⟨hx, hb, hml, hown, ht0⟩ (kX1_move l D cy _ (qN 1) qD vD_76 vD_now x1 r31 vD_now_86 hc86 _ rfl) (cwV 2 ht0 (gV wd696 wd697 wd698 wd74 wd699) rfl rfl rfl (by decide +kernel) ⟨Nat.le_of_ble_eq_true rfl, Nat.le_of_ble_eq_true rfl⟩) hK hN hP hD [3, 4] rfl (by decide) 3 1 rfl rfl rfl hl.1 rfl (Nat.le_of_ble_eq_true rfl) dX8_put_86 ⟨Nat.zero_le _, Nat.zero_le _⟩) hP hD hS hA [3, 4] [0, 1, 2, 5, 6, 7, 8, 9, 10, 11, 12, 13, 14, 15, 16, 17, 18, 19, 20, 21] rfl rfl (by decide) (by decide) [0, 1, 2, 20, 21, 3, 4, 5, 6, 7, 8, 9, 10, 11, 12, 13, 14, 15, 16, 17, 18, 19] (by decide) rfl rfl (fun H locs hP hD hS => ?_)
          refine lv_aload_n hx hb dX8_put_89 rfl (lv_at hl 1 rfl) ?_
          refine lv_iconst (v := 0) hx hb dX8_put_90 (by decide) ?_
          obtain ⟨⟨r91, vN_91⟩, hc91, hok⟩ := k_bind hok
          try dsimp only at hok
          refine kCi (wc := (wX8_isDone cy aN qN aH vN)) (wc2 := (wX8_isDone cy aN qN aH vN_91)) (wr := [(aH, oX4 vH qH), (qH 9, rI cy 4 vH_places), (qN 1, oX1 vD_76 qD), (qD 0, rI cy 9 vD_now_86), (qD 1, rR cy 16 (fun j => some (pD_past j))), (pD_past 0, rI cy 9 (vD_past_76 0)), (pD_past 1, rI cy 9 (vD_past_76 1)), (pD_past 2, rI cy 9 (vD_past_76 2)), (pD_past 3, rI cy 9 (vD_past_76 3)), (pD_past 4, rI cy 9 (vD_past_76 4)), (pD_past 5, rI cy 9 (vD_past_76 5)), (pD_past 6, rI cy 9 (vD_past_76 6)), (pD_past 7, rI cy 9 (vD_past_76 7)), (pD_past 8, rI cy 9 (vD_past_76 8)), (pD_past 9, rI cy 9 (vD_past_76 9)), (pD_past 10, rI cy 9 (vD_past_76 10)), (pD_past 11, rI cy 9 (vD_past_76 11)), (pD_past 12, rI cy 9 (vD_past_76 12)), (pD_past 13, rI cy 9 (vD_past_76 13)), (pD_past 14, rI cy 9 (vD_past_76 14)), (pD_past 15, rI cy 9 (vD_past_76 15))]) (ws2 := (wX8_put cy aN qN aH qH qD pD_past vN_91 vH vH_places vD_76 vD_now_86 vD_past_76)) (kRunV (As := [.int 0]) (rest := []) ⟨hx, hb, hml, hown, ht0⟩ (kX8_isDone l D cy _ aN qN aH vN (0 : Int32) r91 vN_91 hc91 _ rfl) (cwV 1 ht0 (gV wd692 wd693 wd694 wd57 wd695) rfl rfl rfl (by decide +kernel) ⟨Nat.le_of_ble_eq_true rfl, Nat.le_of_ble_eq_true rfl⟩) hK hN hP hD [0] rfl (by decide) 0 7 rfl rfl rfl hl.1 rfl (Nat.le_of_ble_eq_true rfl) dX8_put_91 ⟨Nat.zero_le _, Nat.zero_le _⟩) hP hD hS hA [0] [1, 2, 3, 4, 5, 6, 7, 8, 9, 10, 11, 12, 13, 14, 15, 16, 17, 18, 19, 20, 21] rfl rfl (by decide) (by decide) [21, 0, 1, 2, 3, 4, 5, 6, 7, 8, 9, 10, 11, 12, 13, 14, 15, 16, 17, 18, 19, 20] (by decide) rfl rfl (fun H locs hP hD hS => ?_)
          obtain ⟨g94, hok⟩ := gd_some hok
          cases hok
          subst hQe; exact W.zret hx hb hr (isB_nar g94) (fun t ht hW => ⟨⟨_, (), rfl, rfl, by rw [ht]; exact hP, va_K.moved hW.alike hK, hD⟩, hS.F ht⟩) hS.2.2 dX8_put_94
        · have hok := k_neg c63 hok
          exact J66  H locs ls hP hD hS (lv_sub hl [1] rfl) hok
    · have hok := k_pos c20 hok
      exact J23  H locs ls hP hD hS (lv_sub hl [0] rfl) hok
def wsX8_night : List Cond := .code yX8_night cX8_night 2 (some .int) :: W0
abbrev wX8_night (cy : Nat → ClassId) (aN : Nat) (qN : Nat → Nat) (aH : Nat) (qH : Nat → Nat) (qD : Nat → Nat) (pD_past : Nat → Nat) (qW : Nat → Nat) (aH0 : Nat) (vN : Nat → Int32) (vH : Nat → Int32) (vD : Nat → Int32) (vD_now : Nat → Int32) (vD_past : Nat → Nat → Int32) (vW : Nat → Int32) (vW_who : Nat → Int32) (vH_kinds : Nat → Int32) (vW_cells : Nat → Int32) (vH_sorts : Nat → Int32) (vH_next : Nat → Int32) (vW_inFront : Nat → Int32) (vH_sizes : Nat → Int32) (vH_width : Nat → Int32) : va_W := [(aN, oX8 vN qN aH), (aH, oX4 vH qH), (qN 1, oX1 vD qD), (qD 0, rI cy 9 vD_now), (qD 1, rR cy 16 (fun j => some (pD_past j))), (pD_past 0, rI cy 9 (vD_past 0)), (pD_past 1, rI cy 9 (vD_past 1)), (pD_past 2, rI cy 9 (vD_past 2)), (pD_past 3, rI cy 9 (vD_past 3)), (pD_past 4, rI cy 9 (vD_past 4)), (pD_past 5, rI cy 9 (vD_past 5)), (pD_past 6, rI cy 9 (vD_past 6)), (pD_past 7, rI cy 9 (vD_past 7)), (pD_past 8, rI cy 9 (vD_past 8)), (pD_past 9, rI cy 9 (vD_past 9)), (pD_past 10, rI cy 9 (vD_past 10)), (pD_past 11, rI cy 9 (vD_past 11)), (pD_past 12, rI cy 9 (vD_past 12)), (pD_past 13, rI cy 9 (vD_past 13)), (pD_past 14, rI cy 9 (vD_past 14)), (pD_past 15, rI cy 9 (vD_past 15)), (qN 2, oX6 vW qW aH0), (qW 1, rI cy 36 vW_who), (qH 14, rI cy 7 vH_kinds), (qW 0, rI cy 7 vW_cells), (qH 8, rI cy 4 vH_sorts), (qH 10, rI cy 36 vH_next), (qW 2, rI cy 7 vW_inFront), (qH 15, rI cy 7 vH_sizes), (qH 11, rI cy 36 vH_width)]
set_option maxHeartbeats 4000000 in
set_option maxRecDepth 100000 in
theorem kX8_night (l : Launch) (D : va_G) (cy : Nat → ClassId) (sz : Nat) (aN : Nat) (qN : Nat → Nat) (aH : Nat) (qH : Nat → Nat) (qD : Nat → Nat) (pD_past : Nat → Nat) (qW : Nat → Nat) (aH0 : Nat) (vN : Nat → Int32) (vH : Nat → Int32) (vD : Nat → Int32) (vD_now : Nat → Int32) (vD_past : Nat → Nat → Int32) (vW : Nat → Int32) (vW_who : Nat → Int32) (vH_kinds : Nat → Int32) (vW_cells : Nat → Int32) (vH_sorts : Nat → Int32) (vH_next : Nat → Int32) (vW_inFront : Nat → Int32) (vH_sizes : Nat → Int32) (vH_width : Nat → Int32) (zr : Int32) (z_vN : Nat → Int32) (z_vD : Nat → Int32) (z_vD_now : Nat → Int32) (z_vD_past : Nat → Nat → Int32) (z_vW : Nat → Int32) (z_vW_who : Nat → Int32) (z_vW_cells : Nat → Int32) (z_vW_inFront : Nat → Int32) (z_aH0 : Nat) (hok : fX8_night aH aH0 vN vH vD vD_now vD_past vW vW_who vH_kinds vW_cells vH_sorts vH_next vW_inFront vH_sizes vH_width = some (zr, z_vN, z_vD, z_vD_now, z_vD_past, z_vW, z_vW_who, z_vW_cells, z_vW_inFront, z_aH0)) (A : Nat → Prop) (hAe : va_A (wX8_night cy aN qN aH qH qD pD_past qW aH0 vN vH vD vD_now vD_past vW vW_who vH_kinds vW_cells vH_sorts vH_next vW_inFront vH_sizes vH_width) sz = A) : Met l yX8_night wsX8_night ({ frames := 3, cells := 0, slots := 0, locals := 73 } : Room) (kPre D cy [.ref aN] (wX8_night cy aN qN aH qH qD pD_past qW aH0 vN vH vD vD_now vD_past vW vW_who vH_kinds vW_cells vH_sorts vH_next vW_inFront vH_sizes vH_width) sz) (kQi D cy zr A (wX8_night cy aN qN aH qH qD pD_past qW z_aH0 z_vN vH z_vD z_vD_now z_vD_past z_vW z_vW_who vH_kinds z_vW_cells vH_sorts vH_next z_vW_inFront vH_sizes vH_width)) 0 0 A := by
  refine Met.ofW (cc := cX8_night) (maxL := 2) (ret := (some .int)) (by decide) rfl ?_
  intro p e s m args below meth c s₁ B hml hv
  obtain ⟨rfl, hsz, hP, hK, hD0, hN⟩ := hv
  have hx := B.exec
  have hb := B.bytes
  have hr := B.returns
  have ht0 : ∀ w ∈ W0, w.before _ s = true := fun w h => atoms_spec (ws := wsX8_night) B.pre w (List.mem_cons_of_mem _ h)
  have hown : s.vm.findClass RX8 = some m.cls := findClass_of_methodNamed B.named
  have hlocks := B.notSynchronized
  subst hsz
  have hD : va_D A (wX8_night cy aN qN aH qH qD pD_past qW aH0 vN vH vD vD_now vD_past vW vW_who vH_kinds vW_cells vH_sorts vH_next vW_inFront vH_sizes vH_width) := by rw [← hAe]; exact hD0.self
  have hA : ∀ q : Nat, s.heap.size ≤ q → A q := fun q h => by rw [← hAe]; exact Or.inr h
  have hS : va_S A s.heap s.heap [] := va_S.rf
  have hl := lv_entry ([.ref aN]) (n := 2) (Nat.le_of_ble_eq_true rfl)
  rw [lg_entry_eq]
  generalize (lg_sl ([.ref aN]) ++ List.replicate (2 - (lg_sl ([.ref aN])).length) Slot.unset).toArray = ls at hl ⊢
  have hl : lv_has ls 2 [(0, .ref aN)] := hl
  generalize hQe : MQ below (kQi D cy zr A (wX8_night cy aN qN aH qH qD pD_past qW z_aH0 z_vN vH z_vD z_vD_now z_vD_past z_vW z_vW_who vH_kinds z_vW_cells vH_sorts vH_next z_vW_inFront vH_sizes vH_width)) ([.ref aN] : List Value).toArray s 0 0 A = Q
  have L68 : ∀ (fuel : Nat) (y1_68 : Int32) (vD_now_68 : Nat → Int32) (vD_past_68 : Nat → Nat → Int32) (vW_cells_68 : Nat → Int32) (vW_inFront_68 : Nat → Int32) (vW_who_68 : Nat → Int32) (vD_68 : Nat → Int32) (vW_68 : Nat → Int32), ∀ (H : Heap) (locs : List Loc) (ls : Array Slot), va_P D vwCl (wX8_night cy aN qN aH qH qD pD_past qW aH vN vH vD_68 vD_now_68 vD_past_68 vW_68 vW_who_68 vH_kinds vW_cells_68 vH_sorts vH_next vW_inFront_68 vH_sizes vH_width) H → va_D A (wX8_night cy aN qN aH qH qD pD_past qW aH vN vH vD_68 vD_now_68 vD_past_68 vW_68 vW_who_68 vH_kinds vW_cells_68 vH_sorts vH_next vW_inFront_68 vH_sizes vH_width) → va_S A s.heap H locs → lv_has ls 2 [(0, .ref aN), (1, .int y1_68)] → lp (fX8_night_B68 aH vN vH) fuel (y1_68, vD_now_68, vD_past_68, vW_cells_68, vW_inFront_68, vW_who_68, vD_68, vW_68) = some (zr, z_vN, z_vD, z_vD_now, z_vD_past, z_vW, z_vW_who, z_vW_cells, z_vW_inFront, z_aH0) → W p l e ({ frames := 3, cells := 0, slots := 0, locals := 73 } : Room) s m ([.ref aN] : List Value).toArray below meth c H locs 0 0 Q (F0 m 68 ls []) := by
    intro fuel
    induction fuel with
    | zero => intro y1_68 vD_now_68 vD_past_68 vW_cells_68 vW_inFront_68 vW_who_68 vD_68 vW_68 H locs ls hP hD hS hl hok; exact (lp_0 hok).elim
    | succ fuel ih68 =>
      intro y1_68 vD_now_68 vD_past_68 vW_cells_68 vW_inFront_68 vW_who_68 vD_68 vW_68 H locs ls hP hD hS hl hok
      obtain ⟨y68, hok, hL68, hR68⟩ := lp_step hok
      unfold fX8_night_B68 at hok
      try dsimp only at hok
      refine lv_iload_n hx hb dX8_night_68 rfl (lv_at hl 1 rfl) ?_
      refine lv_aload_n hx hb dX8_night_69 rfl (lv_at hl 0 rfl) ?_
      refine va_get (D := D) (ci := 7) (v := .ref aH) (C := RX8) (T := TX8) (N := 9) hx hb ht0 niX8 hown hK hP 0 rfl rfl 5 (by decide) (ht0 _ wd522) (fun _ h9 => h9) rfl dX8_night_70 ?_
      refine va_get (D := D) (ci := 3) (v := .int (vH 5)) (C := RX4) (T := TX4) (N := 20) hx hb ht0 niX4 hown hK hP 1 rfl rfl 5 (by decide) (ht0 _ wd543) (fun _ h9 => h9) rfl dX8_night_73 ?_
      refine lv_icmp_ge (tgt := 101) hx hb dX8_night_76 (by decide) (fun c76 => ?_) (fun c76 => ?_)
      · have hok := k_pos c76 hok
        obtain ⟨e68, hok, he68⟩ := ex_some hok
        have hok := hok.trans (congrArg some (hL68 _ he68))
        refine lv_aload_n hx hb dX8_night_101 rfl (lv_at hl 0 rfl) ?_
        refine va_get (D := D) (ci := 7) (v := .ref (qN 1)) (C := RX8) (T := TX8) (N := 9) hx hb ht0 niX8 hown hK hP 0 rfl rfl 1 (by decide) (ht0 _ wd527) (fun _ h9 => h9) rfl dX8_night_102 ?_
        obtain ⟨vD_now_105, hc105, hok⟩ := k_bind hok
        refine kCv (wc := (wX1_nextNight cy (qN 1) qD vD_68 vD_now_68)) (wc2 := (wX1_nextNight cy (qN 1) qD vD_68 vD_now_105)) (wr := [(aN, oX8 vN qN aH), (aH, oX4 vH qH), (qD 1, rR cy 16 (fun j => some (pD_past j))), (pD_past 0, rI cy 9 (vD_past_68 0)), (pD_past 1, rI cy 9 (vD_past_68 1)), (pD_past 2, rI cy 9 (vD_past_68 2)), (pD_past 3, rI cy 9 (vD_past_68 3)), (pD_past 4, rI cy 9 (vD_past_68 4)), (pD_past 5, rI cy 9 (vD_past_68 5)), (pD_past 6, rI cy 9 (vD_past_68 6)), (pD_past 7, rI cy 9 (vD_past_68 7)), (pD_past 8, rI cy 9 (vD_past_68 8)), (pD_past 9, rI cy 9 (vD_past_68 9)), (pD_past 10, rI cy 9 (vD_past_68 10)), (pD_past 11, rI cy 9 (vD_past_68 11)), (pD_past 12, rI cy 9 (vD_past_68 12)), (pD_past 13, rI cy 9 (vD_past_68 13)), (pD_past 14, rI cy 9 (vD_past_68 14)), (pD_past 15, rI cy 9 (vD_past_68 15)), (qN 2, oX6 vW_68 qW aH), (qW 1, rI cy 36 vW_who_68), (qH 14, rI cy 7 vH_kinds), (qW 0, rI cy 7 vW_cells_68), (qH 8, rI cy 4 vH_sorts), (qH 10, rI cy 36 vH_next), (qW 2, rI cy 7 vW_inFront_68), (qH 15, rI cy 7 vH_sizes), (qH 11, rI cy 36 vH_width)]) (ws2 := (wX8_night cy aN qN aH qH qD pD_past qW aH vN vH vD_68 vD_now_105 vD_past_68 vW_68 vW_who_68 vH_kinds vW_cells_68 vH_sorts vH_next vW_inFront_68 vH_sizes vH_width)) (kRunV (As := []) (rest := []) ⟨hx, hb, hml, hown, ht0⟩ (kX1_nextNight l D cy _ (qN 1) qD vD_68 vD_now_68 vD_now_105 hc105 _ rfl) (cwV 0 ht0 (gV wd700 wd701 wd702 wd74 wd703) rfl rfl rfl (by decide +kernel) ⟨Nat.le_of_ble_eq_true rfl, Nat.le_of_ble_eq_true rfl⟩) hK hN hP hD [2, 3] rfl (by decide) 2 1 rfl rfl rfl hl.1 rfl (Nat.le_of_ble_eq_true rfl) dX8_night_105 ⟨Nat.zero_le _, Nat.zero_le _⟩) hP hD hS hA [2, 3] [0, 1, 4, 5, 6, 7, 8, 9, 10, 11, 12, 13, 14, 15, 16, 17, 18, 19, 20, 21, 22, 23, 24, 25, 26, 27, 28, 29] rfl rfl (by decide) (by decide) [0, 1, 28, 29, 2, 3, 4, 5, 6, 7, 8, 9, 10, 11, 12, 13, 14, 15, 16, 17, 18, 19, 20, 21, 22, 23, 24, 25, 26, 27] (by decide) rfl rfl (fun H locs hP hD hS => ?_)
        refine lv_aload_n hx hb dX8_night_108 rfl (lv_at hl 0 rfl) ?_
        refine lv_aload_n hx hb dX8_night_109 rfl (lv_at hl 0 rfl) ?_
        refine va_get (D := D) (ci := 7) (v := .ref (qN 2)) (C := RX8) (T := TX8) (N := 9) hx hb ht0 niX8 hown hK hP 0 rfl rfl 2 (by decide) (ht0 _ wd578) (fun _ h9 => h9) rfl dX8_night_110 ?_
        obtain ⟨r113, hc113, hok⟩ := k_bind hok
        refine kCi (wc := (wX6_went cy (qN 2) qW aH vW_68)) (wc2 := (wX6_went cy (qN 2) qW aH vW_68)) (wr := [(aN, oX8 vN qN aH), (aH, oX4 vH qH), (qN 1, oX1 vD_68 qD), (qD 0, rI cy 9 vD_now_105), (qD 1, rR cy 16 (fun j => some (pD_past j))), (pD_past 0, rI cy 9 (vD_past_68 0)), (pD_past 1, rI cy 9 (vD_past_68 1)), (pD_past 2, rI cy 9 (vD_past_68 2)), (pD_past 3, rI cy 9 (vD_past_68 3)), (pD_past 4, rI cy 9 (vD_past_68 4)), (pD_past 5, rI cy 9 (vD_past_68 5)), (pD_past 6, rI cy 9 (vD_past_68 6)), (pD_past 7, rI cy 9 (vD_past_68 7)), (pD_past 8, rI cy 9 (vD_past_68 8)), (pD_past 9, rI cy 9 (vD_past_68 9)), (pD_past 10, rI cy 9 (vD_past_68 10)), (pD_past 11, rI cy 9 (vD_past_68 11)), (pD_past 12, rI cy 9 (vD_past_68 12)), (pD_past 13, rI cy 9 (vD_past_68 13)), (pD_past 14, rI cy 9 (vD_past_68 14)), (pD_past 15, rI cy 9 (vD_past_68 15)), (qW 1, rI cy 36 vW_who_68), (qH 14, rI cy 7 vH_kinds), (qW 0, rI cy 7 vW_cells_68), (qH 8, rI cy 4 vH_sorts), (qH 10, rI cy 36 vH_next), (qW 2, rI cy 7 vW_inFront_68), (qH 15, rI cy 7 vH_sizes), (qH 11, rI cy 36 vH_width)]) (ws2 := (wX8_night cy aN qN aH qH qD pD_past qW aH vN vH vD_68 vD_now_105 vD_past_68 vW_68 vW_who_68 vH_kinds vW_cells_68 vH_sorts vH_next vW_inFront_68 vH_sizes vH_width)) (kRunV (As := []) (rest := [.ref aN]) ⟨hx, hb, hml, hown, ht0⟩ (kX6_went l D cy _ (qN 2) qW aH vW_68 r113 hc113 _ rfl) (cwV 0 ht0 (gV wd581 wd582 wd583 wd114 wd584) rfl rfl rfl (by decide +kernel) ⟨Nat.le_of_ble_eq_true rfl, Nat.le_of_ble_eq_true rfl⟩) hK hN hP hD [21] rfl (by decide) 21 5 rfl rfl rfl hl.1 rfl (Nat.le_of_ble_eq_true rfl) dX8_night_113 ⟨Nat.zero_le _, Nat.zero_le _⟩) hP hD hS hA [21] [0, 1, 2, 3, 4, 5, 6, 7, 8, 9, 10, 11, 12, 13, 14, 15, 16, 17, 18, 19, 20, 22, 23, 24, 25, 26, 27, 28, 29] rfl rfl (by decide) (by decide) [0, 1, 2, 3, 4, 5, 6, 7, 8, 9, 10, 11, 12, 13, 14, 15, 16, 17, 18, 19, 20, 29, 21, 22, 23, 24, 25, 26, 27, 28] (by decide) rfl rfl (fun H locs hP hD hS => ?_)
        obtain ⟨⟨r116, vN_116⟩, hc116, hok⟩ := k_bind hok
        try dsimp only at hok
        refine kCi (wc := (wX8_answer cy aN qN aH vN)) (wc2 := (wX8_answer cy aN qN aH vN_116)) (wr := [(aH, oX4 vH qH), (qN 1, oX1 vD_68 qD), (qD 0, rI cy 9 vD_now_105), (qD 1, rR cy 16 (fun j => some (pD_past j))), (pD_past 0, rI cy 9 (vD_past_68 0)), (pD_past 1, rI cy 9 (vD_past_68 1)), (pD_past 2, rI cy 9 (vD_past_68 2)), (pD_past 3, rI cy 9 (vD_past_68 3)), (pD_past 4, rI cy 9 (vD_past_68 4)), (pD_past 5, rI cy 9 (vD_past_68 5)), (pD_past 6, rI cy 9 (vD_past_68 6)), (pD_past 7, rI cy 9 (vD_past_68 7)), (pD_past 8, rI cy 9 (vD_past_68 8)), (pD_past 9, rI cy 9 (vD_past_68 9)), (pD_past 10, rI cy 9 (vD_past_68 10)), (pD_past 11, rI cy 9 (vD_past_68 11)), (pD_past 12, rI cy 9 (vD_past_68 12)), (pD_past 13, rI cy 9 (vD_past_68 13)), (pD_past 14, rI cy 9 (vD_past_68 14)), (pD_past 15, rI cy 9 (vD_past_68 15)), (qN 2, oX6 vW_68 qW aH), (qW 1, rI cy 36 vW_who_68), (qH 14, rI cy 7 vH_kinds), (qW 0, rI cy 7 vW_cells_68), (qH 8, rI cy 4 vH_sorts), (qH 10, rI cy 36 vH_next), (qW 2, rI cy 7 vW_inFront_68), (qH 15, rI cy 7 vH_sizes), (qH 11, rI cy 36 vH_width)]) (ws2 := (wX8_night cy aN qN aH qH qD pD_past qW aH vN_116 vH vD_68 vD_now_105 vD_past_68 vW_68 vW_who_68 vH_kinds vW_cells_68 vH_sorts vH_next vW_inFront_68 vH_sizes vH_width)) (kRunV (As := [.int r113]) (rest := []) ⟨hx, hb, hml, hown, ht0⟩ (kX8_answer l D cy _ aN qN aH vN r113 r116 vN_116 hc116 _ rfl) (cwV 1 ht0 (gV wd538 wd539 wd540 wd57 wd541) rfl rfl rfl (by decide +kernel) ⟨Nat.le_of_ble_eq_true rfl, Nat.le_of_ble_eq_true rfl⟩) hK hN hP hD [0] rfl (by decide) 0 7 rfl rfl rfl hl.1 rfl (Nat.le_of_ble_eq_true rfl) dX8_night_116 ⟨Nat.zero_le _, Nat.zero_le _⟩) hP hD hS hA [0] [1, 2, 3, 4, 5, 6, 7, 8, 9, 10, 11, 12, 13, 14, 15, 16, 17, 18, 19, 20, 21, 22, 23, 24, 25, 26, 27, 28, 29] rfl rfl (by decide) (by decide) [29, 0, 1, 2, 3, 4, 5, 6, 7, 8, 9, 10, 11, 12, 13, 14, 15, 16, 17, 18, 19, 20, 21, 22, 23, 24, 25, 26, 27, 28] (by decide) rfl rfl (fun H locs hP hD hS => ?_)
        cases hok
        subst hQe; exact W.iret hx hb hr (fun t ht hW => ⟨⟨_, (), rfl, rfl, by rw [ht]; exact hP, va_K.moved hW.alike hK, hD⟩, hS.F ht⟩) hS.2.2 dX8_night_119
      · have hok := k_neg c76 hok
        refine lv_aload_n hx hb dX8_night_79 rfl (lv_at hl 0 rfl) ?_
        refine va_get (D := D) (ci := 7) (v := .ref (qN 1)) (C := RX8) (T := TX8) (N := 9) hx hb ht0 niX8 hown hK hP 0 rfl rfl 1 (by decide) (ht0 _ wd527) (fun _ h9 => h9) rfl dX8_night_80 ?_
        refine lv_iload_n hx hb dX8_night_83 rfl (lv_at hl 1 rfl) ?_
        refine lv_aload_n hx hb dX8_night_84 rfl (lv_at hl 0 rfl) ?_
        refine va_get (D := D) (ci := 7) (v := .ref (qN 2)) (C := RX8) (T := TX8) (N := 9) hx hb ht0 niX8 hown hK hP 0 rfl rfl 2 (by decide) (ht0 _ wd578) (fun _ h9 => h9) rfl dX8_night_85 ?_
        refine lv_iload_n hx hb dX8_night_88 rfl (lv_at hl 1 rfl) ?_
        obtain ⟨r89, hc89, hok⟩ := k_bind hok
        refine kCi (wc := (wX6_cellOf cy (qN 2) qW aH vW_68 vW_cells_68)) (wc2 := (wX6_cellOf cy (qN 2) qW aH vW_68 vW_cells_68)) (wr := [(aN, oX8 vN qN aH), (aH, oX4 vH qH), (qN 1, oX1 vD_68 qD), (qD 0, rI cy 9 vD_now_68), (qD 1, rR cy 16 (fun j => some (pD_past j))), (pD_past 0, rI cy 9 (vD_past_68 0)), (pD_past 1, rI cy 9 (vD_past_68 1)), (pD_past 2, rI cy 9 (vD_past_68 2)), (pD_past 3, rI cy 9 (vD_past_68 3)), (pD_past 4, rI cy 9 (vD_past_68 4)), (pD_past 5, rI cy 9 (vD_past_68 5)), (pD_past 6, rI cy 9 (vD_past_68 6)), (pD_past 7, rI cy 9 (vD_past_68 7)), (pD_past 8, rI cy 9 (vD_past_68 8)), (pD_past 9, rI cy 9 (vD_past_68 9)), (pD_past 10, rI cy 9 (vD_past_68 10)), (pD_past 11, rI cy 9 (vD_past_68 11)), (pD_past 12, rI cy 9 (vD_past_68 12)), (pD_past 13, rI cy 9 (vD_past_68 13)), (pD_past 14, rI cy 9 (vD_past_68 14)), (pD_past 15, rI cy 9 (vD_past_68 15)), (qW 1, rI cy 36 vW_who_68), (qH 14, rI cy 7 vH_kinds), (qH 8, rI cy 4 vH_sorts), (qH 10, rI cy 36 vH_next), (qW 2, rI cy 7 vW_inFront_68), (qH 15, rI cy 7 vH_sizes), (qH 11, rI cy 36 vH_width)]) (ws2 := (wX8_night cy aN qN aH qH qD pD_past qW aH vN vH vD_68 vD_now_68 vD_past_68 vW_68 vW_who_68 vH_kinds vW_cells_68 vH_sorts vH_next vW_inFront_68 vH_sizes vH_width)) (kRunV (As := [.int y1_68]) (rest := [.int y1_68, .ref (qN 1)]) ⟨hx, hb, hml, hown, ht0⟩ (kX6_cellOf l D cy _ (qN 2) qW aH vW_68 vW_cells_68 y1_68 r89 hc89 _ rfl) (cwV 1 ht0 (gV wd594 wd163 wd164 wd114 wd165) rfl rfl rfl (by decide +kernel) ⟨Nat.le_of_ble_eq_true rfl, Nat.le_of_ble_eq_true rfl⟩) hK hN hP hD [21, 24] rfl (by decide) 21 5 rfl rfl rfl hl.1 rfl (Nat.le_of_ble_eq_true rfl) dX8_night_89 ⟨Nat.zero_le _, Nat.zero_le _⟩) hP hD hS hA [21, 24] [0, 1, 2, 3, 4, 5, 6, 7, 8, 9, 10, 11, 12, 13, 14, 15, 16, 17, 18, 19, 20, 22, 23, 25, 26, 27, 28, 29] rfl rfl (by decide) (by decide) [0, 1, 2, 3, 4, 5, 6, 7, 8, 9, 10, 11, 12, 13, 14, 15, 16, 17, 18, 19, 20, 28, 21, 22, 29, 23, 24, 25, 26, 27] (by decide) rfl rfl (fun H locs hP hD hS => ?_)
        obtain ⟨vD_now_92, hc92, hok⟩ := k_bind hok
        refine kCv (wc := (wX1_move cy (qN 1) qD vD_68 vD_now_68)) (wc2 := (wX1_move cy (qN 1) qD vD_68 vD_now_92)) (wr := [(aN, oX8 vN qN aH), (aH, oX4 vH qH), (qD 1, rR cy 16 (fun j => some (pD_past j))), (pD_past 0, rI cy 9 (vD_past_68 0)), (pD_past 1, rI cy 9 (vD_past_68 1)), (pD_past 2, rI cy 9 (vD_past_68 2)), (pD_past 3, rI cy 9 (vD_past_68 3)), (pD_past 4, rI cy 9 (vD_past_68 4)), (pD_past 5, rI cy 9 (vD_past_68 5)), (pD_past 6, rI cy 9 (vD_past_68 6)), (pD_past 7, rI cy 9 (vD_past_68 7)), (pD_past 8, rI cy 9 (vD_past_68 8)), (pD_past 9, rI cy 9 (vD_past_68 9)), (pD_past 10, rI cy 9 (vD_past_68 10)), (pD_past 11, rI cy 9 (vD_past_68 11)), (pD_past 12, rI cy 9 (vD_past_68 12)), (pD_past 13, rI cy 9 (vD_past_68 13)), (pD_past 14, rI cy 9 (vD_past_68 14)), (pD_past 15, rI cy 9 (vD_past_68 15)), (qN 2, oX6 vW_68 qW aH), (qW 1, rI cy 36 vW_who_68), (qH 14, rI cy 7 vH_kinds), (qW 0, rI cy 7 vW_cells_68), (qH 8, rI cy 4 vH_sorts), (qH 10, rI cy 36 vH_next), (qW 2, rI cy 7 vW_inFront_68), (qH 15, rI cy 7 vH_sizes), (qH 11, rI cy 36 vH_width)]) (ws2 := (wX8_night cy aN qN aH qH qD pD_past qW aH vN vH vD_68 vD_now_92 vD_past_68 vW_68 vW_who_68 vH_kinds vW_cells_68 vH_sorts vH_next vW_inFront_68 vH_sizes vH_width)) (kRunV (As := [.int y1_68, .int r89]) (rest := []) ⟨hx, hb, hml, hown, ht0⟩ (kX1_move l D cy _ (qN 1) qD vD_68 vD_now_68 y1_68 r89 vD_now_92 hc92 _ rfl) (cwV 2 ht0 (gV wd696 wd697 wd698 wd74 wd699) rfl rfl rfl (by decide +kernel) ⟨Nat.le_of_ble_eq_true rfl, Nat.le_of_ble_eq_true rfl⟩) hK hN hP hD [2, 3] rfl (by decide) 2 1 rfl rfl rfl hl.1 rfl (Nat.le_of_ble_eq_true rfl) dX8_night_92 ⟨Nat.zero_le _, Nat.zero_le _⟩) hP hD hS hA [2, 3] [0, 1, 4, 5, 6, 7, 8, 9, 10, 11, 12, 13, 14, 15, 16, 17, 18, 19, 20, 21, 22, 23, 24, 25, 26, 27, 28, 29] rfl rfl (by decide) (by decide) [0, 1, 28, 29, 2, 3, 4, 5, 6, 7, 8, 9, 10, 11, 12, 13, 14, 15, 16, 17, 18, 19, 20, 21, 22, 23, 24, 25, 26, 27] (by decide) rfl rfl (fun H locs hP hD hS => ?_)
        refine lv_iinc (v := (y1_68 + 1)) (lv' := [(1, .int (y1_68 + 1)), (0, .ref aN)]) hx hb dX8_night_95 hl (k := 1) rfl (by first | rfl | decide) (by decide) rfl (fun ls hl => ?_)
        refine lv_goto (tgt := 68) hx hb dX8_night_98 (by decide) ?_
        exact ih68 (y1_68 + 1) vD_now_92 vD_past_68 vW_cells_68 vW_inFront_68 vW_who_68 vD_68 vW_68 H locs ls hP hD hS (lv_sub hl [1, 0] rfl) (hR68 _ (Option.some.inj hok).symm)
  unfold fX8_night at hok
  obtain ⟨H, hH⟩ : ∃ H, H = s.heap := ⟨_, rfl⟩
  obtain ⟨locs, hlc⟩ : ∃ x : List Loc, x = [] := ⟨_, rfl⟩
  have hP : va_P D vwCl (wX8_night cy aN qN aH qH qD pD_past qW aH0 vN vH vD vD_now vD_past vW vW_who vH_kinds vW_cells vH_sorts vH_next vW_inFront vH_sizes vH_width) H := by rw [hH]; exact hP
  have hS : va_S A s.heap H locs := by rw [hH, hlc]; exact hS
  rw [show W p l e _ s m _ below meth c s.heap [] = W p l e _ s m _ below meth c H locs from by rw [hH, hlc]]
  refine lv_aload_n hx hb dX8_night_0 rfl (lv_at hl 0 rfl) ?_
  refine va_get (D := D) (ci := 7) (v := .ref aH) (C := RX8) (T := TX8) (N := 9) hx hb ht0 niX8 hown hK hP 0 rfl rfl 5 (by decide) (ht0 _ wd522) (fun _ h9 => h9) rfl dX8_night_1 ?_
  obtain ⟨r4, hc4, hok⟩ := k_bind hok
  refine kCi (wc := (wX4_stands cy aH qH vH)) (wc2 := (wX4_stands cy aH qH vH)) (wr := [(aN, oX8 vN qN aH), (qN 1, oX1 vD qD), (qD 0, rI cy 9 vD_now), (qD 1, rR cy 16 (fun j => some (pD_past j))), (pD_past 0, rI cy 9 (vD_past 0)), (pD_past 1, rI cy 9 (vD_past 1)), (pD_past 2, rI cy 9 (vD_past 2)), (pD_past 3, rI cy 9 (vD_past 3)), (pD_past 4, rI cy 9 (vD_past 4)), (pD_past 5, rI cy 9 (vD_past 5)), (pD_past 6, rI cy 9 (vD_past 6)), (pD_past 7, rI cy 9 (vD_past 7)), (pD_past 8, rI cy 9 (vD_past 8)), (pD_past 9, rI cy 9 (vD_past 9)), (pD_past 10, rI cy 9 (vD_past 10)), (pD_past 11, rI cy 9 (vD_past 11)), (pD_past 12, rI cy 9 (vD_past 12)), (pD_past 13, rI cy 9 (vD_past 13)), (pD_past 14, rI cy 9 (vD_past 14)), (pD_past 15, rI cy 9 (vD_past 15)), (qN 2, oX6 vW qW aH0), (qW 1, rI cy 36 vW_who), (qH 14, rI cy 7 vH_kinds), (qW 0, rI cy 7 vW_cells), (qH 8, rI cy 4 vH_sorts), (qH 10, rI cy 36 vH_next), (qW 2, rI cy 7 vW_inFront), (qH 15, rI cy 7 vH_sizes), (qH 11, rI cy 36 vH_width)]) (ws2 := (wX8_night cy aN qN aH qH qD pD_past qW aH0 vN vH vD vD_now vD_past vW vW_who vH_kinds vW_cells vH_sorts vH_next vW_inFront vH_sizes vH_width)) (kRunV (As := []) (rest := []) ⟨hx, hb, hml, hown, ht0⟩ (kX4_stands l D cy _ aH qH vH r4 hc4 _ rfl) (cwV 0 ht0 (gV wd577 wd462 wd463 wd9 wd464) rfl rfl rfl (by decide +kernel) ⟨Nat.le_of_ble_eq_true rfl, Nat.le_of_ble_eq_true rfl⟩) hK hN hP hD [1] rfl (by decide) 1 3 rfl rfl rfl hl.1 rfl (Nat.le_of_ble_eq_true rfl) dX8_night_4 ⟨Nat.zero_le _, Nat.zero_le _⟩) hP hD hS hA [1] [0, 2, 3, 4, 5, 6, 7, 8, 9, 10, 11, 12, 13, 14, 15, 16, 17, 18, 19, 20, 21, 22, 23, 24, 25, 26, 27, 28, 29] rfl rfl (by decide) (by decide) [0, 29, 1, 2, 3, 4, 5, 6, 7, 8, 9, 10, 11, 12, 13, 14, 15, 16, 17, 18, 19, 20, 21, 22, 23, 24, 25, 26, 27, 28] (by decide) rfl rfl (fun H locs hP hD hS => ?_)
  refine lv_if_ne (tgt := 16) hx hb dX8_night_7 (by decide) (fun c7 => ?_) (fun c7 => ?_)
  · have hok := k_neg c7 hok
    refine lv_aload_n hx hb dX8_night_16 rfl (lv_at hl 0 rfl) ?_
    refine va_get (D := D) (ci := 7) (v := .ref (qN 1)) (C := RX8) (T := TX8) (N := 9) hx hb ht0 niX8 hown hK hP 0 rfl rfl 1 (by decide) (ht0 _ wd527) (fun _ h9 => h9) rfl dX8_night_17 ?_
    obtain ⟨r20, hc20, hok⟩ := k_bind hok
    refine kCi (wc := (wX1_nightNow cy (qN 1) qD vD vD_now)) (wc2 := (wX1_nightNow cy (qN 1) qD vD vD_now)) (wr := [(aN, oX8 vN qN aH), (aH, oX4 vH qH), (qD 1, rR cy 16 (fun j => some (pD_past j))), (pD_past 0, rI cy 9 (vD_past 0)), (pD_past 1, rI cy 9 (vD_past 1)), (pD_past 2, rI cy 9 (vD_past 2)), (pD_past 3, rI cy 9 (vD_past 3)), (pD_past 4, rI cy 9 (vD_past 4)), (pD_past 5, rI cy 9 (vD_past 5)), (pD_past 6, rI cy 9 (vD_past 6)), (pD_past 7, rI cy 9 (vD_past 7)), (pD_past 8, rI cy 9 (vD_past 8)), (pD_past 9, rI cy 9 (vD_past 9)), (pD_past 10, rI cy 9 (vD_past 10)), (pD_past 11, rI cy 9 (vD_past 11)), (pD_past 12, rI cy 9 (vD_past 12)), (pD_past 13, rI cy 9 (vD_past 13)), (pD_past 14, rI cy 9 (vD_past 14)), (pD_past 15, rI cy 9 (vD_past 15)), (qN 2, oX6 vW qW aH0), (qW 1, rI cy 36 vW_who), (qH 14, rI cy 7 vH_kinds), (qW 0, rI cy 7 vW_cells), (qH 8, rI cy 4 vH_sorts), (qH 10, rI cy 36 vH_next), (qW 2, rI cy 7 vW_inFront), (qH 15, rI cy 7 vH_sizes), (qH 11, rI cy 36 vH_width)]) (ws2 := (wX8_night cy aN qN aH qH qD pD_past qW aH0 vN vH vD vD_now vD_past vW vW_who vH_kinds vW_cells vH_sorts vH_next vW_inFront vH_sizes vH_width)) (kRunV (As := []) (rest := []) ⟨hx, hb, hml, hown, ht0⟩ (kX1_nightNow l D cy _ (qN 1) qD vD vD_now r20 hc20 _ rfl) (cwV 0 ht0 (gV wd704 wd117 wd118 wd74 wd119) rfl rfl rfl (by decide +kernel) ⟨Nat.le_of_ble_eq_true rfl, Nat.le_of_ble_eq_true rfl⟩) hK hN hP hD [2, 3] rfl (by decide) 2 1 rfl rfl rfl hl.1 rfl (Nat.le_of_ble_eq_true rfl) dX8_night_20 ⟨Nat.zero_le _, Nat.zero_le _⟩) hP hD hS hA [2, 3] [0, 1, 4, 5, 6, 7, 8, 9, 10, 11, 12, 13, 14, 15, 16, 17, 18, 19, 20, 21, 22, 23, 24, 25, 26, 27, 28, 29] rfl rfl (by decide) (by decide) [0, 1, 28, 29, 2, 3, 4, 5, 6, 7, 8, 9, 10, 11, 12, 13, 14, 15, 16, 17, 18, 19, 20, 21, 22, 23, 24, 25, 26, 27] (by decide) rfl rfl (fun H locs hP hD hS => ?_)
    refine lv_sipush (v := 999) hx hb dX8_night_23 (by decide) ?_
    refine lv_icmp_lt (tgt := 35) hx hb dX8_night_26 (by decide) (fun c26 => ?_) (fun c26 => ?_)
    · have hok := k_pos c26 hok
      refine lv_aload_n hx hb dX8_night_35 rfl (lv_at hl 0 rfl) ?_
      refine va_get (D := D) (ci := 7) (v := .ref (qN 1)) (C := RX8) (T := TX8) (N := 9) hx hb ht0 niX8 hown hK hP 0 rfl rfl 1 (by decide) (ht0 _ wd527) (fun _ h9 => h9) rfl dX8_night_36 ?_
      obtain ⟨⟨vD_39, vD_past_39⟩, hc39, hok⟩ := k_bind hok
      try dsimp only at hok
      refine kCv (wc := (wX1_keep cy (qN 1) qD pD_past vD vD_past vD_now)) (wc2 := (wX1_keep cy (qN 1) qD pD_past vD_39 vD_past_39 vD_now)) (wr := [(aN, oX8 vN qN aH), (aH, oX4 vH qH), (qN 2, oX6 vW qW aH0), (qW 1, rI cy 36 vW_who), (qH 14, rI cy 7 vH_kinds), (qW 0, rI cy 7 vW_cells), (qH 8, rI cy 4 vH_sorts), (qH 10, rI cy 36 vH_next), (qW 2, rI cy 7 vW_inFront), (qH 15, rI cy 7 vH_sizes), (qH 11, rI cy 36 vH_width)]) (ws2 := (wX8_night cy aN qN aH qH qD pD_past qW aH0 vN vH vD_39 vD_now vD_past_39 vW vW_who vH_kinds vW_cells vH_sorts vH_next vW_inFront vH_sizes vH_width)) (kRunV (As := []) (rest := []) ⟨hx, hb, hml, hown, ht0⟩ (kX1_keep l D cy _ (qN 1) qD pD_past vD vD_past vD_now vD_39 vD_past_39 hc39 _ rfl) (cwV 0 ht0 (gV wd684 wd685 wd686 wd74 wd687) rfl rfl rfl (by decide +kernel) ⟨Nat.le_of_ble_eq_true rfl, Nat.le_of_ble_eq_true rfl⟩) hK hN hP hD [2, 4, 5, 6, 7, 8, 9, 10, 11, 12, 13, 14, 15, 16, 17, 18, 19, 20, 3] rfl (by decide) 2 1 rfl rfl rfl hl.1 rfl (Nat.le_of_ble_eq_true rfl) dX8_night_39 ⟨Nat.zero_le _, Nat.zero_le _⟩) hP hD hS hA [2, 4, 5, 6, 7, 8, 9, 10, 11, 12, 13, 14, 15, 16, 17, 18, 19, 20, 3] [0, 1, 21, 22, 23, 24, 25, 26, 27, 28, 29] rfl rfl (by decide) (by decide) [0, 1, 11, 29, 12, 13, 14, 15, 16, 17, 18, 19, 20, 21, 22, 23, 24, 25, 26, 27, 28, 2, 3, 4, 5, 6, 7, 8, 9, 10] (by decide) rfl rfl (fun H locs hP hD hS => ?_)
      refine lv_aload_n hx hb dX8_night_42 rfl (lv_at hl 0 rfl) ?_
      refine va_get (D := D) (ci := 7) (v := .ref (qN 2)) (C := RX8) (T := TX8) (N := 9) hx hb ht0 niX8 hown hK hP 0 rfl rfl 2 (by decide) (ht0 _ wd578) (fun _ h9 => h9) rfl dX8_night_43 ?_
      refine lv_aload_n hx hb dX8_night_46 rfl (lv_at hl 0 rfl) ?_
      refine va_get (D := D) (ci := 7) (v := .ref aH) (C := RX8) (T := TX8) (N := 9) hx hb ht0 niX8 hown hK hP 0 rfl rfl 5 (by decide) (ht0 _ wd522) (fun _ h9 => h9) rfl dX8_night_47 ?_
      refine lv_aload_n hx hb dX8_night_50 rfl (lv_at hl 0 rfl) ?_
      refine va_get (D := D) (ci := 7) (v := .ref (qN 1)) (C := RX8) (T := TX8) (N := 9) hx hb ht0 niX8 hown hK hP 0 rfl rfl 1 (by decide) (ht0 _ wd527) (fun _ h9 => h9) rfl dX8_night_51 ?_
      refine lv_iconst (v := 0) hx hb dX8_night_54 (by decide) ?_
      obtain ⟨⟨vW_55, vW_who_55, vW_cells_55⟩, hc55, hok⟩ := k_bind hok
      try dsimp only at hok
      refine kCv (wc := (wX6_start cy (qN 2) aH (qN 1) qW aH0 qD qH vW vD_39 vD_now vW_who vH vH_kinds vW_cells vH_sorts)) (wc2 := (wX6_start cy (qN 2) aH (qN 1) qW aH qD qH vW_55 vD_39 vD_now vW_who_55 vH vH_kinds vW_cells_55 vH_sorts)) (wr := [(aN, oX8 vN qN aH), (qD 1, rR cy 16 (fun j => some (pD_past j))), (pD_past 0, rI cy 9 (vD_past_39 0)), (pD_past 1, rI cy 9 (vD_past_39 1)), (pD_past 2, rI cy 9 (vD_past_39 2)), (pD_past 3, rI cy 9 (vD_past_39 3)), (pD_past 4, rI cy 9 (vD_past_39 4)), (pD_past 5, rI cy 9 (vD_past_39 5)), (pD_past 6, rI cy 9 (vD_past_39 6)), (pD_past 7, rI cy 9 (vD_past_39 7)), (pD_past 8, rI cy 9 (vD_past_39 8)), (pD_past 9, rI cy 9 (vD_past_39 9)), (pD_past 10, rI cy 9 (vD_past_39 10)), (pD_past 11, rI cy 9 (vD_past_39 11)), (pD_past 12, rI cy 9 (vD_past_39 12)), (pD_past 13, rI cy 9 (vD_past_39 13)), (pD_past 14, rI cy 9 (vD_past_39 14)), (pD_past 15, rI cy 9 (vD_past_39 15)), (qH 10, rI cy 36 vH_next), (qW 2, rI cy 7 vW_inFront), (qH 15, rI cy 7 vH_sizes), (qH 11, rI cy 36 vH_width)]) (ws2 := (wX8_night cy aN qN aH qH qD pD_past qW aH vN vH vD_39 vD_now vD_past_39 vW_55 vW_who_55 vH_kinds vW_cells_55 vH_sorts vH_next vW_inFront vH_sizes vH_width)) (kRunV (As := [.ref aH, .ref (qN 1), .int 0]) (rest := []) ⟨hx, hb, hml, hown, ht0⟩ (kX6_start l D cy _ (qN 2) aH (qN 1) qW aH0 qD qH vW vD_39 vD_now vW_who vH vH_kinds vW_cells vH_sorts (0 : Int32) vW_55 vW_who_55 vW_cells_55 hc55 _ rfl) (cwV 3 ht0 (gV wd579 wd181 wd182 wd114 wd183) rfl rfl rfl (by decide +kernel) ⟨Nat.le_of_ble_eq_true rfl, Nat.le_of_ble_eq_true rfl⟩) hK hN hP hD [21, 2, 3, 22, 1, 23, 24, 25] rfl (by decide) 21 5 rfl rfl rfl hl.1 rfl (Nat.le_of_ble_eq_true rfl) dX8_night_55 ⟨Nat.zero_le _, Nat.zero_le _⟩) hP hD hS hA [21, 2, 3, 22, 1, 23, 24, 25] [0, 4, 5, 6, 7, 8, 9, 10, 11, 12, 13, 14, 15, 16, 17, 18, 19, 20, 26, 27, 28, 29] rfl rfl (by decide) (by decide) [0, 26, 23, 24, 1, 2, 3, 4, 5, 6, 7, 8, 9, 10, 11, 12, 13, 14, 15, 16, 17, 22, 25, 27, 28, 29, 18, 19, 20, 21] (by decide) rfl rfl (fun H locs hP hD hS => ?_)
      refine lv_aload_n hx hb dX8_night_58 rfl (lv_at hl 0 rfl) ?_
      refine va_get (D := D) (ci := 7) (v := .ref (qN 2)) (C := RX8) (T := TX8) (N := 9) hx hb ht0 niX8 hown hK hP 0 rfl rfl 2 (by decide) (ht0 _ wd578) (fun _ h9 => h9) rfl dX8_night_59 ?_
      refine lv_iconst (v := 0) hx hb dX8_night_62 (by decide) ?_
      obtain ⟨⟨vW_63, vW_cells_63, vW_who_63, vW_inFront_63⟩, hc63, hok⟩ := k_bind hok
      try dsimp only at hok
      refine kCv (wc := (wX6_pass cy (qN 2) qW aH qH vW_55 vH vW_cells_55 vH_next vW_who_55 vW_inFront vH_sizes vH_width vH_kinds)) (wc2 := (wX6_pass cy (qN 2) qW aH qH vW_63 vH vW_cells_63 vH_next vW_who_63 vW_inFront_63 vH_sizes vH_width vH_kinds)) (wr := [(aN, oX8 vN qN aH), (qN 1, oX1 vD_39 qD), (qD 0, rI cy 9 vD_now), (qD 1, rR cy 16 (fun j => some (pD_past j))), (pD_past 0, rI cy 9 (vD_past_39 0)), (pD_past 1, rI cy 9 (vD_past_39 1)), (pD_past 2, rI cy 9 (vD_past_39 2)), (pD_past 3, rI cy 9 (vD_past_39 3)), (pD_past 4, rI cy 9 (vD_past_39 4)), (pD_past 5, rI cy 9 (vD_past_39 5)), (pD_past 6, rI cy 9 (vD_past_39 6)), (pD_past 7, rI cy 9 (vD_past_39 7)), (pD_past 8, rI cy 9 (vD_past_39 8)), (pD_past 9, rI cy 9 (vD_past_39 9)), (pD_past 10, rI cy 9 (vD_past_39 10)), (pD_past 11, rI cy 9 (vD_past_39 11)), (pD_past 12, rI cy 9 (vD_past_39 12)), (pD_past 13, rI cy 9 (vD_past_39 13)), (pD_past 14, rI cy 9 (vD_past_39 14)), (pD_past 15, rI cy 9 (vD_past_39 15)), (qH 8, rI cy 4 vH_sorts)]) (ws2 := (wX8_night cy aN qN aH qH qD pD_past qW aH vN vH vD_39 vD_now vD_past_39 vW_63 vW_who_63 vH_kinds vW_cells_63 vH_sorts vH_next vW_inFront_63 vH_sizes vH_width)) (kRunV (As := [.int 0]) (rest := []) ⟨hx, hb, hml, hown, ht0⟩ (kX6_pass l D cy _ (qN 2) qW aH qH vW_55 vH vW_cells_55 vH_next vW_who_55 vW_inFront vH_sizes vH_width vH_kinds (0 : Int32) vW_63 vW_cells_63 vW_who_63 vW_inFront_63 hc63 _ rfl) (cwV 1 ht0 (gV wd598 wd155 wd156 wd114 wd157) rfl rfl rfl (by decide +kernel) ⟨Nat.le_of_ble_eq_true rfl, Nat.le_of_ble_eq_true rfl⟩) hK hN hP hD [21, 1, 24, 26, 22, 27, 28, 29, 23] rfl (by decide) 21 5 rfl rfl rfl hl.1 rfl (Nat.le_of_ble_eq_true rfl) dX8_night_63 ⟨Nat.zero_le _, Nat.zero_le _⟩) hP hD hS hA [21, 1, 24, 26, 22, 27, 28, 29, 23] [0, 2, 3, 4, 5, 6, 7, 8, 9, 10, 11, 12, 13, 14, 15, 16, 17, 18, 19, 20, 25] rfl rfl (by decide) (by decide) [0, 22, 1, 2, 3, 4, 5, 6, 7, 8, 9, 10, 11, 12, 13, 14, 15, 16, 17, 18, 19, 21, 25, 29, 23, 20, 24, 26, 27, 28] (by decide) rfl rfl (fun H locs hP hD hS => ?_)
      refine lv_iconst (v := 0) hx hb dX8_night_66 (by decide) ?_
      refine lv_istore_n (lv' := [(1, .int 0), (0, .ref aN)]) hx hb dX8_night_67 rfl hl (by decide) rfl (fun ls hl => ?_)
      exact L68 5000 (0 : Int32) vD_now vD_past_39 vW_cells_63 vW_inFront_63 vW_who_63 vD_39 vW_63 H locs ls hP hD hS (lv_sub hl [1, 0] rfl) hok
    · have hok := k_neg c26 hok
      refine lv_aload_n hx hb dX8_night_29 rfl (lv_at hl 0 rfl) ?_
      refine lv_iconst (v := 3) hx hb dX8_night_30 (by decide) ?_
      obtain ⟨⟨r31, vN_31⟩, hc31, hok⟩ := k_bind hok
      try dsimp only at hok
      refine kCi (wc := (wX8_refuse cy aN qN aH vN)) (wc2 := (wX8_refuse cy aN qN aH vN_31)) (wr := [(aH, oX4 vH qH), (qN 1, oX1 vD qD), (qD 0, rI cy 9 vD_now), (qD 1, rR cy 16 (fun j => some (pD_past j))), (pD_past 0, rI cy 9 (vD_past 0)), (pD_past 1, rI cy 9 (vD_past 1)), (pD_past 2, rI cy 9 (vD_past 2)), (pD_past 3, rI cy 9 (vD_past 3)), (pD_past 4, rI cy 9 (vD_past 4)), (pD_past 5, rI cy 9 (vD_past 5)), (pD_past 6, rI cy 9 (vD_past 6)), (pD_past 7, rI cy 9 (vD_past 7)), (pD_past 8, rI cy 9 (vD_past 8)), (pD_past 9, rI cy 9 (vD_past 9)), (pD_past 10, rI cy 9 (vD_past 10)), (pD_past 11, rI cy 9 (vD_past 11)), (pD_past 12, rI cy 9 (vD_past 12)), (pD_past 13, rI cy 9 (vD_past 13)), (pD_past 14, rI cy 9 (vD_past 14)), (pD_past 15, rI cy 9 (vD_past 15)), (qN 2, oX6 vW qW aH0), (qW 1, rI cy 36 vW_who), (qH 14, rI cy 7 vH_kinds), (qW 0, rI cy 7 vW_cells), (qH 8, rI cy 4 vH_sorts), (qH 10, rI cy 36 vH_next), (qW 2, rI cy 7 vW_inFront), (qH 15, rI cy 7 vH_sizes), (qH 11, rI cy 36 vH_width)]) (ws2 := (wX8_night cy aN qN aH qH qD pD_past qW aH0 vN_31 vH vD vD_now vD_past vW vW_who vH_kinds vW_cells vH_sorts vH_next vW_inFront vH_sizes vH_width)) (kRunV (As := [.int 3]) (rest := []) ⟨hx, hb, hml, hown, ht0⟩ (kX8_refuse l D cy _ aN qN aH vN (3 : Int32) r31 vN_31 hc31 _ rfl) (cwV 1 ht0 (gV wd504 wd505 wd506 wd57 wd507) rfl rfl rfl (by decide +kernel) ⟨Nat.le_of_ble_eq_true rfl, Nat.le_of_ble_eq_true rfl⟩) hK hN hP hD [0] rfl (by decide) 0 7 rfl rfl rfl hl.1 rfl (Nat.le_of_ble_eq_true rfl) dX8_night_31 ⟨Nat.zero_le _, Nat.zero_le _⟩) hP hD hS hA [0] [1, 2, 3, 4, 5, 6, 7, 8, 9, 10, 11, 12, 13, 14, 15, 16, 17, 18, 19, 20, 21, 22, 23, 24, 25, 26, 27, 28, 29] rfl rfl (by decide) (by decide) [29, 0, 1, 2, 3, 4, 5, 6, 7, 8, 9, 10, 11, 12, 13, 14, 15, 16, 17, 18, 19, 20, 21, 22, 23, 24, 25, 26, 27, 28] (by decide) rfl rfl (fun H locs hP hD hS => ?_)
      cases hok
      subst hQe; exact W.iret hx hb hr (fun t ht hW => ⟨⟨_, (), rfl, rfl, by rw [ht]; exact hP, va_K.moved hW.alike hK, hD⟩, hS.F ht⟩) hS.2.2 dX8_night_34
  · have hok := k_pos c7 hok
    refine lv_aload_n hx hb dX8_night_10 rfl (lv_at hl 0 rfl) ?_
    refine lv_iconst (v := 1) hx hb dX8_night_11 (by decide) ?_
    obtain ⟨⟨r12, vN_12⟩, hc12, hok⟩ := k_bind hok
    try dsimp only at hok
    refine kCi (wc := (wX8_refuse cy aN qN aH vN)) (wc2 := (wX8_refuse cy aN qN aH vN_12)) (wr := [(aH, oX4 vH qH), (qN 1, oX1 vD qD), (qD 0, rI cy 9 vD_now), (qD 1, rR cy 16 (fun j => some (pD_past j))), (pD_past 0, rI cy 9 (vD_past 0)), (pD_past 1, rI cy 9 (vD_past 1)), (pD_past 2, rI cy 9 (vD_past 2)), (pD_past 3, rI cy 9 (vD_past 3)), (pD_past 4, rI cy 9 (vD_past 4)), (pD_past 5, rI cy 9 (vD_past 5)), (pD_past 6, rI cy 9 (vD_past 6)), (pD_past 7, rI cy 9 (vD_past 7)), (pD_past 8, rI cy 9 (vD_past 8)), (pD_past 9, rI cy 9 (vD_past 9)), (pD_past 10, rI cy 9 (vD_past 10)), (pD_past 11, rI cy 9 (vD_past 11)), (pD_past 12, rI cy 9 (vD_past 12)), (pD_past 13, rI cy 9 (vD_past 13)), (pD_past 14, rI cy 9 (vD_past 14)), (pD_past 15, rI cy 9 (vD_past 15)), (qN 2, oX6 vW qW aH0), (qW 1, rI cy 36 vW_who), (qH 14, rI cy 7 vH_kinds), (qW 0, rI cy 7 vW_cells), (qH 8, rI cy 4 vH_sorts), (qH 10, rI cy 36 vH_next), (qW 2, rI cy 7 vW_inFront), (qH 15, rI cy 7 vH_sizes), (qH 11, rI cy 36 vH_width)]) (ws2 := (wX8_night cy aN qN aH qH qD pD_past qW aH0 vN_12 vH vD vD_now vD_past vW vW_who vH_kinds vW_cells vH_sorts vH_next vW_inFront vH_sizes vH_width)) (kRunV (As := [.int 1]) (rest := []) ⟨hx, hb, hml, hown, ht0⟩ (kX8_refuse l D cy _ aN qN aH vN (1 : Int32) r12 vN_12 hc12 _ rfl) (cwV 1 ht0 (gV wd504 wd505 wd506 wd57 wd507) rfl rfl rfl (by decide +kernel) ⟨Nat.le_of_ble_eq_true rfl, Nat.le_of_ble_eq_true rfl⟩) hK hN hP hD [0] rfl (by decide) 0 7 rfl rfl rfl hl.1 rfl (Nat.le_of_ble_eq_true rfl) dX8_night_12 ⟨Nat.zero_le _, Nat.zero_le _⟩) hP hD hS hA [0] [1, 2, 3, 4, 5, 6, 7, 8, 9, 10, 11, 12, 13, 14, 15, 16, 17, 18, 19, 20, 21, 22, 23, 24, 25, 26, 27, 28, 29] rfl rfl (by decide) (by decide) [29, 0, 1, 2, 3, 4, 5, 6, 7, 8, 9, 10, 11, 12, 13, 14, 15, 16, 17, 18, 19, 20, 21, 22, 23, 24, 25, 26, 27, 28] (by decide) rfl rfl (fun H locs hP hD hS => ?_)
    cases hok
    subst hQe; exact W.iret hx hb hr (fun t ht hW => ⟨⟨_, (), rfl, rfl, by rw [ht]; exact hP, va_K.moved hW.alike hK, hD⟩, hS.F ht⟩) hS.2.2 dX8_night_15
def wsX8_undo : List Cond := .code yX8_undo cX8_undo 1 (some .boolean) :: W0
abbrev wX8_undo (cy : Nat → ClassId) (aN : Nat) (qN : Nat → Nat) (aH : Nat) (qD : Nat → Nat) (pD_past : Nat → Nat) (vN : Nat → Int32) (vD : Nat → Int32) (vD_past : Nat → Nat → Int32) (vD_now : Nat → Int32) : va_W := [(aN, oX8 vN qN aH), (qN 1, oX1 vD qD), (qD 1, rR cy 16 (fun j => some (pD_past j))), (pD_past 0, rI cy 9 (vD_past 0)), (pD_past 1, rI cy 9 (vD_past 1)), (pD_past 2, rI cy 9 (vD_past 2)), (pD_past 3, rI cy 9 (vD_past 3)), (pD_past 4, rI cy 9 (vD_past 4)), (pD_past 5, rI cy 9 (vD_past 5)), (pD_past 6, rI cy 9 (vD_past 6)), (pD_past 7, rI cy 9 (vD_past 7)), (pD_past 8, rI cy 9 (vD_past 8)), (pD_past 9, rI cy 9 (vD_past 9)), (pD_past 10, rI cy 9 (vD_past 10)), (pD_past 11, rI cy 9 (vD_past 11)), (pD_past 12, rI cy 9 (vD_past 12)), (pD_past 13, rI cy 9 (vD_past 13)), (pD_past 14, rI cy 9 (vD_past 14)), (pD_past 15, rI cy 9 (vD_past 15)), (qD 0, rI cy 9 vD_now)]
set_option maxHeartbeats 4000000 in
set_option maxRecDepth 100000 in
theorem kX8_undo (l : Launch) (D : va_G) (cy : Nat → ClassId) (sz : Nat) (aN : Nat) (qN : Nat → Nat) (aH : Nat) (qD : Nat → Nat) (pD_past : Nat → Nat) (vN : Nat → Int32) (vD : Nat → Int32) (vD_past : Nat → Nat → Int32) (vD_now : Nat → Int32) (zr : Int32) (z_vN : Nat → Int32) (z_vD : Nat → Int32) (z_vD_now : Nat → Int32) (hok : fX8_undo vN vD vD_past vD_now = some (zr, z_vN, z_vD, z_vD_now)) (A : Nat → Prop) (hAe : va_A (wX8_undo cy aN qN aH qD pD_past vN vD vD_past vD_now) sz = A) : Met l yX8_undo wsX8_undo ({ frames := 2, cells := 0, slots := 0, locals := 60 } : Room) (kPre D cy [.ref aN] (wX8_undo cy aN qN aH qD pD_past vN vD vD_past vD_now) sz) (kQi D cy zr A (wX8_undo cy aN qN aH qD pD_past z_vN z_vD vD_past z_vD_now)) 0 0 A := by
  refine Met.ofW (cc := cX8_undo) (maxL := 1) (ret := (some .boolean)) (by decide) rfl ?_
  intro p e s m args below meth c s₁ B hml hv
  obtain ⟨rfl, hsz, hP, hK, hD0, hN⟩ := hv
  have hx := B.exec
  have hb := B.bytes
  have hr := B.returns
  have ht0 : ∀ w ∈ W0, w.before _ s = true := fun w h => atoms_spec (ws := wsX8_undo) B.pre w (List.mem_cons_of_mem _ h)
  have hown : s.vm.findClass RX8 = some m.cls := findClass_of_methodNamed B.named
  have hlocks := B.notSynchronized
  subst hsz
  have hD : va_D A (wX8_undo cy aN qN aH qD pD_past vN vD vD_past vD_now) := by rw [← hAe]; exact hD0.self
  have hA : ∀ q : Nat, s.heap.size ≤ q → A q := fun q h => by rw [← hAe]; exact Or.inr h
  have hS : va_S A s.heap s.heap [] := va_S.rf
  have hl := lv_entry ([.ref aN]) (n := 1) (Nat.le_of_ble_eq_true rfl)
  rw [lg_entry_eq]
  generalize (lg_sl ([.ref aN]) ++ List.replicate (1 - (lg_sl ([.ref aN])).length) Slot.unset).toArray = ls at hl ⊢
  have hl : lv_has ls 1 [(0, .ref aN)] := hl
  generalize hQe : MQ below (kQi D cy zr A (wX8_undo cy aN qN aH qD pD_past z_vN z_vD vD_past z_vD_now)) ([.ref aN] : List Value).toArray s 0 0 A = Q
  have J17 : ∀ (t0_17 : Int32) (vD_now_17 : Nat → Int32) (vD_17 : Nat → Int32), ∀ (H : Heap) (locs : List Loc) (ls : Array Slot), va_P D vwCl (wX8_undo cy aN qN aH qD pD_past vN vD_17 vD_past vD_now_17) H → va_D A (wX8_undo cy aN qN aH qD pD_past vN vD_17 vD_past vD_now_17) → va_S A s.heap H locs → lv_has ls 1 [] → fX8_undo_J17 vN t0_17 vD_now_17 vD_17 = some (zr, z_vN, z_vD, z_vD_now) → W p l e ({ frames := 2, cells := 0, slots := 0, locals := 60 } : Room) s m ([.ref aN] : List Value).toArray below meth c H locs 0 0 Q (F0 m 17 ls [.int t0_17, .ref aN]) := by
    intro t0_17 vD_now_17 vD_17 H locs ls hP hD hS hl hok
    unfold fX8_undo_J17 at hok
    obtain ⟨⟨r17, vN_17⟩, hc17, hok⟩ := k_bind hok
    try dsimp only at hok
    refine kCi (wc := (wX8_isDone cy aN qN aH vN)) (wc2 := (wX8_isDone cy aN qN aH vN_17)) (wr := [(qN 1, oX1 vD_17 qD), (qD 1, rR cy 16 (fun j => some (pD_past j))), (pD_past 0, rI cy 9 (vD_past 0)), (pD_past 1, rI cy 9 (vD_past 1)), (pD_past 2, rI cy 9 (vD_past 2)), (pD_past 3, rI cy 9 (vD_past 3)), (pD_past 4, rI cy 9 (vD_past 4)), (pD_past 5, rI cy 9 (vD_past 5)), (pD_past 6, rI cy 9 (vD_past 6)), (pD_past 7, rI cy 9 (vD_past 7)), (pD_past 8, rI cy 9 (vD_past 8)), (pD_past 9, rI cy 9 (vD_past 9)), (pD_past 10, rI cy 9 (vD_past 10)), (pD_past 11, rI cy 9 (vD_past 11)), (pD_past 12, rI cy 9 (vD_past 12)), (pD_past 13, rI cy 9 (vD_past 13)), (pD_past 14, rI cy 9 (vD_past 14)), (pD_past 15, rI cy 9 (vD_past 15)), (qD 0, rI cy 9 vD_now_17)]) (ws2 := (wX8_undo cy aN qN aH qD pD_past vN_17 vD_17 vD_past vD_now_17)) (kRunV (As := [.int t0_17]) (rest := []) ⟨hx, hb, hml, hown, ht0⟩ (kX8_isDone l D cy _ aN qN aH vN t0_17 r17 vN_17 hc17 _ rfl) (cwV 1 ht0 (gV wd692 wd693 wd694 wd57 wd695) rfl rfl rfl (by decide +kernel) ⟨Nat.le_of_ble_eq_true rfl, Nat.le_of_ble_eq_true rfl⟩) hK hN hP hD [0] rfl (by decide) 0 7 rfl rfl rfl hl.1 rfl (Nat.le_of_ble_eq_true rfl) dX8_undo_17 ⟨Nat.zero_le _, Nat.zero_le _⟩) hP hD hS hA [0] [1, 2, 3, 4, 5, 6, 7, 8, 9, 10, 11, 12, 13, 14, 15, 16, 17, 18, 19] rfl rfl (by decide) (by decide) [19, 0, 1, 2, 3, 4, 5, 6, 7, 8, 9, 10, 11, 12, 13, 14, 15, 16, 17, 18] (by decide) rfl rfl (fun H locs hP hD hS => ?_)
    obtain ⟨g20, hok⟩ := gd_some hok
    cases hok
    subst hQe; exact W.zret hx hb hr (isB_nar g20) (fun t ht hW => ⟨⟨_, (), rfl, rfl, by rw [ht]; exact hP, va_K.moved hW.alike hK, hD⟩, hS.F ht⟩) hS.2.2 dX8_undo_20
  unfold fX8_undo at hok
  obtain ⟨H, hH⟩ : ∃ H, H = s.heap := ⟨_, rfl⟩
  obtain ⟨locs, hlc⟩ : ∃ x : List Loc, x = [] := ⟨_, rfl⟩
  have hP : va_P D vwCl (wX8_undo cy aN qN aH qD pD_past vN vD vD_past vD_now) H := by rw [hH]; exact hP
  have hS : va_S A s.heap H locs := by rw [hH, hlc]; exact hS
  rw [show W p l e _ s m _ below meth c s.heap [] = W p l e _ s m _ below meth c H locs from by rw [hH, hlc]]
  refine lv_aload_n hx hb dX8_undo_0 rfl (lv_at hl 0 rfl) ?_
  refine lv_aload_n hx hb dX8_undo_1 rfl (lv_at hl 0 rfl) ?_
  refine va_get (D := D) (ci := 7) (v := .ref (qN 1)) (C := RX8) (T := TX8) (N := 9) hx hb ht0 niX8 hown hK hP 0 rfl rfl 1 (by decide) (ht0 _ wd527) (fun _ h9 => h9) rfl dX8_undo_2 ?_
  obtain ⟨⟨r5, vD_5, vD_now_5⟩, hc5, hok⟩ := k_bind hok
  try dsimp only at hok
  refine kCi (wc := (wX1_takeBack cy (qN 1) qD pD_past vD vD_past vD_now)) (wc2 := (wX1_takeBack cy (qN 1) qD pD_past vD_5 vD_past vD_now_5)) (wr := [(aN, oX8 vN qN aH)]) (ws2 := (wX8_undo cy aN qN aH qD pD_past vN vD_5 vD_past vD_now_5)) (kRunV (As := []) (rest := [.ref aN]) ⟨hx, hb, hml, hown, ht0⟩ (kX1_takeBack l D cy _ (qN 1) qD pD_past vD vD_past vD_now r5 vD_5 vD_now_5 hc5 _ rfl) (cwV 0 ht0 (gV wd705 wd706 wd707 wd74 wd708) rfl rfl rfl (by decide +kernel) ⟨Nat.le_of_ble_eq_true rfl, Nat.le_of_ble_eq_true rfl⟩) hK hN hP hD [1, 2, 3, 4, 5, 6, 7, 8, 9, 10, 11, 12, 13, 14, 15, 16, 17, 18, 19] rfl (by decide) 1 1 rfl rfl rfl hl.1 rfl (Nat.le_of_ble_eq_true rfl) dX8_undo_5 ⟨Nat.zero_le _, Nat.zero_le _⟩) hP hD hS hA [1, 2, 3, 4, 5, 6, 7, 8, 9, 10, 11, 12, 13, 14, 15, 16, 17, 18, 19] [0] rfl rfl (by decide) (by decide) [0, 1, 2, 3, 4, 5, 6, 7, 8, 9, 10, 11, 12, 13, 14, 15, 16, 17, 18, 19] (by decide) rfl rfl (fun H locs hP hD hS => ?_)
  refine lv_if_eq (tgt := 15) hx hb dX8_undo_8 (by decide) (fun c8 => ?_) (fun c8 => ?_)
  · have hok := k_pos c8 hok
    refine lv_bipush (v := 6) hx hb dX8_undo_15 (by decide) ?_
    exact J17 (6 : Int32) vD_now_5 vD_5 H locs ls hP hD hS (lv_sub hl [] rfl) hok
  · have hok := k_neg c8 hok
    refine lv_iconst (v := 0) hx hb dX8_undo_11 (by decide) ?_
    refine lv_goto (tgt := 17) hx hb dX8_undo_12 (by decide) ?_
    exact J17 (0 : Int32) vD_now_5 vD_5 H locs ls hP hD hS (lv_sub hl [] rfl) hok
def wsX8_image : List Cond := .code yX8_image cX8_image 2 (some .int) :: W0
abbrev wX8_image (cy : Nat → ClassId) (aN : Nat) (qN : Nat → Nat) (aH : Nat) (qH : Nat → Nat) (qD : Nat → Nat) (pD_images : Nat → Nat) (vN : Nat → Int32) (vH : Nat → Int32) (vD : Nat → Int32) (vD_images : Nat → Nat → Int32) (vD_now : Nat → Int32) : va_W := [(aN, oX8 vN qN aH), (aH, oX4 vH qH), (qN 1, oX1 vD qD), (qD 2, rR cy 3 (fun j => some (pD_images j))), (pD_images 0, rI cy 9 (vD_images 0)), (pD_images 1, rI cy 9 (vD_images 1)), (pD_images 2, rI cy 9 (vD_images 2)), (qD 0, rI cy 9 vD_now)]
set_option maxHeartbeats 4000000 in
set_option maxRecDepth 100000 in
theorem kX8_image (l : Launch) (D : va_G) (cy : Nat → ClassId) (sz : Nat) (aN : Nat) (qN : Nat → Nat) (aH : Nat) (qH : Nat → Nat) (qD : Nat → Nat) (pD_images : Nat → Nat) (vN : Nat → Int32) (vH : Nat → Int32) (vD : Nat → Int32) (vD_images : Nat → Nat → Int32) (vD_now : Nat → Int32) (zr : Int32) (z_vN : Nat → Int32) (z_vD : Nat → Int32) (z_vD_images : Nat → Nat → Int32) (hok : fX8_image vN vH vD vD_images vD_now = some (zr, z_vN, z_vD, z_vD_images)) (A : Nat → Prop) (hAe : va_A (wX8_image cy aN qN aH qH qD pD_images vN vH vD vD_images vD_now) sz = A) : Met l yX8_image wsX8_image ({ frames := 2, cells := 0, slots := 0, locals := 60 } : Room) (kPre D cy [.ref aN] (wX8_image cy aN qN aH qH qD pD_images vN vH vD vD_images vD_now) sz) (kQi D cy zr A (wX8_image cy aN qN aH qH qD pD_images z_vN vH z_vD z_vD_images vD_now)) 0 0 A := by
  refine Met.ofW (cc := cX8_image) (maxL := 2) (ret := (some .int)) (by decide) rfl ?_
  intro p e s m args below meth c s₁ B hml hv
  obtain ⟨rfl, hsz, hP, hK, hD0, hN⟩ := hv
  have hx := B.exec
  have hb := B.bytes
  have hr := B.returns
  have ht0 : ∀ w ∈ W0, w.before _ s = true := fun w h => atoms_spec (ws := wsX8_image) B.pre w (List.mem_cons_of_mem _ h)
  have hown : s.vm.findClass RX8 = some m.cls := findClass_of_methodNamed B.named
  have hlocks := B.notSynchronized
  subst hsz
  have hD : va_D A (wX8_image cy aN qN aH qH qD pD_images vN vH vD vD_images vD_now) := by rw [← hAe]; exact hD0.self
  have hA : ∀ q : Nat, s.heap.size ≤ q → A q := fun q h => by rw [← hAe]; exact Or.inr h
  have hS : va_S A s.heap s.heap [] := va_S.rf
  have hl := lv_entry ([.ref aN]) (n := 2) (Nat.le_of_ble_eq_true rfl)
  rw [lg_entry_eq]
  generalize (lg_sl ([.ref aN]) ++ List.replicate (2 - (lg_sl ([.ref aN])).length) Slot.unset).toArray = ls at hl ⊢
  have hl : lv_has ls 2 [(0, .ref aN)] := hl
  generalize hQe : MQ below (kQi D cy zr A (wX8_image cy aN qN aH qH qD pD_images z_vN vH z_vD z_vD_images vD_now)) ([.ref aN] : List Value).toArray s 0 0 A = Q
  have J41 : ∀ (t0_41 : Int32) (vD_images_41 : Nat → Nat → Int32) (vD_41 : Nat → Int32) (vN_41 : Nat → Int32), ∀ (H : Heap) (locs : List Loc) (ls : Array Slot), va_P D vwCl (wX8_image cy aN qN aH qH qD pD_images vN_41 vH vD_41 vD_images_41 vD_now) H → va_D A (wX8_image cy aN qN aH qH qD pD_images vN_41 vH vD_41 vD_images_41 vD_now) → va_S A s.heap H locs → lv_has ls 2 [] → fX8_image_J41 t0_41 vD_images_41 vD_41 vN_41 = some (zr, z_vN, z_vD, z_vD_images) → W p l e ({ frames := 2, cells := 0, slots := 0, locals := 60 } : Room) s m ([.ref aN] : List Value).toArray below meth c H locs 0 0 Q (F0 m 41 ls [.int t0_41]) := by
    intro t0_41 vD_images_41 vD_41 vN_41 H locs ls hP hD hS hl hok
    unfold fX8_image_J41 at hok
    cases hok
    subst hQe; exact W.iret hx hb hr (fun t ht hW => ⟨⟨_, (), rfl, rfl, by rw [ht]; exact hP, va_K.moved hW.alike hK, hD⟩, hS.F ht⟩) hS.2.2 dX8_image_41
  unfold fX8_image at hok
  obtain ⟨H, hH⟩ : ∃ H, H = s.heap := ⟨_, rfl⟩
  obtain ⟨locs, hlc⟩ : ∃ x : List Loc, x = [] := ⟨_, rfl⟩
  have hP : va_P D vwCl (wX8_image cy aN qN aH qH qD pD_images vN vH vD vD_images vD_now) H := by rw [hH]; exact hP
  have hS : va_S A s.heap H locs := by rw [hH, hlc]; exact hS
  rw [show W p l e _ s m _ below meth c s.heap [] = W p l e _ s m _ below meth c H locs from by rw [hH, hlc]]
  refine lv_aload_n hx hb dX8_image_0 rfl (lv_at hl 0 rfl) ?_
  refine va_get (D := D) (ci := 7) (v := .ref aH) (C := RX8) (T := TX8) (N := 9) hx hb ht0 niX8 hown hK hP 0 rfl rfl 5 (by decide) (ht0 _ wd522) (fun _ h9 => h9) rfl dX8_image_1 ?_
  obtain ⟨r4, hc4, hok⟩ := k_bind hok
  refine kCi (wc := (wX4_stands cy aH qH vH)) (wc2 := (wX4_stands cy aH qH vH)) (wr := [(aN, oX8 vN qN aH), (qN 1, oX1 vD qD), (qD 2, rR cy 3 (fun j => some (pD_images j))), (pD_images 0, rI cy 9 (vD_images 0)), (pD_images 1, rI cy 9 (vD_images 1)), (pD_images 2, rI cy 9 (vD_images 2)), (qD 0, rI cy 9 vD_now)]) (ws2 := (wX8_image cy aN qN aH qH qD pD_images vN vH vD vD_images vD_now)) (kRunV (As := []) (rest := []) ⟨hx, hb, hml, hown, ht0⟩ (kX4_stands l D cy _ aH qH vH r4 hc4 _ rfl) (cwV 0 ht0 (gV wd577 wd462 wd463 wd9 wd464) rfl rfl rfl (by decide +kernel) ⟨Nat.le_of_ble_eq_true rfl, Nat.le_of_ble_eq_true rfl⟩) hK hN hP hD [1] rfl (by decide) 1 3 rfl rfl rfl hl.1 rfl (Nat.le_of_ble_eq_true rfl) dX8_image_4 ⟨Nat.zero_le _, Nat.zero_le _⟩) hP hD hS hA [1] [0, 2, 3, 4, 5, 6, 7] rfl rfl (by decide) (by decide) [0, 7, 1, 2, 3, 4, 5, 6] (by decide) rfl rfl (fun H locs hP hD hS => ?_)
  refine lv_if_ne (tgt := 16) hx hb dX8_image_7 (by decide) (fun c7 => ?_) (fun c7 => ?_)
  · have hok := k_neg c7 hok
    refine lv_aload_n hx hb dX8_image_16 rfl (lv_at hl 0 rfl) ?_
    refine va_get (D := D) (ci := 7) (v := .ref (qN 1)) (C := RX8) (T := TX8) (N := 9) hx hb ht0 niX8 hown hK hP 0 rfl rfl 1 (by decide) (ht0 _ wd527) (fun _ h9 => h9) rfl dX8_image_17 ?_
    obtain ⟨⟨r20, vD_20, vD_images_20⟩, hc20, hok⟩ := k_bind hok
    try dsimp only at hok
    refine kCi (wc := (wX1_takeImage cy (qN 1) qD pD_images vD vD_images vD_now)) (wc2 := (wX1_takeImage cy (qN 1) qD pD_images vD_20 vD_images_20 vD_now)) (wr := [(aN, oX8 vN qN aH), (aH, oX4 vH qH)]) (ws2 := (wX8_image cy aN qN aH qH qD pD_images vN vH vD_20 vD_images_20 vD_now)) (kRunV (As := []) (rest := []) ⟨hx, hb, hml, hown, ht0⟩ (kX1_takeImage l D cy _ (qN 1) qD pD_images vD vD_images vD_now r20 vD_20 vD_images_20 hc20 _ rfl) (cwV 0 ht0 (gV wd709 wd710 wd711 wd74 wd712) rfl rfl rfl (by decide +kernel) ⟨Nat.le_of_ble_eq_true rfl, Nat.le_of_ble_eq_true rfl⟩) hK hN hP hD [2, 3, 4, 5, 6, 7] rfl (by decide) 2 1 rfl rfl rfl hl.1 rfl (Nat.le_of_ble_eq_true rfl) dX8_image_20 ⟨Nat.zero_le _, Nat.zero_le _⟩) hP hD hS hA [2, 3, 4, 5, 6, 7] [0, 1] rfl rfl (by decide) (by decide) [0, 1, 2, 3, 4, 5, 6, 7] (by decide) rfl rfl (fun H locs hP hD hS => ?_)
    refine lv_istore_n (lv' := [(1, .int r20), (0, .ref aN)]) hx hb dX8_image_23 rfl hl (by decide) rfl (fun ls hl => ?_)
    refine lv_iload_n hx hb dX8_image_24 rfl (lv_at hl 0 rfl) ?_
    refine lv_if_ge (tgt := 36) hx hb dX8_image_25 (by decide) (fun c25 => ?_) (fun c25 => ?_)
    · have hok := k_pos c25 hok
      refine lv_aload_n hx hb dX8_image_36 rfl (lv_at hl 1 rfl) ?_
      refine lv_iload_n hx hb dX8_image_37 rfl (lv_at hl 0 rfl) ?_
      obtain ⟨⟨r38, vN_38⟩, hc38, hok⟩ := k_bind hok
      try dsimp only at hok
      refine kCi (wc := (wX8_answer cy aN qN aH vN)) (wc2 := (wX8_answer cy aN qN aH vN_38)) (wr := [(aH, oX4 vH qH), (qN 1, oX1 vD_20 qD), (qD 2, rR cy 3 (fun j => some (pD_images j))), (pD_images 0, rI cy 9 (vD_images_20 0)), (pD_images 1, rI cy 9 (vD_images_20 1)), (pD_images 2, rI cy 9 (vD_images_20 2)), (qD 0, rI cy 9 vD_now)]) (ws2 := (wX8_image cy aN qN aH qH qD pD_images vN_38 vH vD_20 vD_images_20 vD_now)) (kRunV (As := [.int r20]) (rest := []) ⟨hx, hb, hml, hown, ht0⟩ (kX8_answer l D cy _ aN qN aH vN r20 r38 vN_38 hc38 _ rfl) (cwV 1 ht0 (gV wd538 wd539 wd540 wd57 wd541) rfl rfl rfl (by decide +kernel) ⟨Nat.le_of_ble_eq_true rfl, Nat.le_of_ble_eq_true rfl⟩) hK hN hP hD [0] rfl (by decide) 0 7 rfl rfl rfl hl.1 rfl (Nat.le_of_ble_eq_true rfl) dX8_image_38 ⟨Nat.zero_le _, Nat.zero_le _⟩) hP hD hS hA [0] [1, 2, 3, 4, 5, 6, 7] rfl rfl (by decide) (by decide) [7, 0, 1, 2, 3, 4, 5, 6] (by decide) rfl rfl (fun H locs hP hD hS => ?_)
      exact J41 r38 vD_images_20 vD_20 vN_38 H locs ls hP hD hS (lv_sub hl [] rfl) hok
    · have hok := k_neg c25 hok
      refine lv_aload_n hx hb dX8_image_28 rfl (lv_at hl 1 rfl) ?_
      refine lv_iconst (v := 3) hx hb dX8_image_29 (by decide) ?_
      obtain ⟨⟨r30, vN_30⟩, hc30, hok⟩ := k_bind hok
      try dsimp only at hok
      refine kCi (wc := (wX8_refuse cy aN qN aH vN)) (wc2 := (wX8_refuse cy aN qN aH vN_30)) (wr := [(aH, oX4 vH qH), (qN 1, oX1 vD_20 qD), (qD 2, rR cy 3 (fun j => some (pD_images j))), (pD_images 0, rI cy 9 (vD_images_20 0)), (pD_images 1, rI cy 9 (vD_images_20 1)), (pD_images 2, rI cy 9 (vD_images_20 2)), (qD 0, rI cy 9 vD_now)]) (ws2 := (wX8_image cy aN qN aH qH qD pD_images vN_30 vH vD_20 vD_images_20 vD_now)) (kRunV (As := [.int 3]) (rest := []) ⟨hx, hb, hml, hown, ht0⟩ (kX8_refuse l D cy _ aN qN aH vN (3 : Int32) r30 vN_30 hc30 _ rfl) (cwV 1 ht0 (gV wd504 wd505 wd506 wd57 wd507) rfl rfl rfl (by decide +kernel) ⟨Nat.le_of_ble_eq_true rfl, Nat.le_of_ble_eq_true rfl⟩) hK hN hP hD [0] rfl (by decide) 0 7 rfl rfl rfl hl.1 rfl (Nat.le_of_ble_eq_true rfl) dX8_image_30 ⟨Nat.zero_le _, Nat.zero_le _⟩) hP hD hS hA [0] [1, 2, 3, 4, 5, 6, 7] rfl rfl (by decide) (by decide) [7, 0, 1, 2, 3, 4, 5, 6] (by decide) rfl rfl (fun H locs hP hD hS => ?_)
      refine lv_goto (tgt := 41) hx hb dX8_image_33 (by decide) ?_
      exact J41 r30 vD_images_20 vD_20 vN_30 H locs ls hP hD hS (lv_sub hl [] rfl) hok
  · have hok := k_pos c7 hok
    refine lv_aload_n hx hb dX8_image_10 rfl (lv_at hl 0 rfl) ?_
    refine lv_iconst (v := 1) hx hb dX8_image_11 (by decide) ?_
    obtain ⟨⟨r12, vN_12⟩, hc12, hok⟩ := k_bind hok
    try dsimp only at hok
    refine kCi (wc := (wX8_refuse cy aN qN aH vN)) (wc2 := (wX8_refuse cy aN qN aH vN_12)) (wr := [(aH, oX4 vH qH), (qN 1, oX1 vD qD), (qD 2, rR cy 3 (fun j => some (pD_images j))), (pD_images 0, rI cy 9 (vD_images 0)), (pD_images 1, rI cy 9 (vD_images 1)), (pD_images 2, rI cy 9 (vD_images 2)), (qD 0, rI cy 9 vD_now)]) (ws2 := (wX8_image cy aN qN aH qH qD pD_images vN_12 vH vD vD_images vD_now)) (kRunV (As := [.int 1]) (rest := []) ⟨hx, hb, hml, hown, ht0⟩ (kX8_refuse l D cy _ aN qN aH vN (1 : Int32) r12 vN_12 hc12 _ rfl) (cwV 1 ht0 (gV wd504 wd505 wd506 wd57 wd507) rfl rfl rfl (by decide +kernel) ⟨Nat.le_of_ble_eq_true rfl, Nat.le_of_ble_eq_true rfl⟩) hK hN hP hD [0] rfl (by decide) 0 7 rfl rfl rfl hl.1 rfl (Nat.le_of_ble_eq_true rfl) dX8_image_12 ⟨Nat.zero_le _, Nat.zero_le _⟩) hP hD hS hA [0] [1, 2, 3, 4, 5, 6, 7] rfl rfl (by decide) (by decide) [7, 0, 1, 2, 3, 4, 5, 6] (by decide) rfl rfl (fun H locs hP hD hS => ?_)
    cases hok
    subst hQe; exact W.iret hx hb hr (fun t ht hW => ⟨⟨_, (), rfl, rfl, by rw [ht]; exact hP, va_K.moved hW.alike hK, hD⟩, hS.F ht⟩) hS.2.2 dX8_image_15
def wsX8_back : List Cond := .code yX8_back cX8_back 2 (some .boolean) :: W0
abbrev wX8_back (cy : Nat → ClassId) (aN : Nat) (qN : Nat → Nat) (aH : Nat) (qD : Nat → Nat) (pD_images : Nat → Nat) (vN : Nat → Int32) (vD : Nat → Int32) (vD_images : Nat → Nat → Int32) (vD_now : Nat → Int32) : va_W := [(aN, oX8 vN qN aH), (qN 1, oX1 vD qD), (qD 2, rR cy 3 (fun j => some (pD_images j))), (pD_images 0, rI cy 9 (vD_images 0)), (pD_images 1, rI cy 9 (vD_images 1)), (pD_images 2, rI cy 9 (vD_images 2)), (qD 0, rI cy 9 vD_now)]
set_option maxHeartbeats 4000000 in
set_option maxRecDepth 100000 in
theorem kX8_back (l : Launch) (D : va_G) (cy : Nat → ClassId) (sz : Nat) (aN : Nat) (qN : Nat → Nat) (aH : Nat) (qD : Nat → Nat) (pD_images : Nat → Nat) (vN : Nat → Int32) (vD : Nat → Int32) (vD_images : Nat → Nat → Int32) (vD_now : Nat → Int32) (x1 : Int32) (zr : Int32) (z_vN : Nat → Int32) (z_vD : Nat → Int32) (z_vD_now : Nat → Int32) (hok : fX8_back vN vD vD_images vD_now x1 = some (zr, z_vN, z_vD, z_vD_now)) (A : Nat → Prop) (hAe : va_A (wX8_back cy aN qN aH qD pD_images vN vD vD_images vD_now) sz = A) : Met l yX8_back wsX8_back ({ frames := 2, cells := 0, slots := 0, locals := 61 } : Room) (kPre D cy [.ref aN, .int x1] (wX8_back cy aN qN aH qD pD_images vN vD vD_images vD_now) sz) (kQi D cy zr A (wX8_back cy aN qN aH qD pD_images z_vN z_vD vD_images z_vD_now)) 0 0 A := by
  refine Met.ofW (cc := cX8_back) (maxL := 2) (ret := (some .boolean)) (by decide) rfl ?_
  intro p e s m args below meth c s₁ B hml hv
  obtain ⟨rfl, hsz, hP, hK, hD0, hN⟩ := hv
  have hx := B.exec
  have hb := B.bytes
  have hr := B.returns
  have ht0 : ∀ w ∈ W0, w.before _ s = true := fun w h => atoms_spec (ws := wsX8_back) B.pre w (List.mem_cons_of_mem _ h)
  have hown : s.vm.findClass RX8 = some m.cls := findClass_of_methodNamed B.named
  have hlocks := B.notSynchronized
  subst hsz
  have hD : va_D A (wX8_back cy aN qN aH qD pD_images vN vD vD_images vD_now) := by rw [← hAe]; exact hD0.self
  have hA : ∀ q : Nat, s.heap.size ≤ q → A q := fun q h => by rw [← hAe]; exact Or.inr h
  have hS : va_S A s.heap s.heap [] := va_S.rf
  have hl := lv_entry ([.ref aN, .int x1]) (n := 2) (Nat.le_of_ble_eq_true rfl)
  rw [lg_entry_eq]
  generalize (lg_sl ([.ref aN, .int x1]) ++ List.replicate (2 - (lg_sl ([.ref aN, .int x1])).length) Slot.unset).toArray = ls at hl ⊢
  have hl : lv_has ls 2 [(0, .ref aN), (1, .int x1)] := hl
  generalize hQe : MQ below (kQi D cy zr A (wX8_back cy aN qN aH qD pD_images z_vN z_vD vD_images z_vD_now)) ([.ref aN, .int x1] : List Value).toArray s 0 0 A = Q
  have J17 : ∀ (t0_17 : Int32) (vD_now_17 : Nat → Int32) (vD_17 : Nat → Int32), ∀ (H : Heap) (locs : List Loc) (ls : Array Slot), va_P D vwCl (wX8_back cy aN qN aH qD pD_images vN vD_17 vD_images vD_now_17) H → va_D A (wX8_back cy aN qN aH qD pD_images vN vD_17 vD_images vD_now_17) → va_S A s.heap H locs → lv_has ls 2 [] → fX8_back_J17 vN t0_17 vD_now_17 vD_17 = some (zr, z_vN, z_vD, z_vD_now) → W p l e ({ frames := 2, cells := 0, slots := 0, locals := 61 } : Room) s m ([.ref aN, .int x1] : List Value).toArray below meth c H locs 0 0 Q (F0 m 17 ls [.int t0_17, .ref aN]) := by
    intro t0_17 vD_now_17 vD_17 H locs ls hP hD hS hl hok
    unfold fX8_back_J17 at hok
    obtain ⟨⟨r17, vN_17⟩, hc17, hok⟩ := k_bind hok
    try dsimp only at hok
    refine kCi (wc := (wX8_isDone cy aN qN aH vN)) (wc2 := (wX8_isDone cy aN qN aH vN_17)) (wr := [(qN 1, oX1 vD_17 qD), (qD 2, rR cy 3 (fun j => some (pD_images j))), (pD_images 0, rI cy 9 (vD_images 0)), (pD_images 1, rI cy 9 (vD_images 1)), (pD_images 2, rI cy 9 (vD_images 2)), (qD 0, rI cy 9 vD_now_17)]) (ws2 := (wX8_back cy aN qN aH qD pD_images vN_17 vD_17 vD_images vD_now_17)) (kRunV (As := [.int t0_17]) (rest := []) ⟨hx, hb, hml, hown, ht0⟩ (kX8_isDone l D cy _ aN qN aH vN t0_17 r17 vN_17 hc17 _ rfl) (cwV 1 ht0 (gV wd692 wd693 wd694 wd57 wd695) rfl rfl rfl (by decide +kernel) ⟨Nat.le_of_ble_eq_true rfl, Nat.le_of_ble_eq_true rfl⟩) hK hN hP hD [0] rfl (by decide) 0 7 rfl rfl rfl hl.1 rfl (Nat.le_of_ble_eq_true rfl) dX8_back_17 ⟨Nat.zero_le _, Nat.zero_le _⟩) hP hD hS hA [0] [1, 2, 3, 4, 5, 6] rfl rfl (by decide) (by decide) [6, 0, 1, 2, 3, 4, 5] (by decide) rfl rfl (fun H locs hP hD hS => ?_)
    obtain ⟨g20, hok⟩ := gd_some hok
    cases hok
    subst hQe; exact W.zret hx hb hr (isB_nar g20) (fun t ht hW => ⟨⟨_, (), rfl, rfl, by rw [ht]; exact hP, va_K.moved hW.alike hK, hD⟩, hS.F ht⟩) hS.2.2 dX8_back_20
  unfold fX8_back at hok
  obtain ⟨H, hH⟩ : ∃ H, H = s.heap := ⟨_, rfl⟩
  obtain ⟨locs, hlc⟩ : ∃ x : List Loc, x = [] := ⟨_, rfl⟩
  have hP : va_P D vwCl (wX8_back cy aN qN aH qD pD_images vN vD vD_images vD_now) H := by rw [hH]; exact hP
  have hS : va_S A s.heap H locs := by rw [hH, hlc]; exact hS
  rw [show W p l e _ s m _ below meth c s.heap [] = W p l e _ s m _ below meth c H locs from by rw [hH, hlc]]
  refine lv_aload_n hx hb dX8_back_0 rfl (lv_at hl 0 rfl) ?_
  refine lv_aload_n hx hb dX8_back_1 rfl (lv_at hl 0 rfl) ?_
  refine va_get (D := D) (ci := 7) (v := .ref (qN 1)) (C := RX8) (T := TX8) (N := 9) hx hb ht0 niX8 hown hK hP 0 rfl rfl 1 (by decide) (ht0 _ wd527) (fun _ h9 => h9) rfl dX8_back_2 ?_
  refine lv_iload_n hx hb dX8_back_5 rfl (lv_at hl 1 rfl) ?_
  obtain ⟨⟨r6, vD_6, vD_now_6⟩, hc6, hok⟩ := k_bind hok
  try dsimp only at hok
  refine kCi (wc := (wX1_returnTo cy (qN 1) qD pD_images vD vD_images vD_now)) (wc2 := (wX1_returnTo cy (qN 1) qD pD_images vD_6 vD_images vD_now_6)) (wr := [(aN, oX8 vN qN aH)]) (ws2 := (wX8_back cy aN qN aH qD pD_images vN vD_6 vD_images vD_now_6)) (kRunV (As := [.int x1]) (rest := [.ref aN]) ⟨hx, hb, hml, hown, ht0⟩ (kX1_returnTo l D cy _ (qN 1) qD pD_images vD vD_images vD_now x1 r6 vD_6 vD_now_6 hc6 _ rfl) (cwV 1 ht0 (gV wd713 wd714 wd715 wd74 wd716) rfl rfl rfl (by decide +kernel) ⟨Nat.le_of_ble_eq_true rfl, Nat.le_of_ble_eq_true rfl⟩) hK hN hP hD [1, 2, 3, 4, 5, 6] rfl (by decide) 1 1 rfl rfl rfl hl.1 rfl (Nat.le_of_ble_eq_true rfl) dX8_back_6 ⟨Nat.zero_le _, Nat.zero_le _⟩) hP hD hS hA [1, 2, 3, 4, 5, 6] [0] rfl rfl (by decide) (by decide) [0, 1, 2, 3, 4, 5, 6] (by decide) rfl rfl (fun H locs hP hD hS => ?_)
  refine lv_if_eq (tgt := 16) hx hb dX8_back_9 (by decide) (fun c9 => ?_) (fun c9 => ?_)
  · have hok := k_pos c9 hok
    refine lv_iconst (v := 1) hx hb dX8_back_16 (by decide) ?_
    exact J17 (1 : Int32) vD_now_6 vD_6 H locs ls hP hD hS (lv_sub hl [] rfl) hok
  · have hok := k_neg c9 hok
    refine lv_iconst (v := 0) hx hb dX8_back_12 (by decide) ?_
    refine lv_goto (tgt := 17) hx hb dX8_back_13 (by decide) ?_
    exact J17 (0 : Int32) vD_now_6 vD_6 H locs ls hP hD hS (lv_sub hl [] rfl) hok
def wsX8_size : List Cond := .code yX8_size cX8_size 2 (some .int) :: W0
abbrev wX8_size (cy : Nat → ClassId) (aN : Nat) (qN : Nat → Nat) (aH : Nat) (qH : Nat → Nat) (qU : Nat → Nat) (qD : Nat → Nat) (qR : Nat → Nat) (aH0 : Nat) (vN : Nat → Int32) (vH : Nat → Int32) (vH_places : Nat → Int32) (vU : Nat → Int32) (vD : Nat → Int32) (vD_now : Nat → Int32) (vR_j11 : Int64) (vR : Nat → Int32) : va_W := [(aN, oX8 vN qN aH), (aH, oX4 vH qH), (qH 9, rI cy 4 vH_places), (qH 7, oX7 vU qU), (qN 1, oX1 vD qD), (qD 0, rI cy 9 vD_now), (qN 0, oX5 vR qR vR_j11 aH0)]
set_option maxHeartbeats 4000000 in
set_option maxRecDepth 100000 in
theorem kX8_size (l : Launch) (D : va_G) (cy : Nat → ClassId) (sz : Nat) (aN : Nat) (qN : Nat → Nat) (aH : Nat) (qH : Nat → Nat) (qU : Nat → Nat) (qD : Nat → Nat) (qR : Nat → Nat) (aH0 : Nat) (vN : Nat → Int32) (vH : Nat → Int32) (vH_places : Nat → Int32) (vU : Nat → Int32) (vD : Nat → Int32) (vD_now : Nat → Int32) (vR_j11 : Int64) (vR : Nat → Int32) (x1 : Int32) (zr : Int32) (hok : fX8_size vN vH vH_places vU vD vD_now vR_j11 vR x1 = some zr) (A : Nat → Prop) (hAe : va_A (wX8_size cy aN qN aH qH qU qD qR aH0 vN vH vH_places vU vD vD_now vR_j11 vR) sz = A) : Met l yX8_size wsX8_size ({ frames := 3, cells := 0, slots := 0, locals := 64 } : Room) (kPre D cy [.ref aN, .int x1] (wX8_size cy aN qN aH qH qU qD qR aH0 vN vH vH_places vU vD vD_now vR_j11 vR) sz) (kQi D cy zr A (wX8_size cy aN qN aH qH qU qD qR aH0 vN vH vH_places vU vD vD_now vR_j11 vR)) 0 0 A := by
  refine Met.ofW (cc := cX8_size) (maxL := 2) (ret := (some .int)) (by decide) rfl ?_
  intro p e s m args below meth c s₁ B hml hv
  obtain ⟨rfl, hsz, hP, hK, hD0, hN⟩ := hv
  have hx := B.exec
  have hb := B.bytes
  have hr := B.returns
  have ht0 : ∀ w ∈ W0, w.before _ s = true := fun w h => atoms_spec (ws := wsX8_size) B.pre w (List.mem_cons_of_mem _ h)
  have hown : s.vm.findClass RX8 = some m.cls := findClass_of_methodNamed B.named
  have hlocks := B.notSynchronized
  subst hsz
  have hD : va_D A (wX8_size cy aN qN aH qH qU qD qR aH0 vN vH vH_places vU vD vD_now vR_j11 vR) := by rw [← hAe]; exact hD0.self
  have hA : ∀ q : Nat, s.heap.size ≤ q → A q := fun q h => by rw [← hAe]; exact Or.inr h
  have hS : va_S A s.heap s.heap [] := va_S.rf
  have hl := lv_entry ([.ref aN, .int x1]) (n := 2) (Nat.le_of_ble_eq_true rfl)
  rw [lg_entry_eq]
  generalize (lg_sl ([.ref aN, .int x1]) ++ List.replicate (2 - (lg_sl ([.ref aN, .int x1])).length) Slot.unset).toArray = ls at hl ⊢
  have hl : lv_has ls 2 [(0, .ref aN), (1, .int x1)] := hl
  unfold fX8_size at hok
  obtain ⟨H, hH⟩ : ∃ H, H = s.heap := ⟨_, rfl⟩
  obtain ⟨locs, hlc⟩ : ∃ x : List Loc, x = [] := ⟨_, rfl⟩
  have hP : va_P D vwCl (wX8_size cy aN qN aH qH qU qD qR aH0 vN vH vH_places vU vD vD_now vR_j11 vR) H := by rw [hH]; exact hP
  have hS : va_S A s.heap H locs := by rw [hH, hlc]; exact hS
  rw [show W p l e _ s m _ below meth c s.heap [] = W p l e _ s m _ below meth c H locs from by rw [hH, hlc]]
  refine lv_iload_n hx hb dX8_size_0 rfl (lv_at hl 1 rfl) ?_
  by_cases c1_0 : x1 = 0
  · have hok := k_pos c1_0 hok
    refine lv_tableIn (tgt := 68) (off := 67) hx hb dX8_size_1 (by rw [c1_0]; decide) (by rw [c1_0]; decide) (by rw [c1_0]; decide) (by decide) ?_
    refine lv_aload_n hx hb dX8_size_68 rfl (lv_at hl 0 rfl) ?_
    refine va_get (D := D) (ci := 7) (v := .ref aH) (C := RX8) (T := TX8) (N := 9) hx hb ht0 niX8 hown hK hP 0 rfl rfl 5 (by decide) (ht0 _ wd522) (fun _ h9 => h9) rfl dX8_size_69 ?_
    refine va_get (D := D) (ci := 3) (v := .int (vH 0)) (C := RX4) (T := TX4) (N := 20) hx hb ht0 niX4 hown hK hP 1 rfl rfl 0 (by decide) (ht0 _ wd717) (fun _ h9 => h9) rfl dX8_size_72 ?_
    cases hok
    exact W.iret hx hb hr (fun t ht hW => ⟨⟨_, (), rfl, rfl, by rw [ht]; exact hP, va_K.moved hW.alike hK, hD⟩, hS.F ht⟩) hS.2.2 dX8_size_75
  have hok := k_neg c1_0 hok
  by_cases c1_1 : x1 = 1
  · have hok := k_pos c1_1 hok
    refine lv_tableIn (tgt := 76) (off := 75) hx hb dX8_size_1 (by rw [c1_1]; decide) (by rw [c1_1]; decide) (by rw [c1_1]; decide) (by decide) ?_
    refine lv_aload_n hx hb dX8_size_76 rfl (lv_at hl 0 rfl) ?_
    refine va_get (D := D) (ci := 7) (v := .ref aH) (C := RX8) (T := TX8) (N := 9) hx hb ht0 niX8 hown hK hP 0 rfl rfl 5 (by decide) (ht0 _ wd522) (fun _ h9 => h9) rfl dX8_size_77 ?_
    refine va_get (D := D) (ci := 3) (v := .int (vH 1)) (C := RX4) (T := TX4) (N := 20) hx hb ht0 niX4 hown hK hP 1 rfl rfl 1 (by decide) (ht0 _ wd718) (fun _ h9 => h9) rfl dX8_size_80 ?_
    cases hok
    exact W.iret hx hb hr (fun t ht hW => ⟨⟨_, (), rfl, rfl, by rw [ht]; exact hP, va_K.moved hW.alike hK, hD⟩, hS.F ht⟩) hS.2.2 dX8_size_83
  have hok := k_neg c1_1 hok
  by_cases c1_2 : x1 = 2
  · have hok := k_pos c1_2 hok
    refine lv_tableIn (tgt := 84) (off := 83) hx hb dX8_size_1 (by rw [c1_2]; decide) (by rw [c1_2]; decide) (by rw [c1_2]; decide) (by decide) ?_
    refine lv_aload_n hx hb dX8_size_84 rfl (lv_at hl 0 rfl) ?_
    refine va_get (D := D) (ci := 7) (v := .ref aH) (C := RX8) (T := TX8) (N := 9) hx hb ht0 niX8 hown hK hP 0 rfl rfl 5 (by decide) (ht0 _ wd522) (fun _ h9 => h9) rfl dX8_size_85 ?_
    refine va_get (D := D) (ci := 3) (v := .int (vH 2)) (C := RX4) (T := TX4) (N := 20) hx hb ht0 niX4 hown hK hP 1 rfl rfl 2 (by decide) (ht0 _ wd537) (fun _ h9 => h9) rfl dX8_size_88 ?_
    cases hok
    exact W.iret hx hb hr (fun t ht hW => ⟨⟨_, (), rfl, rfl, by rw [ht]; exact hP, va_K.moved hW.alike hK, hD⟩, hS.F ht⟩) hS.2.2 dX8_size_91
  have hok := k_neg c1_2 hok
  by_cases c1_3 : x1 = 3
  · have hok := k_pos c1_3 hok
    refine lv_tableIn (tgt := 92) (off := 91) hx hb dX8_size_1 (by rw [c1_3]; decide) (by rw [c1_3]; decide) (by rw [c1_3]; decide) (by decide) ?_
    refine lv_aload_n hx hb dX8_size_92 rfl (lv_at hl 0 rfl) ?_
    refine va_get (D := D) (ci := 7) (v := .ref aH) (C := RX8) (T := TX8) (N := 9) hx hb ht0 niX8 hown hK hP 0 rfl rfl 5 (by decide) (ht0 _ wd522) (fun _ h9 => h9) rfl dX8_size_93 ?_
    obtain ⟨r96, hc96, hok⟩ := k_bind hok
    refine kCi (wc := (wX4_placesOfAll cy aH qH vH vH_places)) (wc2 := (wX4_placesOfAll cy aH qH vH vH_places)) (wr := [(aN, oX8 vN qN aH), (qH 7, oX7 vU qU), (qN 1, oX1 vD qD), (qD 0, rI cy 9 vD_now), (qN 0, oX5 vR qR vR_j11 aH0)]) (ws2 := (wX8_size cy aN qN aH qH qU qD qR aH0 vN vH vH_places vU vD vD_now vR_j11 vR)) (kRunV (As := []) (rest := []) ⟨hx, hb, hml, hown, ht0⟩ (kX4_placesOfAll l D cy _ aH qH vH vH_places r96 hc96 _ rfl) (cwV 0 ht0 (gV wd719 wd720 wd721 wd9 wd722) rfl rfl rfl (by decide +kernel) ⟨Nat.le_of_ble_eq_true rfl, Nat.le_of_ble_eq_true rfl⟩) hK hN hP hD [1, 2] rfl (by decide) 1 3 rfl rfl rfl hl.1 rfl (Nat.le_of_ble_eq_true rfl) dX8_size_96 ⟨Nat.zero_le _, Nat.zero_le _⟩) hP hD hS hA [1, 2] [0, 3, 4, 5, 6] rfl rfl (by decide) (by decide) [0, 5, 6, 1, 2, 3, 4] (by decide) rfl rfl (fun H locs hP hD hS => ?_)
    cases hok
    exact W.iret hx hb hr (fun t ht hW => ⟨⟨_, (), rfl, rfl, by rw [ht]; exact hP, va_K.moved hW.alike hK, hD⟩, hS.F ht⟩) hS.2.2 dX8_size_99
  have hok := k_neg c1_3 hok
  by_cases c1_4 : x1 = 4
  · have hok := k_pos c1_4 hok
    refine lv_tableIn (tgt := 100) (off := 99) hx hb dX8_size_1 (by rw [c1_4]; decide) (by rw [c1_4]; decide) (by rw [c1_4]; decide) (by decide) ?_
    refine lv_aload_n hx hb dX8_size_100 rfl (lv_at hl 0 rfl) ?_
    refine va_get (D := D) (ci := 7) (v := .ref aH) (C := RX8) (T := TX8) (N := 9) hx hb ht0 niX8 hown hK hP 0 rfl rfl 5 (by decide) (ht0 _ wd522) (fun _ h9 => h9) rfl dX8_size_101 ?_
    refine va_get (D := D) (ci := 3) (v := .int (vH 5)) (C := RX4) (T := TX4) (N := 20) hx hb ht0 niX4 hown hK hP 1 rfl rfl 5 (by decide) (ht0 _ wd543) (fun _ h9 => h9) rfl dX8_size_104 ?_
    cases hok
    exact W.iret hx hb hr (fun t ht hW => ⟨⟨_, (), rfl, rfl, by rw [ht]; exact hP, va_K.moved hW.alike hK, hD⟩, hS.F ht⟩) hS.2.2 dX8_size_107
  have hok := k_neg c1_4 hok
  by_cases c1_5 : x1 = 5
  · have hok := k_pos c1_5 hok
    refine lv_tableIn (tgt := 108) (off := 107) hx hb dX8_size_1 (by rw [c1_5]; decide) (by rw [c1_5]; decide) (by rw [c1_5]; decide) (by decide) ?_
    refine lv_aload_n hx hb dX8_size_108 rfl (lv_at hl 0 rfl) ?_
    refine va_get (D := D) (ci := 7) (v := .ref aH) (C := RX8) (T := TX8) (N := 9) hx hb ht0 niX8 hown hK hP 0 rfl rfl 5 (by decide) (ht0 _ wd522) (fun _ h9 => h9) rfl dX8_size_109 ?_
    refine va_get (D := D) (ci := 3) (v := .int (vH 3)) (C := RX4) (T := TX4) (N := 20) hx hb ht0 niX4 hown hK hP 1 rfl rfl 3 (by decide) (ht0 _ wd723) (fun _ h9 => h9) rfl dX8_size_112 ?_
    cases hok
    exact W.iret hx hb hr (fun t ht hW => ⟨⟨_, (), rfl, rfl, by rw [ht]; exact hP, va_K.moved hW.alike hK, hD⟩, hS.F ht⟩) hS.2.2 dX8_size_115
  have hok := k_neg c1_5 hok
  by_cases c1_6 : x1 = 6
  · have hok := k_pos c1_6 hok
    refine lv_tableIn (tgt := 116) (off := 115) hx hb dX8_size_1 (by rw [c1_6]; decide) (by rw [c1_6]; decide) (by rw [c1_6]; decide) (by decide) ?_
    refine lv_aload_n hx hb dX8_size_116 rfl (lv_at hl 0 rfl) ?_
    refine va_get (D := D) (ci := 7) (v := .ref aH) (C := RX8) (T := TX8) (N := 9) hx hb ht0 niX8 hown hK hP 0 rfl rfl 5 (by decide) (ht0 _ wd522) (fun _ h9 => h9) rfl dX8_size_117 ?_
    refine va_get (D := D) (ci := 3) (v := .int (vH 4)) (C := RX4) (T := TX4) (N := 20) hx hb ht0 niX4 hown hK hP 1 rfl rfl 4 (by decide) (ht0 _ wd724) (fun _ h9 => h9) rfl dX8_size_120 ?_
    cases hok
    exact W.iret hx hb hr (fun t ht hW => ⟨⟨_, (), rfl, rfl, by rw [ht]; exact hP, va_K.moved hW.alike hK, hD⟩, hS.F ht⟩) hS.2.2 dX8_size_123
  have hok := k_neg c1_6 hok
  by_cases c1_7 : x1 = 7
  · have hok := k_pos c1_7 hok
    refine lv_tableIn (tgt := 124) (off := 123) hx hb dX8_size_1 (by rw [c1_7]; decide) (by rw [c1_7]; decide) (by rw [c1_7]; decide) (by decide) ?_
    refine lv_aload_n hx hb dX8_size_124 rfl (lv_at hl 0 rfl) ?_
    refine va_get (D := D) (ci := 7) (v := .ref aH) (C := RX8) (T := TX8) (N := 9) hx hb ht0 niX8 hown hK hP 0 rfl rfl 5 (by decide) (ht0 _ wd522) (fun _ h9 => h9) rfl dX8_size_125 ?_
    refine va_get (D := D) (ci := 3) (v := .ref (qH 7)) (C := RX4) (T := TX4) (N := 20) hx hb ht0 niX4 hown hK hP 1 rfl rfl 7 (by decide) (ht0 _ wd633) (fun _ h9 => h9) rfl dX8_size_128 ?_
    obtain ⟨r131, hc131, hok⟩ := k_bind hok
    refine kCi (wc := (wX7_count cy (qH 7) qU vU)) (wc2 := (wX7_count cy (qH 7) qU vU)) (wr := [(aN, oX8 vN qN aH), (aH, oX4 vH qH), (qH 9, rI cy 4 vH_places), (qN 1, oX1 vD qD), (qD 0, rI cy 9 vD_now), (qN 0, oX5 vR qR vR_j11 aH0)]) (ws2 := (wX8_size cy aN qN aH qH qU qD qR aH0 vN vH vH_places vU vD vD_now vR_j11 vR)) (kRunV (As := []) (rest := []) ⟨hx, hb, hml, hown, ht0⟩ (kX7_count l D cy _ (qH 7) qU vU r131 hc131 _ rfl) (cwV 0 ht0 (gV wd725 wd354 wd355 wd218 wd356) rfl rfl rfl (by decide +kernel) ⟨Nat.le_of_ble_eq_true rfl, Nat.le_of_ble_eq_true rfl⟩) hK hN hP hD [3] rfl (by decide) 3 6 rfl rfl rfl hl.1 rfl (Nat.le_of_ble_eq_true rfl) dX8_size_131 ⟨Nat.zero_le _, Nat.zero_le _⟩) hP hD hS hA [3] [0, 1, 2, 4, 5, 6] rfl rfl (by decide) (by decide) [0, 1, 2, 6, 3, 4, 5] (by decide) rfl rfl (fun H locs hP hD hS => ?_)
    cases hok
    exact W.iret hx hb hr (fun t ht hW => ⟨⟨_, (), rfl, rfl, by rw [ht]; exact hP, va_K.moved hW.alike hK, hD⟩, hS.F ht⟩) hS.2.2 dX8_size_134
  have hok := k_neg c1_7 hok
  by_cases c1_8 : x1 = 8
  · have hok := k_pos c1_8 hok
    refine lv_tableIn (tgt := 135) (off := 134) hx hb dX8_size_1 (by rw [c1_8]; decide) (by rw [c1_8]; decide) (by rw [c1_8]; decide) (by decide) ?_
    refine lv_aload_n hx hb dX8_size_135 rfl (lv_at hl 0 rfl) ?_
    refine va_get (D := D) (ci := 7) (v := .ref aH) (C := RX8) (T := TX8) (N := 9) hx hb ht0 niX8 hown hK hP 0 rfl rfl 5 (by decide) (ht0 _ wd522) (fun _ h9 => h9) rfl dX8_size_136 ?_
    refine va_get (D := D) (ci := 3) (v := .int (vH 6)) (C := RX4) (T := TX4) (N := 20) hx hb ht0 niX4 hown hK hP 1 rfl rfl 6 (by decide) (ht0 _ wd726) (fun _ h9 => h9) rfl dX8_size_139 ?_
    cases hok
    exact W.iret hx hb hr (fun t ht hW => ⟨⟨_, (), rfl, rfl, by rw [ht]; exact hP, va_K.moved hW.alike hK, hD⟩, hS.F ht⟩) hS.2.2 dX8_size_142
  have hok := k_neg c1_8 hok
  by_cases c1_9 : x1 = 9
  · have hok := k_pos c1_9 hok
    refine lv_tableIn (tgt := 143) (off := 142) hx hb dX8_size_1 (by rw [c1_9]; decide) (by rw [c1_9]; decide) (by rw [c1_9]; decide) (by decide) ?_
    refine lv_aload_n hx hb dX8_size_143 rfl (lv_at hl 0 rfl) ?_
    refine va_get (D := D) (ci := 7) (v := .ref (qN 1)) (C := RX8) (T := TX8) (N := 9) hx hb ht0 niX8 hown hK hP 0 rfl rfl 1 (by decide) (ht0 _ wd527) (fun _ h9 => h9) rfl dX8_size_144 ?_
    obtain ⟨r147, hc147, hok⟩ := k_bind hok
    refine kCi (wc := (wX1_nightNow cy (qN 1) qD vD vD_now)) (wc2 := (wX1_nightNow cy (qN 1) qD vD vD_now)) (wr := [(aN, oX8 vN qN aH), (aH, oX4 vH qH), (qH 9, rI cy 4 vH_places), (qH 7, oX7 vU qU), (qN 0, oX5 vR qR vR_j11 aH0)]) (ws2 := (wX8_size cy aN qN aH qH qU qD qR aH0 vN vH vH_places vU vD vD_now vR_j11 vR)) (kRunV (As := []) (rest := []) ⟨hx, hb, hml, hown, ht0⟩ (kX1_nightNow l D cy _ (qN 1) qD vD vD_now r147 hc147 _ rfl) (cwV 0 ht0 (gV wd704 wd117 wd118 wd74 wd119) rfl rfl rfl (by decide +kernel) ⟨Nat.le_of_ble_eq_true rfl, Nat.le_of_ble_eq_true rfl⟩) hK hN hP hD [4, 5] rfl (by decide) 4 1 rfl rfl rfl hl.1 rfl (Nat.le_of_ble_eq_true rfl) dX8_size_147 ⟨Nat.zero_le _, Nat.zero_le _⟩) hP hD hS hA [4, 5] [0, 1, 2, 3, 6] rfl rfl (by decide) (by decide) [0, 1, 2, 3, 5, 6, 4] (by decide) rfl rfl (fun H locs hP hD hS => ?_)
    cases hok
    exact W.iret hx hb hr (fun t ht hW => ⟨⟨_, (), rfl, rfl, by rw [ht]; exact hP, va_K.moved hW.alike hK, hD⟩, hS.F ht⟩) hS.2.2 dX8_size_150
  have hok := k_neg c1_9 hok
  by_cases c1_10 : x1 = 10
  · have hok := k_pos c1_10 hok
    refine lv_tableIn (tgt := 151) (off := 150) hx hb dX8_size_1 (by rw [c1_10]; decide) (by rw [c1_10]; decide) (by rw [c1_10]; decide) (by decide) ?_
    refine lv_aload_n hx hb dX8_size_151 rfl (lv_at hl 0 rfl) ?_
    refine va_get (D := D) (ci := 7) (v := .ref (qN 1)) (C := RX8) (T := TX8) (N := 9) hx hb ht0 niX8 hown hK hP 0 rfl rfl 1 (by decide) (ht0 _ wd527) (fun _ h9 => h9) rfl dX8_size_152 ?_
    obtain ⟨r155, hc155, hok⟩ := k_bind hok
    refine kCi (wc := (wX1_countKept cy (qN 1) qD vD)) (wc2 := (wX1_countKept cy (qN 1) qD vD)) (wr := [(aN, oX8 vN qN aH), (aH, oX4 vH qH), (qH 9, rI cy 4 vH_places), (qH 7, oX7 vU qU), (qD 0, rI cy 9 vD_now), (qN 0, oX5 vR qR vR_j11 aH0)]) (ws2 := (wX8_size cy aN qN aH qH qU qD qR aH0 vN vH vH_places vU vD vD_now vR_j11 vR)) (kRunV (As := []) (rest := []) ⟨hx, hb, hml, hown, ht0⟩ (kX1_countKept l D cy _ (qN 1) qD vD r155 hc155 _ rfl) (cwV 0 ht0 (gV wd727 wd728 wd729 wd74 wd730) rfl rfl rfl (by decide +kernel) ⟨Nat.le_of_ble_eq_true rfl, Nat.le_of_ble_eq_true rfl⟩) hK hN hP hD [4] rfl (by decide) 4 1 rfl rfl rfl hl.1 rfl (Nat.le_of_ble_eq_true rfl) dX8_size_155 ⟨Nat.zero_le _, Nat.zero_le _⟩) hP hD hS hA [4] [0, 1, 2, 3, 5, 6] rfl rfl (by decide) (by decide) [0, 1, 2, 3, 6, 4, 5] (by decide) rfl rfl (fun H locs hP hD hS => ?_)
    cases hok
    exact W.iret hx hb hr (fun t ht hW => ⟨⟨_, (), rfl, rfl, by rw [ht]; exact hP, va_K.moved hW.alike hK, hD⟩, hS.F ht⟩) hS.2.2 dX8_size_158
  have hok := k_neg c1_10 hok
  by_cases c1_11 : x1 = 11
  · have hok := k_pos c1_11 hok
    refine lv_tableIn (tgt := 159) (off := 158) hx hb dX8_size_1 (by rw [c1_11]; decide) (by rw [c1_11]; decide) (by rw [c1_11]; decide) (by decide) ?_
    refine lv_aload_n hx hb dX8_size_159 rfl (lv_at hl 0 rfl) ?_
    refine va_get (D := D) (ci := 7) (v := .ref (qN 1)) (C := RX8) (T := TX8) (N := 9) hx hb ht0 niX8 hown hK hP 0 rfl rfl 1 (by decide) (ht0 _ wd527) (fun _ h9 => h9) rfl dX8_size_160 ?_
    obtain ⟨r163, hc163, hok⟩ := k_bind hok
    refine kCi (wc := (wX1_countImages cy (qN 1) qD vD)) (wc2 := (wX1_countImages cy (qN 1) qD vD)) (wr := [(aN, oX8 vN qN aH), (aH, oX4 vH qH), (qH 9, rI cy 4 vH_places), (qH 7, oX7 vU qU), (qD 0, rI cy 9 vD_now), (qN 0, oX5 vR qR vR_j11 aH0)]) (ws2 := (wX8_size cy aN qN aH qH qU qD qR aH0 vN vH vH_places vU vD vD_now vR_j11 vR)) (kRunV (As := []) (rest := []) ⟨hx, hb, hml, hown, ht0⟩ (kX1_countImages l D cy _ (qN 1) qD vD r163 hc163 _ rfl) (cwV 0 ht0 (gV wd731 wd732 wd733 wd74 wd734) rfl rfl rfl (by decide +kernel) ⟨Nat.le_of_ble_eq_true rfl, Nat.le_of_ble_eq_true rfl⟩) hK hN hP hD [4] rfl (by decide) 4 1 rfl rfl rfl hl.1 rfl (Nat.le_of_ble_eq_true rfl) dX8_size_163 ⟨Nat.zero_le _, Nat.zero_le _⟩) hP hD hS hA [4] [0, 1, 2, 3, 5, 6] rfl rfl (by decide) (by decide) [0, 1, 2, 3, 6, 4, 5] (by decide) rfl rfl (fun H locs hP hD hS => ?_)
    cases hok
    exact W.iret hx hb hr (fun t ht hW => ⟨⟨_, (), rfl, rfl, by rw [ht]; exact hP, va_K.moved hW.alike hK, hD⟩, hS.F ht⟩) hS.2.2 dX8_size_166
  have hok := k_neg c1_11 hok
  by_cases c1_12 : x1 = 12
  · have hok := k_pos c1_12 hok
    refine lv_tableIn (tgt := 167) (off := 166) hx hb dX8_size_1 (by rw [c1_12]; decide) (by rw [c1_12]; decide) (by rw [c1_12]; decide) (by decide) ?_
    refine lv_aload_n hx hb dX8_size_167 rfl (lv_at hl 0 rfl) ?_
    refine va_get (D := D) (ci := 7) (v := .ref (qN 0)) (C := RX8) (T := TX8) (N := 9) hx hb ht0 niX8 hown hK hP 0 rfl rfl 0 (by decide) (ht0 _ wd490) (fun _ h9 => h9) rfl dX8_size_168 ?_
    obtain ⟨r171, hc171, hok⟩ := k_bind hok
    refine kCi (wc := (wX5_count cy (qN 0) qR aH0 vR_j11 vR)) (wc2 := (wX5_count cy (qN 0) qR aH0 vR_j11 vR)) (wr := [(aN, oX8 vN qN aH), (aH, oX4 vH qH), (qH 9, rI cy 4 vH_places), (qH 7, oX7 vU qU), (qN 1, oX1 vD qD), (qD 0, rI cy 9 vD_now)]) (ws2 := (wX8_size cy aN qN aH qH qU qD qR aH0 vN vH vH_places vU vD vD_now vR_j11 vR)) (kRunV (As := []) (rest := []) ⟨hx, hb, hml, hown, ht0⟩ (kX5_count l D cy _ (qN 0) qR aH0 vR_j11 vR r171 hc171 _ rfl) (cwV 0 ht0 (gV wd499 wd500 wd501 wd276 wd502) rfl rfl rfl (by decide +kernel) ⟨Nat.le_of_ble_eq_true rfl, Nat.le_of_ble_eq_true rfl⟩) hK hN hP hD [6] rfl (by decide) 6 4 rfl rfl rfl hl.1 rfl (Nat.le_of_ble_eq_true rfl) dX8_size_171 ⟨Nat.zero_le _, Nat.zero_le _⟩) hP hD hS hA [6] [0, 1, 2, 3, 4, 5] rfl rfl (by decide) (by decide) [0, 1, 2, 3, 4, 5, 6] (by decide) rfl rfl (fun H locs hP hD hS => ?_)
    cases hok
    exact W.iret hx hb hr (fun t ht hW => ⟨⟨_, (), rfl, rfl, by rw [ht]; exact hP, va_K.moved hW.alike hK, hD⟩, hS.F ht⟩) hS.2.2 dX8_size_174
  have hok := k_neg c1_12 hok
  refine lv_tableOut (tgt := 175) hx hb dX8_size_1 (by have q0 := lv_neT c1_0 (a := 0) (by decide); have q1 := lv_neT c1_1 (a := 1) (by decide); have q2 := lv_neT c1_2 (a := 2) (by decide); have q3 := lv_neT c1_3 (a := 3) (by decide); have q4 := lv_neT c1_4 (a := 4) (by decide); have q5 := lv_neT c1_5 (a := 5) (by decide); have q6 := lv_neT c1_6 (a := 6) (by decide); have q7 := lv_neT c1_7 (a := 7) (by decide); have q8 := lv_neT c1_8 (a := 8) (by decide); have q9 := lv_neT c1_9 (a := 9) (by decide); have q10 := lv_neT c1_10 (a := 10) (by decide); have q11 := lv_neT c1_11 (a := 11) (by decide); have q12 := lv_neT c1_12 (a := 12) (by decide); omega) (by decide) ?_
  refine lv_iconst (v := -1) hx hb dX8_size_175 (by decide) ?_
  cases hok
  exact W.iret hx hb hr (fun t ht hW => ⟨⟨_, (), rfl, rfl, by rw [ht]; exact hP, va_K.moved hW.alike hK, hD⟩, hS.F ht⟩) hS.2.2 dX8_size_176
def wsX8_trouble : List Cond := .code yX8_trouble cX8_trouble 1 (some .int) :: W0
abbrev wX8_trouble (cy : Nat → ClassId) (aN : Nat) (qN : Nat → Nat) (aH : Nat) (vN : Nat → Int32) : va_W := [(aN, oX8 vN qN aH)]
set_option maxHeartbeats 4000000 in
set_option maxRecDepth 100000 in
theorem kX8_trouble (l : Launch) (D : va_G) (cy : Nat → ClassId) (sz : Nat) (aN : Nat) (qN : Nat → Nat) (aH : Nat) (vN : Nat → Int32) (zr : Int32) (hok : fX8_trouble vN = some zr) (A : Nat → Prop) (hAe : va_A (wX8_trouble cy aN qN aH vN) sz = A) : Met l yX8_trouble wsX8_trouble ({ frames := 0, cells := 0, slots := 0, locals := 0 } : Room) (kPre D cy [.ref aN] (wX8_trouble cy aN qN aH vN) sz) (kQi D cy zr A (wX8_trouble cy aN qN aH vN)) 0 0 A := by
  refine Met.ofW (cc := cX8_trouble) (maxL := 1) (ret := (some .int)) (by decide) rfl ?_
  intro p e s m args below meth c s₁ B hml hv
  obtain ⟨rfl, hsz, hP, hK, hD0, hN⟩ := hv
  have hx := B.exec
  have hb := B.bytes
  have hr := B.returns
  have ht0 : ∀ w ∈ W0, w.before _ s = true := fun w h => atoms_spec (ws := wsX8_trouble) B.pre w (List.mem_cons_of_mem _ h)
  have hown : s.vm.findClass RX8 = some m.cls := findClass_of_methodNamed B.named
  have hlocks := B.notSynchronized
  subst hsz
  have hD : va_D A (wX8_trouble cy aN qN aH vN) := by rw [← hAe]; exact hD0.self
  have hA : ∀ q : Nat, s.heap.size ≤ q → A q := fun q h => by rw [← hAe]; exact Or.inr h
  have hS : va_S A s.heap s.heap [] := va_S.rf
  have hl := lv_entry ([.ref aN]) (n := 1) (Nat.le_of_ble_eq_true rfl)
  rw [lg_entry_eq]
  generalize (lg_sl ([.ref aN]) ++ List.replicate (1 - (lg_sl ([.ref aN])).length) Slot.unset).toArray = ls at hl ⊢
  have hl : lv_has ls 1 [(0, .ref aN)] := hl
  unfold fX8_trouble at hok
  obtain ⟨H, hH⟩ : ∃ H, H = s.heap := ⟨_, rfl⟩
  obtain ⟨locs, hlc⟩ : ∃ x : List Loc, x = [] := ⟨_, rfl⟩
  have hP : va_P D vwCl (wX8_trouble cy aN qN aH vN) H := by rw [hH]; exact hP
  have hS : va_S A s.heap H locs := by rw [hH, hlc]; exact hS
  rw [show W p l e _ s m _ below meth c s.heap [] = W p l e _ s m _ below meth c H locs from by rw [hH, hlc]]
  refine lv_aload_n hx hb dX8_trouble_0 rfl (lv_at hl 0 rfl) ?_
  refine va_get (D := D) (ci := 7) (v := .int (vN 6)) (C := RX8) (T := TX8) (N := 9) hx hb ht0 niX8 hown hK hP 0 rfl rfl 6 (by decide) (ht0 _ wd503) (fun _ h9 => h9) rfl dX8_trouble_1 ?_
  cases hok
  exact W.iret hx hb hr (fun t ht hW => ⟨⟨_, (), rfl, rfl, by rw [ht]; exact hP, va_K.moved hW.alike hK, hD⟩, hS.F ht⟩) hS.2.2 dX8_trouble_4
def wsX9_thrown : List Cond := .code yX9_thrown cX9_thrown 1 (some .int) :: W0
abbrev wX9_thrown (cy : Nat → ClassId) (aM : Nat) (qM : Nat → Nat) (vM : Nat → Int32) : va_W := [(aM, oX9 vM qM)]
set_option maxHeartbeats 4000000 in
set_option maxRecDepth 100000 in
theorem kX9_thrown (l : Launch) (D : va_G) (cy : Nat → ClassId) (sz : Nat) (aM : Nat) (qM : Nat → Nat) (vM : Nat → Int32) (zr : Int32) (hok : fX9_thrown vM = some zr) (A : Nat → Prop) (hAe : va_A (wX9_thrown cy aM qM vM) sz = A) : Met l yX9_thrown wsX9_thrown ({ frames := 0, cells := 0, slots := 0, locals := 0 } : Room) (kPre D cy [.ref aM] (wX9_thrown cy aM qM vM) sz) (kQi D cy zr A (wX9_thrown cy aM qM vM)) 0 0 A := by
  refine Met.ofW (cc := cX9_thrown) (maxL := 1) (ret := (some .int)) (by decide) rfl ?_
  intro p e s m args below meth c s₁ B hml hv
  obtain ⟨rfl, hsz, hP, hK, hD0, hN⟩ := hv
  have hx := B.exec
  have hb := B.bytes
  have hr := B.returns
  have ht0 : ∀ w ∈ W0, w.before _ s = true := fun w h => atoms_spec (ws := wsX9_thrown) B.pre w (List.mem_cons_of_mem _ h)
  have hown : s.vm.findClass RX9 = some m.cls := findClass_of_methodNamed B.named
  have hlocks := B.notSynchronized
  subst hsz
  have hD : va_D A (wX9_thrown cy aM qM vM) := by rw [← hAe]; exact hD0.self
  have hA : ∀ q : Nat, s.heap.size ≤ q → A q := fun q h => by rw [← hAe]; exact Or.inr h
  have hS : va_S A s.heap s.heap [] := va_S.rf
  have hl := lv_entry ([.ref aM]) (n := 1) (Nat.le_of_ble_eq_true rfl)
  rw [lg_entry_eq]
  generalize (lg_sl ([.ref aM]) ++ List.replicate (1 - (lg_sl ([.ref aM])).length) Slot.unset).toArray = ls at hl ⊢
  have hl : lv_has ls 1 [(0, .ref aM)] := hl
  unfold fX9_thrown at hok
  obtain ⟨H, hH⟩ : ∃ H, H = s.heap := ⟨_, rfl⟩
  obtain ⟨locs, hlc⟩ : ∃ x : List Loc, x = [] := ⟨_, rfl⟩
  have hP : va_P D vwCl (wX9_thrown cy aM qM vM) H := by rw [hH]; exact hP
  have hS : va_S A s.heap H locs := by rw [hH, hlc]; exact hS
  rw [show W p l e _ s m _ below meth c s.heap [] = W p l e _ s m _ below meth c H locs from by rw [hH, hlc]]
  refine lv_aload_n hx hb dX9_thrown_0 rfl (lv_at hl 0 rfl) ?_
  refine va_get (D := D) (ci := 8) (v := .int (vM 0)) (C := RX9) (T := TX9) (N := 29) hx hb ht0 niX9 hown hK hP 0 rfl rfl 0 (by decide) (ht0 _ wd735) (fun _ h9 => h9) rfl dX9_thrown_1 ?_
  cases hok
  exact W.iret hx hb hr (fun t ht hW => ⟨⟨_, (), rfl, rfl, by rw [ht]; exact hP, va_K.moved hW.alike hK, hD⟩, hS.F ht⟩) hS.2.2 dX9_thrown_4
def wsX9_good : List Cond := .code yX9_good cX9_good 1 none :: W0
abbrev wX9_good (cy : Nat → ClassId) (aM : Nat) (qM : Nat → Nat) (vM : Nat → Int32) : va_W := [(aM, oX9 vM qM)]
set_option maxHeartbeats 4000000 in
set_option maxRecDepth 100000 in
theorem kX9_good (l : Launch) (D : va_G) (cy : Nat → ClassId) (sz : Nat) (aM : Nat) (qM : Nat → Nat) (vM : Nat → Int32) (z_vM : Nat → Int32) (hok : fX9_good vM = some z_vM) (A : Nat → Prop) (hAe : va_A (wX9_good cy aM qM vM) sz = A) : Met l yX9_good wsX9_good ({ frames := 0, cells := 0, slots := 0, locals := 0 } : Room) (kPre D cy [.ref aM] (wX9_good cy aM qM vM) sz) (kQv D cy A (wX9_good cy aM qM z_vM)) 0 0 A := by
  refine Met.ofW (cc := cX9_good) (maxL := 1) (ret := none) (by decide) rfl ?_
  intro p e s m args below meth c s₁ B hml hv
  obtain ⟨rfl, hsz, hP, hK, hD0, hN⟩ := hv
  have hx := B.exec
  have hb := B.bytes
  have hr := B.returns
  have ht0 : ∀ w ∈ W0, w.before _ s = true := fun w h => atoms_spec (ws := wsX9_good) B.pre w (List.mem_cons_of_mem _ h)
  have hown : s.vm.findClass RX9 = some m.cls := findClass_of_methodNamed B.named
  have hlocks := B.notSynchronized
  subst hsz
  have hD : va_D A (wX9_good cy aM qM vM) := by rw [← hAe]; exact hD0.self
  have hA : ∀ q : Nat, s.heap.size ≤ q → A q := fun q h => by rw [← hAe]; exact Or.inr h
  have hS : va_S A s.heap s.heap [] := va_S.rf
  have hl := lv_entry ([.ref aM]) (n := 1) (Nat.le_of_ble_eq_true rfl)
  rw [lg_entry_eq]
  generalize (lg_sl ([.ref aM]) ++ List.replicate (1 - (lg_sl ([.ref aM])).length) Slot.unset).toArray = ls at hl ⊢
  have hl : lv_has ls 1 [(0, .ref aM)] := hl
  unfold fX9_good at hok
  obtain ⟨H, hH⟩ : ∃ H, H = s.heap := ⟨_, rfl⟩
  obtain ⟨locs, hlc⟩ : ∃ x : List Loc, x = [] := ⟨_, rfl⟩
  have hP : va_P D vwCl (wX9_good cy aM qM vM) H := by rw [hH]; exact hP
  have hS : va_S A s.heap H locs := by rw [hH, hlc]; exact hS
  rw [show W p l e _ s m _ below meth c s.heap [] = W p l e _ s m _ below meth c H locs from by rw [hH, hlc]]
  refine lv_aload_n hx hb dX9_good_0 rfl (lv_at hl 0 rfl) ?_
  refine lv_iconst (v := 0) hx hb dX9_good_1 (by decide) ?_
  refine va_put (D := D) (ci := 8) (v := .int 0) (ty := .int) (C := RX9) (T := TX9) (N := 29) hx hb ht0 niX9 tyX9 tyX9_ok nmX9 hown hK hP hD hS 0 rfl rfl 0 (by decide) (ht0 _ wd735) (fun _ h9 => h9) rfl (by decide +kernel) rfl rfl (Nat.le_of_ble_eq_true rfl) dX9_good_2 (fun H locs hP hD hS => ?_)
  have hP : va_P D vwCl (wX9_good cy aM qM (upd vM 0 (0 : Int32))) H := hP
  have hD : va_D A (wX9_good cy aM qM (upd vM 0 (0 : Int32))) := hD
  refine lv_aload_n hx hb dX9_good_5 rfl (lv_at hl 0 rfl) ?_
  refine lv_iconst (v := 0) hx hb dX9_good_6 (by decide) ?_
  refine va_put (D := D) (ci := 8) (v := .int 0) (ty := .int) (C := RX9) (T := TX9) (N := 29) hx hb ht0 niX9 tyX9 tyX9_ok nmX9 hown hK hP hD hS 0 rfl rfl 11 (by decide) (ht0 _ wd736) (fun _ h9 => h9) rfl (by decide +kernel) rfl rfl (Nat.le_of_ble_eq_true rfl) dX9_good_7 (fun H locs hP hD hS => ?_)
  have hP : va_P D vwCl (wX9_good cy aM qM (upd (upd vM 0 (0 : Int32)) 11 (0 : Int32))) H := hP
  have hD : va_D A (wX9_good cy aM qM (upd (upd vM 0 (0 : Int32)) 11 (0 : Int32))) := hD
  cases hok
  exact W.vret hx hb hr (fun t ht hW => ⟨⟨(), rfl, trivial, by rw [ht]; exact hP, va_K.moved hW.alike hK, hD⟩, hS.F ht⟩) hS.2.2 dX9_good_10
def wsX9_no : List Cond := .code yX9_no cX9_no 2 (some .int) :: W0
abbrev wX9_no (cy : Nat → ClassId) (aM : Nat) (qM : Nat → Nat) (vM : Nat → Int32) : va_W := [(aM, oX9 vM qM)]
set_option maxHeartbeats 4000000 in
set_option maxRecDepth 100000 in
theorem kX9_no (l : Launch) (D : va_G) (cy : Nat → ClassId) (sz : Nat) (aM : Nat) (qM : Nat → Nat) (vM : Nat → Int32) (x1 : Int32) (zr : Int32) (z_vM : Nat → Int32) (hok : fX9_no vM x1 = some (zr, z_vM)) (A : Nat → Prop) (hAe : va_A (wX9_no cy aM qM vM) sz = A) : Met l yX9_no wsX9_no ({ frames := 0, cells := 0, slots := 0, locals := 0 } : Room) (kPre D cy [.ref aM, .int x1] (wX9_no cy aM qM vM) sz) (kQi D cy zr A (wX9_no cy aM qM z_vM)) 0 0 A := by
  refine Met.ofW (cc := cX9_no) (maxL := 2) (ret := (some .int)) (by decide) rfl ?_
  intro p e s m args below meth c s₁ B hml hv
  obtain ⟨rfl, hsz, hP, hK, hD0, hN⟩ := hv
  have hx := B.exec
  have hb := B.bytes
  have hr := B.returns
  have ht0 : ∀ w ∈ W0, w.before _ s = true := fun w h => atoms_spec (ws := wsX9_no) B.pre w (List.mem_cons_of_mem _ h)
  have hown : s.vm.findClass RX9 = some m.cls := findClass_of_methodNamed B.named
  have hlocks := B.notSynchronized
  subst hsz
  have hD : va_D A (wX9_no cy aM qM vM) := by rw [← hAe]; exact hD0.self
  have hA : ∀ q : Nat, s.heap.size ≤ q → A q := fun q h => by rw [← hAe]; exact Or.inr h
  have hS : va_S A s.heap s.heap [] := va_S.rf
  have hl := lv_entry ([.ref aM, .int x1]) (n := 2) (Nat.le_of_ble_eq_true rfl)
  rw [lg_entry_eq]
  generalize (lg_sl ([.ref aM, .int x1]) ++ List.replicate (2 - (lg_sl ([.ref aM, .int x1])).length) Slot.unset).toArray = ls at hl ⊢
  have hl : lv_has ls 2 [(0, .ref aM), (1, .int x1)] := hl
  unfold fX9_no at hok
  obtain ⟨H, hH⟩ : ∃ H, H = s.heap := ⟨_, rfl⟩
  obtain ⟨locs, hlc⟩ : ∃ x : List Loc, x = [] := ⟨_, rfl⟩
  have hP : va_P D vwCl (wX9_no cy aM qM vM) H := by rw [hH]; exact hP
  have hS : va_S A s.heap H locs := by rw [hH, hlc]; exact hS
  rw [show W p l e _ s m _ below meth c s.heap [] = W p l e _ s m _ below meth c H locs from by rw [hH, hlc]]
  refine lv_aload_n hx hb dX9_no_0 rfl (lv_at hl 0 rfl) ?_
  refine lv_iload_n hx hb dX9_no_1 rfl (lv_at hl 1 rfl) ?_
  refine va_put (D := D) (ci := 8) (v := .int x1) (ty := .int) (C := RX9) (T := TX9) (N := 29) hx hb ht0 niX9 tyX9 tyX9_ok nmX9 hown hK hP hD hS 0 rfl rfl 11 (by decide) (ht0 _ wd736) (fun _ h9 => h9) rfl (by decide +kernel) rfl rfl (Nat.le_of_ble_eq_true rfl) dX9_no_2 (fun H locs hP hD hS => ?_)
  have hP : va_P D vwCl (wX9_no cy aM qM (upd vM 11 x1)) H := hP
  have hD : va_D A (wX9_no cy aM qM (upd vM 11 x1)) := hD
  refine lv_iconst (v := -1) hx hb dX9_no_5 (by decide) ?_
  cases hok
  exact W.iret hx hb hr (fun t ht hW => ⟨⟨_, (), rfl, rfl, by rw [ht]; exact hP, va_K.moved hW.alike hK, hD⟩, hS.F ht⟩) hS.2.2 dX9_no_6
def wsX9_isNot : List Cond := .code yX9_isNot cX9_isNot 2 (some .boolean) :: W0
abbrev wX9_isNot (cy : Nat → ClassId) (aM : Nat) (qM : Nat → Nat) (vM : Nat → Int32) : va_W := [(aM, oX9 vM qM)]
set_option maxHeartbeats 4000000 in
set_option maxRecDepth 100000 in
theorem kX9_isNot (l : Launch) (D : va_G) (cy : Nat → ClassId) (sz : Nat) (aM : Nat) (qM : Nat → Nat) (vM : Nat → Int32) (x1 : Int32) (zr : Int32) (z_vM : Nat → Int32) (hok : fX9_isNot vM x1 = some (zr, z_vM)) (A : Nat → Prop) (hAe : va_A (wX9_isNot cy aM qM vM) sz = A) : Met l yX9_isNot wsX9_isNot ({ frames := 0, cells := 0, slots := 0, locals := 0 } : Room) (kPre D cy [.ref aM, .int x1] (wX9_isNot cy aM qM vM) sz) (kQi D cy zr A (wX9_isNot cy aM qM z_vM)) 0 0 A := by
  refine Met.ofW (cc := cX9_isNot) (maxL := 2) (ret := (some .boolean)) (by decide) rfl ?_
  intro p e s m args below meth c s₁ B hml hv
  obtain ⟨rfl, hsz, hP, hK, hD0, hN⟩ := hv
  have hx := B.exec
  have hb := B.bytes
  have hr := B.returns
  have ht0 : ∀ w ∈ W0, w.before _ s = true := fun w h => atoms_spec (ws := wsX9_isNot) B.pre w (List.mem_cons_of_mem _ h)
  have hown : s.vm.findClass RX9 = some m.cls := findClass_of_methodNamed B.named
  have hlocks := B.notSynchronized
  subst hsz
  have hD : va_D A (wX9_isNot cy aM qM vM) := by rw [← hAe]; exact hD0.self
  have hA : ∀ q : Nat, s.heap.size ≤ q → A q := fun q h => by rw [← hAe]; exact Or.inr h
  have hS : va_S A s.heap s.heap [] := va_S.rf
  have hl := lv_entry ([.ref aM, .int x1]) (n := 2) (Nat.le_of_ble_eq_true rfl)
  rw [lg_entry_eq]
  generalize (lg_sl ([.ref aM, .int x1]) ++ List.replicate (2 - (lg_sl ([.ref aM, .int x1])).length) Slot.unset).toArray = ls at hl ⊢
  have hl : lv_has ls 2 [(0, .ref aM), (1, .int x1)] := hl
  unfold fX9_isNot at hok
  obtain ⟨H, hH⟩ : ∃ H, H = s.heap := ⟨_, rfl⟩
  obtain ⟨locs, hlc⟩ : ∃ x : List Loc, x = [] := ⟨_, rfl⟩
  have hP : va_P D vwCl (wX9_isNot cy aM qM vM) H := by rw [hH]; exact hP
  have hS : va_S A s.heap H locs := by rw [hH, hlc]; exact hS
  rw [show W p l e _ s m _ below meth c s.heap [] = W p l e _ s m _ below meth c H locs from by rw [hH, hlc]]
  refine lv_aload_n hx hb dX9_isNot_0 rfl (lv_at hl 0 rfl) ?_
  refine lv_iload_n hx hb dX9_isNot_1 rfl (lv_at hl 1 rfl) ?_
  refine va_put (D := D) (ci := 8) (v := .int x1) (ty := .int) (C := RX9) (T := TX9) (N := 29) hx hb ht0 niX9 tyX9 tyX9_ok nmX9 hown hK hP hD hS 0 rfl rfl 11 (by decide) (ht0 _ wd736) (fun _ h9 => h9) rfl (by decide +kernel) rfl rfl (Nat.le_of_ble_eq_true rfl) dX9_isNot_2 (fun H locs hP hD hS => ?_)
  have hP : va_P D vwCl (wX9_isNot cy aM qM (upd vM 11 x1)) H := hP
  have hD : va_D A (wX9_isNot cy aM qM (upd vM 11 x1)) := hD
  refine lv_iconst (v := 0) hx hb dX9_isNot_5 (by decide) ?_
  cases hok
  exact W.zret hx hb hr rfl (fun t ht hW => ⟨⟨_, (), rfl, rfl, by rw [ht]; exact hP, va_K.moved hW.alike hK, hD⟩, hS.F ht⟩) hS.2.2 dX9_isNot_6
def wsX9_in : List Cond := .code yX9_in cX9_in 3 (some .boolean) :: W0
abbrev wX9_in (cy : Nat → ClassId)  : va_W := []
set_option maxHeartbeats 4000000 in
set_option maxRecDepth 100000 in
theorem kX9_in (l : Launch) (D : va_G) (cy : Nat → ClassId) (sz : Nat) (x0 : Int32) (x1 : Int32) (x2 : Int32) (zr : Int32) (hok : fX9_in x0 x1 x2 = some zr) (A : Nat → Prop) (hAe : va_A (wX9_in cy ) sz = A) : Met l yX9_in wsX9_in ({ frames := 0, cells := 0, slots := 0, locals := 0 } : Room) (kPre D cy [.int x0, .int x1, .int x2] (wX9_in cy ) sz) (kQi D cy zr A (wX9_in cy )) 0 0 A := by
  refine Met.ofW (cc := cX9_in) (maxL := 3) (ret := (some .boolean)) (by decide) rfl ?_
  intro p e s m args below meth c s₁ B hml hv
  obtain ⟨rfl, hsz, hP, hK, hD0, hN⟩ := hv
  have hx := B.exec
  have hb := B.bytes
  have hr := B.returns
  have ht0 : ∀ w ∈ W0, w.before _ s = true := fun w h => atoms_spec (ws := wsX9_in) B.pre w (List.mem_cons_of_mem _ h)
  have hown : s.vm.findClass RX9 = some m.cls := findClass_of_methodNamed B.named
  have hlocks := B.notSynchronized
  subst hsz
  have hD : va_D A (wX9_in cy ) := by rw [← hAe]; exact hD0.self
  have hA : ∀ q : Nat, s.heap.size ≤ q → A q := fun q h => by rw [← hAe]; exact Or.inr h
  have hS : va_S A s.heap s.heap [] := va_S.rf
  have hl := lv_entry ([.int x0, .int x1, .int x2]) (n := 3) (Nat.le_of_ble_eq_true rfl)
  rw [lg_entry_eq]
  generalize (lg_sl ([.int x0, .int x1, .int x2]) ++ List.replicate (3 - (lg_sl ([.int x0, .int x1, .int x2])).length) Slot.unset).toArray = ls at hl ⊢
  have hl : lv_has ls 3 [(0, .int x0), (1, .int x1), (2, .int x2)] := hl
  generalize hQe : MQ below (kQi D cy zr A (wX9_in cy )) ([.int x0, .int x1, .int x2] : List Value).toArray s 0 0 A = Q
  have J15 : ∀ (t0_15 : Int32), ∀ (H : Heap) (locs : List Loc) (ls : Array Slot), va_P D vwCl (wX9_in cy ) H → va_D A (wX9_in cy ) → va_S A s.heap H locs → lv_has ls 3 [] → fX9_in_J15 t0_15 = some zr → W p l e ({ frames := 0, cells := 0, slots := 0, locals := 0 } : Room) s m ([.int x0, .int x1, .int x2] : List Value).toArray below meth c H locs 0 0 Q (F0 m 15 ls [.int t0_15]) := by
    intro t0_15 H locs ls hP hD hS hl hok
    unfold fX9_in_J15 at hok
    obtain ⟨g15, hok⟩ := gd_some hok
    cases hok
    subst hQe; exact W.zret hx hb hr (isB_nar g15) (fun t ht hW => ⟨⟨_, (), rfl, rfl, by rw [ht]; exact hP, va_K.moved hW.alike hK, hD⟩, hS.F ht⟩) hS.2.2 dX9_in_15
  have J14 : ∀ (H : Heap) (locs : List Loc) (ls : Array Slot), va_P D vwCl (wX9_in cy ) H → va_D A (wX9_in cy ) → va_S A s.heap H locs → lv_has ls 3 [] → fX9_in_J14 = some zr → W p l e ({ frames := 0, cells := 0, slots := 0, locals := 0 } : Room) s m ([.int x0, .int x1, .int x2] : List Value).toArray below meth c H locs 0 0 Q (F0 m 14 ls []) := by
    intro  H locs ls hP hD hS hl hok
    unfold fX9_in_J14 at hok
    refine lv_iconst (v := 0) hx hb dX9_in_14 (by decide) ?_
    exact J15 (0 : Int32) H locs ls hP hD hS (lv_sub hl [] rfl) hok
  unfold fX9_in at hok
  obtain ⟨H, hH⟩ : ∃ H, H = s.heap := ⟨_, rfl⟩
  obtain ⟨locs, hlc⟩ : ∃ x : List Loc, x = [] := ⟨_, rfl⟩
  have hP : va_P D vwCl (wX9_in cy ) H := by rw [hH]; exact hP
  have hS : va_S A s.heap H locs := by rw [hH, hlc]; exact hS
  rw [show W p l e _ s m _ below meth c s.heap [] = W p l e _ s m _ below meth c H locs from by rw [hH, hlc]]
  refine lv_iload_n hx hb dX9_in_0 rfl (lv_at hl 0 rfl) ?_
  refine lv_iload_n hx hb dX9_in_1 rfl (lv_at hl 1 rfl) ?_
  refine lv_icmp_lt (tgt := 14) hx hb dX9_in_2 (by decide) (fun c2 => ?_) (fun c2 => ?_)
  · have hok := k_pos c2 hok
    exact J14  H locs ls hP hD hS (lv_sub hl [] rfl) hok
  · have hok := k_neg c2 hok
    refine lv_iload_n hx hb dX9_in_5 rfl (lv_at hl 0 rfl) ?_
    refine lv_iload_n hx hb dX9_in_6 rfl (lv_at hl 2 rfl) ?_
    refine lv_icmp_gt (tgt := 14) hx hb dX9_in_7 (by decide) (fun c7 => ?_) (fun c7 => ?_)
    · have hok := k_pos c7 hok
      exact J14  H locs ls hP hD hS (lv_sub hl [] rfl) hok
    · have hok := k_neg c7 hok
      refine lv_iconst (v := 1) hx hb dX9_in_10 (by decide) ?_
      refine lv_goto (tgt := 15) hx hb dX9_in_11 (by decide) ?_
      exact J15 (1 : Int32) H locs ls hP hD hS (lv_sub hl [] rfl) hok
def wsX9_hasBit : List Cond := .code yX9_hasBit cX9_hasBit 2 (some .boolean) :: W0
abbrev wX9_hasBit (cy : Nat → ClassId)  : va_W := []
set_option maxHeartbeats 4000000 in
set_option maxRecDepth 100000 in
theorem kX9_hasBit (l : Launch) (D : va_G) (cy : Nat → ClassId) (sz : Nat) (x0 : Int32) (x1 : Int32) (zr : Int32) (hok : fX9_hasBit x0 x1 = some zr) (A : Nat → Prop) (hAe : va_A (wX9_hasBit cy ) sz = A) : Met l yX9_hasBit wsX9_hasBit ({ frames := 0, cells := 0, slots := 0, locals := 0 } : Room) (kPre D cy [.int x0, .int x1] (wX9_hasBit cy ) sz) (kQi D cy zr A (wX9_hasBit cy )) 0 0 A := by
  refine Met.ofW (cc := cX9_hasBit) (maxL := 2) (ret := (some .boolean)) (by decide) rfl ?_
  intro p e s m args below meth c s₁ B hml hv
  obtain ⟨rfl, hsz, hP, hK, hD0, hN⟩ := hv
  have hx := B.exec
  have hb := B.bytes
  have hr := B.returns
  have ht0 : ∀ w ∈ W0, w.before _ s = true := fun w h => atoms_spec (ws := wsX9_hasBit) B.pre w (List.mem_cons_of_mem _ h)
  have hown : s.vm.findClass RX9 = some m.cls := findClass_of_methodNamed B.named
  have hlocks := B.notSynchronized
  subst hsz
  have hD : va_D A (wX9_hasBit cy ) := by rw [← hAe]; exact hD0.self
  have hA : ∀ q : Nat, s.heap.size ≤ q → A q := fun q h => by rw [← hAe]; exact Or.inr h
  have hS : va_S A s.heap s.heap [] := va_S.rf
  have hl := lv_entry ([.int x0, .int x1]) (n := 2) (Nat.le_of_ble_eq_true rfl)
  rw [lg_entry_eq]
  generalize (lg_sl ([.int x0, .int x1]) ++ List.replicate (2 - (lg_sl ([.int x0, .int x1])).length) Slot.unset).toArray = ls at hl ⊢
  have hl : lv_has ls 2 [(0, .int x0), (1, .int x1)] := hl
  generalize hQe : MQ below (kQi D cy zr A (wX9_hasBit cy )) ([.int x0, .int x1] : List Value).toArray s 0 0 A = Q
  have J14 : ∀ (t0_14 : Int32), ∀ (H : Heap) (locs : List Loc) (ls : Array Slot), va_P D vwCl (wX9_hasBit cy ) H → va_D A (wX9_hasBit cy ) → va_S A s.heap H locs → lv_has ls 2 [] → fX9_hasBit_J14 t0_14 = some zr → W p l e ({ frames := 0, cells := 0, slots := 0, locals := 0 } : Room) s m ([.int x0, .int x1] : List Value).toArray below meth c H locs 0 0 Q (F0 m 14 ls [.int t0_14]) := by
    intro t0_14 H locs ls hP hD hS hl hok
    unfold fX9_hasBit_J14 at hok
    obtain ⟨g14, hok⟩ := gd_some hok
    cases hok
    subst hQe; exact W.zret hx hb hr (isB_nar g14) (fun t ht hW => ⟨⟨_, (), rfl, rfl, by rw [ht]; exact hP, va_K.moved hW.alike hK, hD⟩, hS.F ht⟩) hS.2.2 dX9_hasBit_14
  unfold fX9_hasBit at hok
  obtain ⟨H, hH⟩ : ∃ H, H = s.heap := ⟨_, rfl⟩
  obtain ⟨locs, hlc⟩ : ∃ x : List Loc, x = [] := ⟨_, rfl⟩
  have hP : va_P D vwCl (wX9_hasBit cy ) H := by rw [hH]; exact hP
  have hS : va_S A s.heap H locs := by rw [hH, hlc]; exact hS
  rw [show W p l e _ s m _ below meth c s.heap [] = W p l e _ s m _ below meth c H locs from by rw [hH, hlc]]
  refine lv_iload_n hx hb dX9_hasBit_0 rfl (lv_at hl 0 rfl) ?_
  refine lv_iload_n hx hb dX9_hasBit_1 rfl (lv_at hl 1 rfl) ?_
  refine lv_ishr hx hb dX9_hasBit_2 ?_
  refine lv_iconst (v := 1) hx hb dX9_hasBit_3 (by decide) ?_
  refine lv_iand hx hb dX9_hasBit_4 ?_
  refine lv_iconst (v := 1) hx hb dX9_hasBit_5 (by decide) ?_
  refine lv_icmp_ne (tgt := 13) hx hb dX9_hasBit_6 (by decide) (fun c6 => ?_) (fun c6 => ?_)
  · have hok := k_neg c6 hok
    refine lv_iconst (v := 0) hx hb dX9_hasBit_13 (by decide) ?_
    exact J14 (0 : Int32) H locs ls hP hD hS (lv_sub hl [] rfl) hok
  · have hok := k_pos c6 hok
    refine lv_iconst (v := 1) hx hb dX9_hasBit_9 (by decide) ?_
    refine lv_goto (tgt := 14) hx hb dX9_hasBit_10 (by decide) ?_
    exact J14 (1 : Int32) H locs ls hP hD hS (lv_sub hl [] rfl) hok
def wsX9_ones : List Cond := .code yX9_ones cX9_ones 3 (some .int) :: W0
abbrev wX9_ones (cy : Nat → ClassId)  : va_W := []
set_option maxHeartbeats 4000000 in
set_option maxRecDepth 100000 in
theorem kX9_ones (l : Launch) (D : va_G) (cy : Nat → ClassId) (sz : Nat) (x0 : Int32) (zr : Int32) (hok : fX9_ones x0 = some zr) (A : Nat → Prop) (hAe : va_A (wX9_ones cy ) sz = A) : Met l yX9_ones wsX9_ones ({ frames := 0, cells := 0, slots := 0, locals := 0 } : Room) (kPre D cy [.int x0] (wX9_ones cy ) sz) (kQi D cy zr A (wX9_ones cy )) 0 0 A := by
  refine Met.ofW (cc := cX9_ones) (maxL := 3) (ret := (some .int)) (by decide) rfl ?_
  intro p e s m args below meth c s₁ B hml hv
  obtain ⟨rfl, hsz, hP, hK, hD0, hN⟩ := hv
  have hx := B.exec
  have hb := B.bytes
  have hr := B.returns
  have ht0 : ∀ w ∈ W0, w.before _ s = true := fun w h => atoms_spec (ws := wsX9_ones) B.pre w (List.mem_cons_of_mem _ h)
  have hown : s.vm.findClass RX9 = some m.cls := findClass_of_methodNamed B.named
  have hlocks := B.notSynchronized
  subst hsz
  have hD : va_D A (wX9_ones cy ) := by rw [← hAe]; exact hD0.self
  have hA : ∀ q : Nat, s.heap.size ≤ q → A q := fun q h => by rw [← hAe]; exact Or.inr h
  have hS : va_S A s.heap s.heap [] := va_S.rf
  have hl := lv_entry ([.int x0]) (n := 3) (Nat.le_of_ble_eq_true rfl)
  rw [lg_entry_eq]
  generalize (lg_sl ([.int x0]) ++ List.replicate (3 - (lg_sl ([.int x0])).length) Slot.unset).toArray = ls at hl ⊢
  have hl : lv_has ls 3 [(0, .int x0)] := hl
  generalize hQe : MQ below (kQi D cy zr A (wX9_ones cy )) ([.int x0] : List Value).toArray s 0 0 A = Q
  have L4 : ∀ (fuel : Nat) (y1_4 : Int32) (y2_4 : Int32), ∀ (H : Heap) (locs : List Loc) (ls : Array Slot), va_P D vwCl (wX9_ones cy ) H → va_D A (wX9_ones cy ) → va_S A s.heap H locs → lv_has ls 3 [(0, .int x0), (1, .int y1_4), (2, .int y2_4)] → lp (fX9_ones_B4 x0) fuel (y1_4, y2_4) = some zr → W p l e ({ frames := 0, cells := 0, slots := 0, locals := 0 } : Room) s m ([.int x0] : List Value).toArray below meth c H locs 0 0 Q (F0 m 4 ls []) := by
    intro fuel
    induction fuel with
    | zero => intro y1_4 y2_4 H locs ls hP hD hS hl hok; exact (lp_0 hok).elim
    | succ fuel ih4 =>
      intro y1_4 y2_4 H locs ls hP hD hS hl hok
      obtain ⟨y4, hok, hL4, hR4⟩ := lp_step hok
      unfold fX9_ones_B4 at hok
      try dsimp only at hok
      refine lv_iload_n hx hb dX9_ones_4 rfl (lv_at hl 2 rfl) ?_
      refine lv_bipush (v := 8) hx hb dX9_ones_5 (by decide) ?_
      refine lv_icmp_ge (tgt := 24) hx hb dX9_ones_7 (by decide) (fun c7 => ?_) (fun c7 => ?_)
      · have hok := k_pos c7 hok
        obtain ⟨e4, hok, he4⟩ := ex_some hok
        have hok := hok.trans (congrArg some (hL4 _ he4))
        refine lv_iload_n hx hb dX9_ones_24 rfl (lv_at hl 1 rfl) ?_
        cases hok
        subst hQe; exact W.iret hx hb hr (fun t ht hW => ⟨⟨_, (), rfl, rfl, by rw [ht]; exact hP, va_K.moved hW.alike hK, hD⟩, hS.F ht⟩) hS.2.2 dX9_ones_25
      · have hok := k_neg c7 hok
        refine lv_iload_n hx hb dX9_ones_10 rfl (lv_at hl 1 rfl) ?_
        refine lv_iload_n hx hb dX9_ones_11 rfl (lv_at hl 0 rfl) ?_
        refine lv_iload_n hx hb dX9_ones_12 rfl (lv_at hl 2 rfl) ?_
        refine lv_ishr hx hb dX9_ones_13 ?_
        refine lv_iconst (v := 1) hx hb dX9_ones_14 (by decide) ?_
        refine lv_iand hx hb dX9_ones_15 ?_
        refine lv_iadd hx hb dX9_ones_16 ?_
        refine lv_istore_n (lv' := [(1, .int (y1_4 + ((isr x0 y2_4) &&& (1 : Int32)))), (0, .int x0), (2, .int y2_4)]) hx hb dX9_ones_17 rfl hl (by decide) rfl (fun ls hl => ?_)
        refine lv_iinc (v := (y2_4 + 1)) (lv' := [(2, .int (y2_4 + 1)), (1, .int (y1_4 + ((isr x0 y2_4) &&& (1 : Int32)))), (0, .int x0)]) hx hb dX9_ones_18 hl (k := 2) rfl (by first | rfl | decide) (by decide) rfl (fun ls hl => ?_)
        refine lv_goto (tgt := 4) hx hb dX9_ones_21 (by decide) ?_
        exact ih4 (y1_4 + ((isr x0 y2_4) &&& (1 : Int32))) (y2_4 + 1) H locs ls hP hD hS (lv_sub hl [2, 1, 0] rfl) (hR4 _ (Option.some.inj hok).symm)
  unfold fX9_ones at hok
  obtain ⟨H, hH⟩ : ∃ H, H = s.heap := ⟨_, rfl⟩
  obtain ⟨locs, hlc⟩ : ∃ x : List Loc, x = [] := ⟨_, rfl⟩
  have hP : va_P D vwCl (wX9_ones cy ) H := by rw [hH]; exact hP
  have hS : va_S A s.heap H locs := by rw [hH, hlc]; exact hS
  rw [show W p l e _ s m _ below meth c s.heap [] = W p l e _ s m _ below meth c H locs from by rw [hH, hlc]]
  refine lv_iconst (v := 0) hx hb dX9_ones_0 (by decide) ?_
  refine lv_istore_n (lv' := [(1, .int 0), (0, .int x0)]) hx hb dX9_ones_1 rfl hl (by decide) rfl (fun ls hl => ?_)
  refine lv_iconst (v := 0) hx hb dX9_ones_2 (by decide) ?_
  refine lv_istore_n (lv' := [(2, .int 0), (1, .int 0), (0, .int x0)]) hx hb dX9_ones_3 rfl hl (by decide) rfl (fun ls hl => ?_)
  exact L4 5000 (0 : Int32) (0 : Int32) H locs ls hP hD hS (lv_sub hl [2, 1, 0] rfl) hok
def wsX9_copy : List Cond := .code yX9_copy cX9_copy 6 none :: W0
abbrev wX9_copy (cy : Nat → ClassId) (ap0 : Nat) (ap2 : Nat) (n0 : Nat) (p0 : Nat → Int32) (n2 : Nat) (p2 : Nat → Int32) : va_W := [(ap0, rI cy n0 p0), (ap2, rI cy n2 p2)]
set_option maxHeartbeats 4000000 in
set_option maxRecDepth 100000 in
theorem kX9_copy (l : Launch) (D : va_G) (cy : Nat → ClassId) (sz : Nat) (ap0 : Nat) (ap2 : Nat) (n0 : Nat) (p0 : Nat → Int32) (n2 : Nat) (p2 : Nat → Int32) (x1 : Int32) (x3 : Int32) (x4 : Int32) (z_p2 : Nat → Int32) (hok : fX9_copy n0 p0 n2 p2 x1 x3 x4 = some z_p2) (A : Nat → Prop) (hAe : va_A (wX9_copy cy ap0 ap2 n0 p0 n2 p2) sz = A) : Met l yX9_copy wsX9_copy ({ frames := 0, cells := 0, slots := 0, locals := 0 } : Room) (kPre D cy [.ref ap0, .int x1, .ref ap2, .int x3, .int x4] (wX9_copy cy ap0 ap2 n0 p0 n2 p2) sz) (kQv D cy A (wX9_copy cy ap0 ap2 n0 p0 n2 z_p2)) 0 0 A := by
  refine Met.ofW (cc := cX9_copy) (maxL := 6) (ret := none) (by decide) rfl ?_
  intro p e s m args below meth c s₁ B hml hv
  obtain ⟨rfl, hsz, hP, hK, hD0, hN⟩ := hv
  have hx := B.exec
  have hb := B.bytes
  have hr := B.returns
  have ht0 : ∀ w ∈ W0, w.before _ s = true := fun w h => atoms_spec (ws := wsX9_copy) B.pre w (List.mem_cons_of_mem _ h)
  have hown : s.vm.findClass RX9 = some m.cls := findClass_of_methodNamed B.named
  have hlocks := B.notSynchronized
  subst hsz
  have hD : va_D A (wX9_copy cy ap0 ap2 n0 p0 n2 p2) := by rw [← hAe]; exact hD0.self
  have hA : ∀ q : Nat, s.heap.size ≤ q → A q := fun q h => by rw [← hAe]; exact Or.inr h
  have hS : va_S A s.heap s.heap [] := va_S.rf
  have hl := lv_entry ([.ref ap0, .int x1, .ref ap2, .int x3, .int x4]) (n := 6) (Nat.le_of_ble_eq_true rfl)
  rw [lg_entry_eq]
  generalize (lg_sl ([.ref ap0, .int x1, .ref ap2, .int x3, .int x4]) ++ List.replicate (6 - (lg_sl ([.ref ap0, .int x1, .ref ap2, .int x3, .int x4])).length) Slot.unset).toArray = ls at hl ⊢
  have hl : lv_has ls 6 [(0, .ref ap0), (1, .int x1), (2, .ref ap2), (3, .int x3), (4, .int x4)] := hl
  generalize hQe : MQ below (kQv D cy A (wX9_copy cy ap0 ap2 n0 p0 n2 z_p2)) ([.ref ap0, .int x1, .ref ap2, .int x3, .int x4] : List Value).toArray s 0 0 A = Q
  have L3 : ∀ (fuel : Nat) (y5_3 : Int32) (p2_3 : Nat → Int32), ∀ (H : Heap) (locs : List Loc) (ls : Array Slot), va_P D vwCl (wX9_copy cy ap0 ap2 n0 p0 n2 p2_3) H → va_D A (wX9_copy cy ap0 ap2 n0 p0 n2 p2_3) → va_S A s.heap H locs → lv_has ls 6 [(0, .ref ap0), (1, .int x1), (2, .ref ap2), (3, .int x3), (4, .int x4), (5, .int y5_3)] → lp (fX9_copy_B3 n0 p0 n2 x1 x3 x4) fuel (y5_3, p2_3) = some z_p2 → W p l e ({ frames := 0, cells := 0, slots := 0, locals := 0 } : Room) s m ([.ref ap0, .int x1, .ref ap2, .int x3, .int x4] : List Value).toArray below meth c H locs 0 0 Q (F0 m 3 ls []) := by
    intro fuel
    induction fuel with
    | zero => intro y5_3 p2_3 H locs ls hP hD hS hl hok; exact (lp_0 hok).elim
    | succ fuel ih3 =>
      intro y5_3 p2_3 H locs ls hP hD hS hl hok
      obtain ⟨y3, hok, hL3, hR3⟩ := lp_step hok
      unfold fX9_copy_B3 at hok
      try dsimp only at hok
      refine lv_iload hx hb dX9_copy_3 (lv_at hl 5 rfl) ?_
      refine lv_iload hx hb dX9_copy_5 (lv_at hl 4 rfl) ?_
      refine lv_icmp_ge (tgt := 28) hx hb dX9_copy_7 (by decide) (fun c7 => ?_) (fun c7 => ?_)
      · have hok := k_pos c7 hok
        obtain ⟨e3, hok, he3⟩ := ex_some hok
        have hok := hok.trans (congrArg some (hL3 _ he3))
        cases hok
        subst hQe; exact W.vret hx hb hr (fun t ht hW => ⟨⟨(), rfl, trivial, by rw [ht]; exact hP, va_K.moved hW.alike hK, hD⟩, hS.F ht⟩) hS.2.2 dX9_copy_28
      · have hok := k_neg c7 hok
        refine lv_aload_n hx hb dX9_copy_10 rfl (lv_at hl 2 rfl) ?_
        refine lv_iload_n hx hb dX9_copy_11 rfl (lv_at hl 3 rfl) ?_
        refine lv_iload hx hb dX9_copy_12 (lv_at hl 5 rfl) ?_
        refine lv_iadd hx hb dX9_copy_14 ?_
        refine lv_aload_n hx hb dX9_copy_15 rfl (lv_at hl 0 rfl) ?_
        refine lv_iload_n hx hb dX9_copy_16 rfl (lv_at hl 1 rfl) ?_
        refine lv_iload hx hb dX9_copy_17 (lv_at hl 5 rfl) ?_
        refine lv_iadd hx hb dX9_copy_19 ?_
        obtain ⟨g20, hok⟩ := gd_some hok
        refine va_iald hx hb hK hP 0 0 rfl rfl (okI_in g20) dX9_copy_20 ?_
        obtain ⟨g21, hok⟩ := gd_some hok
        refine va_iast hx hb hK hP hD hS 1 0 rfl rfl (okI_in g21) dX9_copy_21 (fun H locs hP hD hS => ?_)
        have hP : va_P D vwCl (wX9_copy cy ap0 ap2 n0 p0 n2 (upd p2_3 (x3 + y5_3).toNatClampNeg (p0 (x1 + y5_3).toNatClampNeg))) H := hP
        have hD : va_D A (wX9_copy cy ap0 ap2 n0 p0 n2 (upd p2_3 (x3 + y5_3).toNatClampNeg (p0 (x1 + y5_3).toNatClampNeg))) := hD
        refine lv_iinc (v := (y5_3 + 1)) (lv' := [(5, .int (y5_3 + 1)), (0, .ref ap0), (1, .int x1), (2, .ref ap2), (3, .int x3), (4, .int x4)]) hx hb dX9_copy_22 hl (k := 5) rfl (by first | rfl | decide) (by decide) rfl (fun ls hl => ?_)
        refine lv_goto (tgt := 3) hx hb dX9_copy_25 (by decide) ?_
        exact ih3 (y5_3 + 1) (upd p2_3 (x3 + y5_3).toNatClampNeg (p0 (x1 + y5_3).toNatClampNeg)) H locs ls hP hD hS (lv_sub hl [1, 2, 3, 4, 5, 0] rfl) (hR3 _ (Option.some.inj hok).symm)
  unfold fX9_copy at hok
  obtain ⟨H, hH⟩ : ∃ H, H = s.heap := ⟨_, rfl⟩
  obtain ⟨locs, hlc⟩ : ∃ x : List Loc, x = [] := ⟨_, rfl⟩
  have hP : va_P D vwCl (wX9_copy cy ap0 ap2 n0 p0 n2 p2) H := by rw [hH]; exact hP
  have hS : va_S A s.heap H locs := by rw [hH, hlc]; exact hS
  rw [show W p l e _ s m _ below meth c s.heap [] = W p l e _ s m _ below meth c H locs from by rw [hH, hlc]]
  refine lv_iconst (v := 0) hx hb dX9_copy_0 (by decide) ?_
  refine lv_istore (lv' := [(5, .int 0), (0, .ref ap0), (1, .int x1), (2, .ref ap2), (3, .int x3), (4, .int x4)]) hx hb dX9_copy_1 hl (by decide) rfl (fun ls hl => ?_)
  exact L3 5000 (0 : Int32) p2 H locs ls hP hD hS (lv_sub hl [1, 2, 3, 4, 5, 0] rfl) hok
def wsX9_feed : List Cond := .code yX9_feed cX9_feed 8 (some .int) :: W0
abbrev wX9_feed (cy : Nat → ClassId) (aM : Nat) (qM : Nat → Nat) (vM : Nat → Int32) (vM_tape : Nat → Int32) : va_W := [(aM, oX9 vM qM), (qM 1, rI cy 900 vM_tape)]
set_option maxHeartbeats 4000000 in
set_option maxRecDepth 100000 in
theorem kX9_feed (l : Launch) (D : va_G) (cy : Nat → ClassId) (sz : Nat) (aM : Nat) (qM : Nat → Nat) (vM : Nat → Int32) (vM_tape : Nat → Int32) (x1 : Int32) (x2 : Int32) (x3 : Int32) (x4 : Int32) (x5 : Int32) (zr : Int32) (z_vM : Nat → Int32) (z_vM_tape : Nat → Int32) (hok : fX9_feed vM vM_tape x1 x2 x3 x4 x5 = some (zr, z_vM, z_vM_tape)) (A : Nat → Prop) (hAe : va_A (wX9_feed cy aM qM vM vM_tape) sz = A) : Met l yX9_feed wsX9_feed ({ frames := 0, cells := 0, slots := 0, locals := 0 } : Room) (kPre D cy [.ref aM, .int x1, .int x2, .int x3, .int x4, .int x5] (wX9_feed cy aM qM vM vM_tape) sz) (kQi D cy zr A (wX9_feed cy aM qM z_vM z_vM_tape)) 0 0 A := by
  refine Met.ofW (cc := cX9_feed) (maxL := 8) (ret := (some .int)) (by decide) rfl ?_
  intro p e s m args below meth c s₁ B hml hv
  obtain ⟨rfl, hsz, hP, hK, hD0, hN⟩ := hv
  have hx := B.exec
  have hb := B.bytes
  have hr := B.returns
  have ht0 : ∀ w ∈ W0, w.before _ s = true := fun w h => atoms_spec (ws := wsX9_feed) B.pre w (List.mem_cons_of_mem _ h)
  have hown : s.vm.findClass RX9 = some m.cls := findClass_of_methodNamed B.named
  have hlocks := B.notSynchronized
  subst hsz
  have hD : va_D A (wX9_feed cy aM qM vM vM_tape) := by rw [← hAe]; exact hD0.self
  have hA : ∀ q : Nat, s.heap.size ≤ q → A q := fun q h => by rw [← hAe]; exact Or.inr h
  have hS : va_S A s.heap s.heap [] := va_S.rf
  have hl := lv_entry ([.ref aM, .int x1, .int x2, .int x3, .int x4, .int x5]) (n := 8) (Nat.le_of_ble_eq_true rfl)
  rw [lg_entry_eq]
  generalize (lg_sl ([.ref aM, .int x1, .int x2, .int x3, .int x4, .int x5]) ++ List.replicate (8 - (lg_sl ([.ref aM, .int x1, .int x2, .int x3, .int x4, .int x5])).length) Slot.unset).toArray = ls at hl ⊢
  have hl : lv_has ls 8 [(0, .ref aM), (1, .int x1), (2, .int x2), (3, .int x3), (4, .int x4), (5, .int x5)] := hl
  generalize hQe : MQ below (kQi D cy zr A (wX9_feed cy aM qM z_vM z_vM_tape)) ([.ref aM, .int x1, .int x2, .int x3, .int x4, .int x5] : List Value).toArray s 0 0 A = Q
  have L23 : ∀ (fuel : Nat) (y6_23 : Int32) (vM_tape_23 : Nat → Int32) (vM_23 : Nat → Int32), ∀ (H : Heap) (locs : List Loc) (ls : Array Slot), va_P D vwCl (wX9_feed cy aM qM vM_23 vM_tape_23) H → va_D A (wX9_feed cy aM qM vM_23 vM_tape_23) → va_S A s.heap H locs → lv_has ls 8 [(0, .ref aM), (1, .int x1), (2, .int x2), (3, .int x3), (4, .int x4), (5, .int x5), (6, .int y6_23)] → lp (fX9_feed_B23 x1 x2 x3 x4 x5) fuel (y6_23, vM_tape_23, vM_23) = some (zr, z_vM, z_vM_tape) → W p l e ({ frames := 0, cells := 0, slots := 0, locals := 0 } : Room) s m ([.ref aM, .int x1, .int x2, .int x3, .int x4, .int x5] : List Value).toArray below meth c H locs 0 0 Q (F0 m 23 ls []) := by
    intro fuel
    induction fuel with
    | zero => intro y6_23 vM_tape_23 vM_23 H locs ls hP hD hS hl hok; exact (lp_0 hok).elim
    | succ fuel ih23 =>
      intro y6_23 vM_tape_23 vM_23 H locs ls hP hD hS hl hok
      obtain ⟨y23, hok, hL23, hR23⟩ := lp_step hok
      have J76 : ∀ (t0_76 : Int32), ∀ (H : Heap) (locs : List Loc) (ls : Array Slot), va_P D vwCl (wX9_feed cy aM qM vM_23 vM_tape_23) H → va_D A (wX9_feed cy aM qM vM_23 vM_tape_23) → va_S A s.heap H locs → lv_has ls 8 [(0, .ref aM), (1, .int x1), (2, .int x2), (3, .int x3), (4, .int x4), (5, .int x5), (6, .int y6_23)] → fX9_feed_J76 y6_23 vM_tape_23 vM_23 t0_76 = some y23 → W p l e ({ frames := 0, cells := 0, slots := 0, locals := 0 } : Room) s m ([.ref aM, .int x1, .int x2, .int x3, .int x4, .int x5] : List Value).toArray below meth c H locs 0 0 Q (F0 m 76 ls [.int t0_76]) := by
        intro t0_76 H locs ls hP hD hS hl hok
        unfold fX9_feed_J76 at hok
        refine lv_istore (lv' := [(7, .int t0_76), (0, .ref aM), (1, .int x1), (2, .int x2), (3, .int x3), (4, .int x4), (5, .int x5), (6, .int y6_23)]) hx hb dX9_feed_76 hl (by decide) rfl (fun ls hl => ?_)
        refine lv_aload_n hx hb dX9_feed_78 rfl (lv_at hl 1 rfl) ?_
        refine va_get (D := D) (ci := 8) (v := .ref (qM 1)) (C := RX9) (T := TX9) (N := 29) hx hb ht0 niX9 hown hK hP 0 rfl rfl 1 (by decide) (ht0 _ wd737) (fun _ h9 => h9) rfl dX9_feed_79 ?_
        refine lv_aload_n hx hb dX9_feed_82 rfl (lv_at hl 1 rfl) ?_
        refine va_get (D := D) (ci := 8) (v := .int (vM_23 2)) (C := RX9) (T := TX9) (N := 29) hx hb ht0 niX9 hown hK hP 0 rfl rfl 2 (by decide) (ht0 _ wd738) (fun _ h9 => h9) rfl dX9_feed_83 ?_
        refine lv_iload hx hb dX9_feed_86 (lv_at hl 0 rfl) ?_
        refine lv_bipush (v := 24) hx hb dX9_feed_88 (by decide) ?_
        refine lv_bipush (v := 8) hx hb dX9_feed_90 (by decide) ?_
        refine lv_iload hx hb dX9_feed_92 (lv_at hl 7 rfl) ?_
        refine lv_iconst (v := 4) hx hb dX9_feed_94 (by decide) ?_
        refine lv_irem hx hb dX9_feed_95 (by decide) ?_
        refine lv_imul hx hb dX9_feed_96 ?_
        refine lv_isub hx hb dX9_feed_97 ?_
        refine lv_ishr hx hb dX9_feed_98 ?_
        refine lv_sipush (v := 255) hx hb dX9_feed_99 (by decide) ?_
        refine lv_iand hx hb dX9_feed_102 ?_
        obtain ⟨g103, hok⟩ := gd_some hok
        refine va_iast hx hb hK hP hD hS 1 0 rfl rfl (okI_in g103) dX9_feed_103 (fun H locs hP hD hS => ?_)
        have hP : va_P D vwCl (wX9_feed cy aM qM vM_23 (upd vM_tape_23 (vM_23 2).toNatClampNeg ((isr t0_76 ((24 : Int32) - ((8 : Int32) * (irm y6_23 (4 : Int32))))) &&& (255 : Int32)))) H := hP
        have hD : va_D A (wX9_feed cy aM qM vM_23 (upd vM_tape_23 (vM_23 2).toNatClampNeg ((isr t0_76 ((24 : Int32) - ((8 : Int32) * (irm y6_23 (4 : Int32))))) &&& (255 : Int32)))) := hD
        refine lv_aload_n hx hb dX9_feed_104 rfl (lv_at hl 1 rfl) ?_
        refine lv_dup hx hb dX9_feed_105 rfl ?_
        refine va_get (D := D) (ci := 8) (v := .int (vM_23 2)) (C := RX9) (T := TX9) (N := 29) hx hb ht0 niX9 hown hK hP 0 rfl rfl 2 (by decide) (ht0 _ wd738) (fun _ h9 => h9) rfl dX9_feed_106 ?_
        refine lv_iconst (v := 1) hx hb dX9_feed_109 (by decide) ?_
        refine lv_iadd hx hb dX9_feed_110 ?_
        refine va_put (D := D) (ci := 8) (v := .int ((vM_23 2) + (1 : Int32))) (ty := .int) (C := RX9) (T := TX9) (N := 29) hx hb ht0 niX9 tyX9 tyX9_ok nmX9 hown hK hP hD hS 0 rfl rfl 2 (by decide) (ht0 _ wd738) (fun _ h9 => h9) rfl (by decide +kernel) rfl rfl (Nat.le_of_ble_eq_true rfl) dX9_feed_111 (fun H locs hP hD hS => ?_)
        have hP : va_P D vwCl (wX9_feed cy aM qM (upd vM_23 2 ((vM_23 2) + (1 : Int32))) (upd vM_tape_23 (vM_23 2).toNatClampNeg ((isr t0_76 ((24 : Int32) - ((8 : Int32) * (irm y6_23 (4 : Int32))))) &&& (255 : Int32)))) H := hP
        have hD : va_D A (wX9_feed cy aM qM (upd vM_23 2 ((vM_23 2) + (1 : Int32))) (upd vM_tape_23 (vM_23 2).toNatClampNeg ((isr t0_76 ((24 : Int32) - ((8 : Int32) * (irm y6_23 (4 : Int32))))) &&& (255 : Int32)))) := hD
        refine lv_iinc (v := (y6_23 + 1)) (lv' := [(6, .int (y6_23 + 1)), (7, .int t0_76), (0, .ref aM), (1, .int x1), (2, .int x2), (3, .int x3), (4, .int x4), (5, .int x5)]) hx hb dX9_feed_114 hl (k := 7) rfl (by first | rfl | decide) (by decide) rfl (fun ls hl => ?_)
        refine lv_goto (tgt := 23) hx hb dX9_feed_117 (by decide) ?_
        exact ih23 (y6_23 + 1) (upd vM_tape_23 (vM_23 2).toNatClampNeg ((isr t0_76 ((24 : Int32) - ((8 : Int32) * (irm y6_23 (4 : Int32))))) &&& (255 : Int32))) (upd vM_23 2 ((vM_23 2) + (1 : Int32))) H locs ls hP hD hS (lv_sub hl [2, 3, 4, 5, 6, 7, 0] rfl) (hR23 _ (Option.some.inj hok).symm)
      unfold fX9_feed_B23 at hok
      try dsimp only at hok
      refine lv_iload hx hb dX9_feed_23 (lv_at hl 6 rfl) ?_
      refine lv_bipush (v := 20) hx hb dX9_feed_25 (by decide) ?_
      refine lv_icmp_ge (tgt := 120) hx hb dX9_feed_27 (by decide) (fun c27 => ?_) (fun c27 => ?_)
      · have hok := k_pos c27 hok
        obtain ⟨e23, hok, he23⟩ := ex_some hok
        have hok := hok.trans (congrArg some (hL23 _ he23))
        refine lv_aload_n hx hb dX9_feed_120 rfl (lv_at hl 0 rfl) ?_
        refine va_get (D := D) (ci := 8) (v := .int (vM_23 2)) (C := RX9) (T := TX9) (N := 29) hx hb ht0 niX9 hown hK hP 0 rfl rfl 2 (by decide) (ht0 _ wd738) (fun _ h9 => h9) rfl dX9_feed_121 ?_
        cases hok
        subst hQe; exact W.iret hx hb hr (fun t ht hW => ⟨⟨_, (), rfl, rfl, by rw [ht]; exact hP, va_K.moved hW.alike hK, hD⟩, hS.F ht⟩) hS.2.2 dX9_feed_124
      · have hok := k_neg c27 hok
        refine lv_iload hx hb dX9_feed_30 (lv_at hl 6 rfl) ?_
        refine lv_iconst (v := 4) hx hb dX9_feed_32 (by decide) ?_
        refine lv_icmp_ge (tgt := 40) hx hb dX9_feed_33 (by decide) (fun c33 => ?_) (fun c33 => ?_)
        · have hok := k_pos c33 hok
          refine lv_iload hx hb dX9_feed_40 (lv_at hl 6 rfl) ?_
          refine lv_bipush (v := 8) hx hb dX9_feed_42 (by decide) ?_
          refine lv_icmp_ge (tgt := 51) hx hb dX9_feed_44 (by decide) (fun c44 => ?_) (fun c44 => ?_)
          · have hok := k_pos c44 hok
            refine lv_iload hx hb dX9_feed_51 (lv_at hl 6 rfl) ?_
            refine lv_bipush (v := 12) hx hb dX9_feed_53 (by decide) ?_
            refine lv_icmp_ge (tgt := 62) hx hb dX9_feed_55 (by decide) (fun c55 => ?_) (fun c55 => ?_)
            · have hok := k_pos c55 hok
              refine lv_iload hx hb dX9_feed_62 (lv_at hl 6 rfl) ?_
              refine lv_bipush (v := 16) hx hb dX9_feed_64 (by decide) ?_
              refine lv_icmp_ge (tgt := 74) hx hb dX9_feed_66 (by decide) (fun c66 => ?_) (fun c66 => ?_)
              · have hok := k_pos c66 hok
                refine lv_iload hx hb dX9_feed_74 (lv_at hl 5 rfl) ?_
                exact J76 x5 H locs ls hP hD hS (lv_sub hl [0, 1, 2, 3, 4, 5, 6] rfl) hok
              · have hok := k_neg c66 hok
                refine lv_iload hx hb dX9_feed_69 (lv_at hl 4 rfl) ?_
                refine lv_goto (tgt := 76) hx hb dX9_feed_71 (by decide) ?_
                exact J76 x4 H locs ls hP hD hS (lv_sub hl [0, 1, 2, 3, 4, 5, 6] rfl) hok
            · have hok := k_neg c55 hok
              refine lv_iload_n hx hb dX9_feed_58 rfl (lv_at hl 3 rfl) ?_
              refine lv_goto (tgt := 76) hx hb dX9_feed_59 (by decide) ?_
              exact J76 x3 H locs ls hP hD hS (lv_sub hl [0, 1, 2, 3, 4, 5, 6] rfl) hok
          · have hok := k_neg c44 hok
            refine lv_iload_n hx hb dX9_feed_47 rfl (lv_at hl 2 rfl) ?_
            refine lv_goto (tgt := 76) hx hb dX9_feed_48 (by decide) ?_
            exact J76 x2 H locs ls hP hD hS (lv_sub hl [0, 1, 2, 3, 4, 5, 6] rfl) hok
        · have hok := k_neg c33 hok
          refine lv_iload_n hx hb dX9_feed_36 rfl (lv_at hl 1 rfl) ?_
          refine lv_goto (tgt := 76) hx hb dX9_feed_37 (by decide) ?_
          exact J76 x1 H locs ls hP hD hS (lv_sub hl [0, 1, 2, 3, 4, 5, 6] rfl) hok
  unfold fX9_feed at hok
  obtain ⟨H, hH⟩ : ∃ H, H = s.heap := ⟨_, rfl⟩
  obtain ⟨locs, hlc⟩ : ∃ x : List Loc, x = [] := ⟨_, rfl⟩
  have hP : va_P D vwCl (wX9_feed cy aM qM vM vM_tape) H := by rw [hH]; exact hP
  have hS : va_S A s.heap H locs := by rw [hH, hlc]; exact hS
  rw [show W p l e _ s m _ below meth c s.heap [] = W p l e _ s m _ below meth c H locs from by rw [hH, hlc]]
  refine lv_aload_n hx hb dX9_feed_0 rfl (lv_at hl 0 rfl) ?_
  refine lv_iconst (v := 0) hx hb dX9_feed_1 (by decide) ?_
  refine va_put (D := D) (ci := 8) (v := .int 0) (ty := .int) (C := RX9) (T := TX9) (N := 29) hx hb ht0 niX9 tyX9 tyX9_ok nmX9 hown hK hP hD hS 0 rfl rfl 0 (by decide) (ht0 _ wd735) (fun _ h9 => h9) rfl (by decide +kernel) rfl rfl (Nat.le_of_ble_eq_true rfl) dX9_feed_2 (fun H locs hP hD hS => ?_)
  have hP : va_P D vwCl (wX9_feed cy aM qM (upd vM 0 (0 : Int32)) vM_tape) H := hP
  have hD : va_D A (wX9_feed cy aM qM (upd vM 0 (0 : Int32)) vM_tape) := hD
  refine lv_aload_n hx hb dX9_feed_5 rfl (lv_at hl 0 rfl) ?_
  refine va_get (D := D) (ci := 8) (v := .int (vM 2)) (C := RX9) (T := TX9) (N := 29) hx hb ht0 niX9 hown hK hP 0 rfl rfl 2 (by decide) (ht0 _ wd738) (fun _ h9 => h9) rfl dX9_feed_6 ?_
  refine lv_bipush (v := 20) hx hb dX9_feed_9 (by decide) ?_
  refine lv_iadd hx hb dX9_feed_11 ?_
  refine lv_sipush (v := 900) hx hb dX9_feed_12 (by decide) ?_
  refine lv_icmp_le (tgt := 20) hx hb dX9_feed_15 (by decide) (fun c15 => ?_) (fun c15 => ?_)
  · have hok := k_pos c15 hok
    refine lv_iconst (v := 0) hx hb dX9_feed_20 (by decide) ?_
    refine lv_istore (lv' := [(6, .int 0), (0, .ref aM), (1, .int x1), (2, .int x2), (3, .int x3), (4, .int x4), (5, .int x5)]) hx hb dX9_feed_21 hl (by decide) rfl (fun ls hl => ?_)
    exact L23 5000 (0 : Int32) vM_tape (upd vM 0 (0 : Int32)) H locs ls hP hD hS (lv_sub hl [1, 2, 3, 4, 5, 6, 0] rfl) hok
  · have hok := k_neg c15 hok
    refine lv_iconst (v := -1) hx hb dX9_feed_18 (by decide) ?_
    cases hok
    subst hQe; exact W.iret hx hb hr (fun t ht hW => ⟨⟨_, (), rfl, rfl, by rw [ht]; exact hP, va_K.moved hW.alike hK, hD⟩, hS.F ht⟩) hS.2.2 dX9_feed_19
def wsX9_look1 : List Cond := .code yX9_look1 cX9_look1 2 (some .int) :: W0
abbrev wX9_look1 (cy : Nat → ClassId) (aM : Nat) (qM : Nat → Nat) (vM : Nat → Int32) (vM_tape : Nat → Int32) : va_W := [(aM, oX9 vM qM), (qM 1, rI cy 900 vM_tape)]
set_option maxHeartbeats 4000000 in
set_option maxRecDepth 100000 in
theorem kX9_look1 (l : Launch) (D : va_G) (cy : Nat → ClassId) (sz : Nat) (aM : Nat) (qM : Nat → Nat) (vM : Nat → Int32) (vM_tape : Nat → Int32) (x1 : Int32) (zr : Int32) (hok : fX9_look1 vM vM_tape x1 = some zr) (A : Nat → Prop) (hAe : va_A (wX9_look1 cy aM qM vM vM_tape) sz = A) : Met l yX9_look1 wsX9_look1 ({ frames := 0, cells := 0, slots := 0, locals := 0 } : Room) (kPre D cy [.ref aM, .int x1] (wX9_look1 cy aM qM vM vM_tape) sz) (kQi D cy zr A (wX9_look1 cy aM qM vM vM_tape)) 0 0 A := by
  refine Met.ofW (cc := cX9_look1) (maxL := 2) (ret := (some .int)) (by decide) rfl ?_
  intro p e s m args below meth c s₁ B hml hv
  obtain ⟨rfl, hsz, hP, hK, hD0, hN⟩ := hv
  have hx := B.exec
  have hb := B.bytes
  have hr := B.returns
  have ht0 : ∀ w ∈ W0, w.before _ s = true := fun w h => atoms_spec (ws := wsX9_look1) B.pre w (List.mem_cons_of_mem _ h)
  have hown : s.vm.findClass RX9 = some m.cls := findClass_of_methodNamed B.named
  have hlocks := B.notSynchronized
  subst hsz
  have hD : va_D A (wX9_look1 cy aM qM vM vM_tape) := by rw [← hAe]; exact hD0.self
  have hA : ∀ q : Nat, s.heap.size ≤ q → A q := fun q h => by rw [← hAe]; exact Or.inr h
  have hS : va_S A s.heap s.heap [] := va_S.rf
  have hl := lv_entry ([.ref aM, .int x1]) (n := 2) (Nat.le_of_ble_eq_true rfl)
  rw [lg_entry_eq]
  generalize (lg_sl ([.ref aM, .int x1]) ++ List.replicate (2 - (lg_sl ([.ref aM, .int x1])).length) Slot.unset).toArray = ls at hl ⊢
  have hl : lv_has ls 2 [(0, .ref aM), (1, .int x1)] := hl
  generalize hQe : MQ below (kQi D cy zr A (wX9_look1 cy aM qM vM vM_tape)) ([.ref aM, .int x1] : List Value).toArray s 0 0 A = Q
  have J18 : ∀ (t0_18 : Int32), ∀ (H : Heap) (locs : List Loc) (ls : Array Slot), va_P D vwCl (wX9_look1 cy aM qM vM vM_tape) H → va_D A (wX9_look1 cy aM qM vM vM_tape) → va_S A s.heap H locs → lv_has ls 2 [] → fX9_look1_J18 t0_18 = some zr → W p l e ({ frames := 0, cells := 0, slots := 0, locals := 0 } : Room) s m ([.ref aM, .int x1] : List Value).toArray below meth c H locs 0 0 Q (F0 m 18 ls [.int t0_18]) := by
    intro t0_18 H locs ls hP hD hS hl hok
    unfold fX9_look1_J18 at hok
    cases hok
    subst hQe; exact W.iret hx hb hr (fun t ht hW => ⟨⟨_, (), rfl, rfl, by rw [ht]; exact hP, va_K.moved hW.alike hK, hD⟩, hS.F ht⟩) hS.2.2 dX9_look1_18
  unfold fX9_look1 at hok
  obtain ⟨H, hH⟩ : ∃ H, H = s.heap := ⟨_, rfl⟩
  obtain ⟨locs, hlc⟩ : ∃ x : List Loc, x = [] := ⟨_, rfl⟩
  have hP : va_P D vwCl (wX9_look1 cy aM qM vM vM_tape) H := by rw [hH]; exact hP
  have hS : va_S A s.heap H locs := by rw [hH, hlc]; exact hS
  rw [show W p l e _ s m _ below meth c s.heap [] = W p l e _ s m _ below meth c H locs from by rw [hH, hlc]]
  refine lv_iload_n hx hb dX9_look1_0 rfl (lv_at hl 1 rfl) ?_
  refine lv_aload_n hx hb dX9_look1_1 rfl (lv_at hl 0 rfl) ?_
  refine va_get (D := D) (ci := 8) (v := .int (vM 3)) (C := RX9) (T := TX9) (N := 29) hx hb ht0 niX9 hown hK hP 0 rfl rfl 3 (by decide) (ht0 _ wd739) (fun _ h9 => h9) rfl dX9_look1_2 ?_
  refine lv_icmp_ge (tgt := 17) hx hb dX9_look1_5 (by decide) (fun c5 => ?_) (fun c5 => ?_)
  · have hok := k_pos c5 hok
    refine lv_iconst (v := -1) hx hb dX9_look1_17 (by decide) ?_
    exact J18 (-1 : Int32) H locs ls hP hD hS (lv_sub hl [] rfl) hok
  · have hok := k_neg c5 hok
    refine lv_aload_n hx hb dX9_look1_8 rfl (lv_at hl 0 rfl) ?_
    refine va_get (D := D) (ci := 8) (v := .ref (qM 1)) (C := RX9) (T := TX9) (N := 29) hx hb ht0 niX9 hown hK hP 0 rfl rfl 1 (by decide) (ht0 _ wd737) (fun _ h9 => h9) rfl dX9_look1_9 ?_
    refine lv_iload_n hx hb dX9_look1_12 rfl (lv_at hl 1 rfl) ?_
    obtain ⟨g13, hok⟩ := gd_some hok
    refine va_iald hx hb hK hP 1 0 rfl rfl (okI_in g13) dX9_look1_13 ?_
    refine lv_goto (tgt := 18) hx hb dX9_look1_14 (by decide) ?_
    exact J18 (vM_tape x1.toNatClampNeg) H locs ls hP hD hS (lv_sub hl [] rfl) hok
def wsX9_isSmall : List Cond := .code yX9_isSmall cX9_isSmall 1 (some .boolean) :: W0
abbrev wX9_isSmall (cy : Nat → ClassId)  : va_W := []
set_option maxHeartbeats 4000000 in
set_option maxRecDepth 100000 in
theorem kX9_isSmall (l : Launch) (D : va_G) (cy : Nat → ClassId) (sz : Nat) (x0 : Int32) (zr : Int32) (hok : fX9_isSmall x0 = some zr) (A : Nat → Prop) (hAe : va_A (wX9_isSmall cy ) sz = A) : Met l yX9_isSmall wsX9_isSmall ({ frames := 0, cells := 0, slots := 0, locals := 0 } : Room) (kPre D cy [.int x0] (wX9_isSmall cy ) sz) (kQi D cy zr A (wX9_isSmall cy )) 0 0 A := by
  refine Met.ofW (cc := cX9_isSmall) (maxL := 1) (ret := (some .boolean)) (by decide) rfl ?_
  intro p e s m args below meth c s₁ B hml hv
  obtain ⟨rfl, hsz, hP, hK, hD0, hN⟩ := hv
  have hx := B.exec
  have hb := B.bytes
  have hr := B.returns
  have ht0 : ∀ w ∈ W0, w.before _ s = true := fun w h => atoms_spec (ws := wsX9_isSmall) B.pre w (List.mem_cons_of_mem _ h)
  have hown : s.vm.findClass RX9 = some m.cls := findClass_of_methodNamed B.named
  have hlocks := B.notSynchronized
  subst hsz
  have hD : va_D A (wX9_isSmall cy ) := by rw [← hAe]; exact hD0.self
  have hA : ∀ q : Nat, s.heap.size ≤ q → A q := fun q h => by rw [← hAe]; exact Or.inr h
  have hS : va_S A s.heap s.heap [] := va_S.rf
  have hl := lv_entry ([.int x0]) (n := 1) (Nat.le_of_ble_eq_true rfl)
  rw [lg_entry_eq]
  generalize (lg_sl ([.int x0]) ++ List.replicate (1 - (lg_sl ([.int x0])).length) Slot.unset).toArray = ls at hl ⊢
  have hl : lv_has ls 1 [(0, .int x0)] := hl
  generalize hQe : MQ below (kQi D cy zr A (wX9_isSmall cy )) ([.int x0] : List Value).toArray s 0 0 A = Q
  have J17 : ∀ (t0_17 : Int32), ∀ (H : Heap) (locs : List Loc) (ls : Array Slot), va_P D vwCl (wX9_isSmall cy ) H → va_D A (wX9_isSmall cy ) → va_S A s.heap H locs → lv_has ls 1 [] → fX9_isSmall_J17 t0_17 = some zr → W p l e ({ frames := 0, cells := 0, slots := 0, locals := 0 } : Room) s m ([.int x0] : List Value).toArray below meth c H locs 0 0 Q (F0 m 17 ls [.int t0_17]) := by
    intro t0_17 H locs ls hP hD hS hl hok
    unfold fX9_isSmall_J17 at hok
    obtain ⟨g17, hok⟩ := gd_some hok
    cases hok
    subst hQe; exact W.zret hx hb hr (isB_nar g17) (fun t ht hW => ⟨⟨_, (), rfl, rfl, by rw [ht]; exact hP, va_K.moved hW.alike hK, hD⟩, hS.F ht⟩) hS.2.2 dX9_isSmall_17
  have J16 : ∀ (H : Heap) (locs : List Loc) (ls : Array Slot), va_P D vwCl (wX9_isSmall cy ) H → va_D A (wX9_isSmall cy ) → va_S A s.heap H locs → lv_has ls 1 [] → fX9_isSmall_J16 = some zr → W p l e ({ frames := 0, cells := 0, slots := 0, locals := 0 } : Room) s m ([.int x0] : List Value).toArray below meth c H locs 0 0 Q (F0 m 16 ls []) := by
    intro  H locs ls hP hD hS hl hok
    unfold fX9_isSmall_J16 at hok
    refine lv_iconst (v := 0) hx hb dX9_isSmall_16 (by decide) ?_
    exact J17 (0 : Int32) H locs ls hP hD hS (lv_sub hl [] rfl) hok
  unfold fX9_isSmall at hok
  obtain ⟨H, hH⟩ : ∃ H, H = s.heap := ⟨_, rfl⟩
  obtain ⟨locs, hlc⟩ : ∃ x : List Loc, x = [] := ⟨_, rfl⟩
  have hP : va_P D vwCl (wX9_isSmall cy ) H := by rw [hH]; exact hP
  have hS : va_S A s.heap H locs := by rw [hH, hlc]; exact hS
  rw [show W p l e _ s m _ below meth c s.heap [] = W p l e _ s m _ below meth c H locs from by rw [hH, hlc]]
  refine lv_iload_n hx hb dX9_isSmall_0 rfl (lv_at hl 0 rfl) ?_
  refine lv_bipush (v := 97) hx hb dX9_isSmall_1 (by decide) ?_
  refine lv_icmp_lt (tgt := 16) hx hb dX9_isSmall_3 (by decide) (fun c3 => ?_) (fun c3 => ?_)
  · have hok := k_pos c3 hok
    exact J16  H locs ls hP hD hS (lv_sub hl [] rfl) hok
  · have hok := k_neg c3 hok
    refine lv_iload_n hx hb dX9_isSmall_6 rfl (lv_at hl 0 rfl) ?_
    refine lv_bipush (v := 122) hx hb dX9_isSmall_7 (by decide) ?_
    refine lv_icmp_gt (tgt := 16) hx hb dX9_isSmall_9 (by decide) (fun c9 => ?_) (fun c9 => ?_)
    · have hok := k_pos c9 hok
      exact J16  H locs ls hP hD hS (lv_sub hl [] rfl) hok
    · have hok := k_neg c9 hok
      refine lv_iconst (v := 1) hx hb dX9_isSmall_12 (by decide) ?_
      refine lv_goto (tgt := 17) hx hb dX9_isSmall_13 (by decide) ?_
      exact J17 (1 : Int32) H locs ls hP hD hS (lv_sub hl [] rfl) hok
def wsX9_isDigit : List Cond := .code yX9_isDigit cX9_isDigit 1 (some .boolean) :: W0
abbrev wX9_isDigit (cy : Nat → ClassId)  : va_W := []
set_option maxHeartbeats 4000000 in
set_option maxRecDepth 100000 in
theorem kX9_isDigit (l : Launch) (D : va_G) (cy : Nat → ClassId) (sz : Nat) (x0 : Int32) (zr : Int32) (hok : fX9_isDigit x0 = some zr) (A : Nat → Prop) (hAe : va_A (wX9_isDigit cy ) sz = A) : Met l yX9_isDigit wsX9_isDigit ({ frames := 0, cells := 0, slots := 0, locals := 0 } : Room) (kPre D cy [.int x0] (wX9_isDigit cy ) sz) (kQi D cy zr A (wX9_isDigit cy )) 0 0 A := by
  refine Met.ofW (cc := cX9_isDigit) (maxL := 1) (ret := (some .boolean)) (by decide) rfl ?_
  intro p e s m args below meth c s₁ B hml hv
  obtain ⟨rfl, hsz, hP, hK, hD0, hN⟩ := hv
  have hx := B.exec
  have hb := B.bytes
  have hr := B.returns
  have ht0 : ∀ w ∈ W0, w.before _ s = true := fun w h => atoms_spec (ws := wsX9_isDigit) B.pre w (List.mem_cons_of_mem _ h)
  have hown : s.vm.findClass RX9 = some m.cls := findClass_of_methodNamed B.named
  have hlocks := B.notSynchronized
  subst hsz
  have hD : va_D A (wX9_isDigit cy ) := by rw [← hAe]; exact hD0.self
  have hA : ∀ q : Nat, s.heap.size ≤ q → A q := fun q h => by rw [← hAe]; exact Or.inr h
  have hS : va_S A s.heap s.heap [] := va_S.rf
  have hl := lv_entry ([.int x0]) (n := 1) (Nat.le_of_ble_eq_true rfl)
  rw [lg_entry_eq]
  generalize (lg_sl ([.int x0]) ++ List.replicate (1 - (lg_sl ([.int x0])).length) Slot.unset).toArray = ls at hl ⊢
  have hl : lv_has ls 1 [(0, .int x0)] := hl
  generalize hQe : MQ below (kQi D cy zr A (wX9_isDigit cy )) ([.int x0] : List Value).toArray s 0 0 A = Q
  have J17 : ∀ (t0_17 : Int32), ∀ (H : Heap) (locs : List Loc) (ls : Array Slot), va_P D vwCl (wX9_isDigit cy ) H → va_D A (wX9_isDigit cy ) → va_S A s.heap H locs → lv_has ls 1 [] → fX9_isDigit_J17 t0_17 = some zr → W p l e ({ frames := 0, cells := 0, slots := 0, locals := 0 } : Room) s m ([.int x0] : List Value).toArray below meth c H locs 0 0 Q (F0 m 17 ls [.int t0_17]) := by
    intro t0_17 H locs ls hP hD hS hl hok
    unfold fX9_isDigit_J17 at hok
    obtain ⟨g17, hok⟩ := gd_some hok
    cases hok
    subst hQe; exact W.zret hx hb hr (isB_nar g17) (fun t ht hW => ⟨⟨_, (), rfl, rfl, by rw [ht]; exact hP, va_K.moved hW.alike hK, hD⟩, hS.F ht⟩) hS.2.2 dX9_isDigit_17
  have J16 : ∀ (H : Heap) (locs : List Loc) (ls : Array Slot), va_P D vwCl (wX9_isDigit cy ) H → va_D A (wX9_isDigit cy ) → va_S A s.heap H locs → lv_has ls 1 [] → fX9_isDigit_J16 = some zr → W p l e ({ frames := 0, cells := 0, slots := 0, locals := 0 } : Room) s m ([.int x0] : List Value).toArray below meth c H locs 0 0 Q (F0 m 16 ls []) := by
    intro  H locs ls hP hD hS hl hok
    unfold fX9_isDigit_J16 at hok
    refine lv_iconst (v := 0) hx hb dX9_isDigit_16 (by decide) ?_
    exact J17 (0 : Int32) H locs ls hP hD hS (lv_sub hl [] rfl) hok
  unfold fX9_isDigit at hok
  obtain ⟨H, hH⟩ : ∃ H, H = s.heap := ⟨_, rfl⟩
  obtain ⟨locs, hlc⟩ : ∃ x : List Loc, x = [] := ⟨_, rfl⟩
  have hP : va_P D vwCl (wX9_isDigit cy ) H := by rw [hH]; exact hP
  have hS : va_S A s.heap H locs := by rw [hH, hlc]; exact hS
  rw [show W p l e _ s m _ below meth c s.heap [] = W p l e _ s m _ below meth c H locs from by rw [hH, hlc]]
  refine lv_iload_n hx hb dX9_isDigit_0 rfl (lv_at hl 0 rfl) ?_
  refine lv_bipush (v := 48) hx hb dX9_isDigit_1 (by decide) ?_
  refine lv_icmp_lt (tgt := 16) hx hb dX9_isDigit_3 (by decide) (fun c3 => ?_) (fun c3 => ?_)
  · have hok := k_pos c3 hok
    exact J16  H locs ls hP hD hS (lv_sub hl [] rfl) hok
  · have hok := k_neg c3 hok
    refine lv_iload_n hx hb dX9_isDigit_6 rfl (lv_at hl 0 rfl) ?_
    refine lv_bipush (v := 57) hx hb dX9_isDigit_7 (by decide) ?_
    refine lv_icmp_gt (tgt := 16) hx hb dX9_isDigit_9 (by decide) (fun c9 => ?_) (fun c9 => ?_)
    · have hok := k_pos c9 hok
      exact J16  H locs ls hP hD hS (lv_sub hl [] rfl) hok
    · have hok := k_neg c9 hok
      refine lv_iconst (v := 1) hx hb dX9_isDigit_12 (by decide) ?_
      refine lv_goto (tgt := 17) hx hb dX9_isDigit_13 (by decide) ?_
      exact J17 (1 : Int32) H locs ls hP hD hS (lv_sub hl [] rfl) hok
def wsX9_next : List Cond := .code yX9_next cX9_next 4 none :: W0
abbrev wX9_next (cy : Nat → ClassId) (aM : Nat) (qM : Nat → Nat) (vM : Nat → Int32) (vM_tape : Nat → Int32) (vM_letters : Nat → Int32) : va_W := [(aM, oX9 vM qM), (qM 1, rI cy 900 vM_tape), (qM 12, rI cy 8 vM_letters)]
set_option maxHeartbeats 4000000 in
set_option maxRecDepth 100000 in
theorem kX9_next (l : Launch) (D : va_G) (cy : Nat → ClassId) (sz : Nat) (aM : Nat) (qM : Nat → Nat) (vM : Nat → Int32) (vM_tape : Nat → Int32) (vM_letters : Nat → Int32) (z_vM : Nat → Int32) (z_vM_letters : Nat → Int32) (hok : fX9_next vM vM_tape vM_letters = some (z_vM, z_vM_letters)) (A : Nat → Prop) (hAe : va_A (wX9_next cy aM qM vM vM_tape vM_letters) sz = A) : Met l yX9_next wsX9_next ({ frames := 1, cells := 0, slots := 0, locals := 21 } : Room) (kPre D cy [.ref aM] (wX9_next cy aM qM vM vM_tape vM_letters) sz) (kQv D cy A (wX9_next cy aM qM z_vM vM_tape z_vM_letters)) 0 0 A := by
  refine Met.ofW (cc := cX9_next) (maxL := 4) (ret := none) (by decide) rfl ?_
  intro p e s m args below meth c s₁ B hml hv
  obtain ⟨rfl, hsz, hP, hK, hD0, hN⟩ := hv
  have hx := B.exec
  have hb := B.bytes
  have hr := B.returns
  have ht0 : ∀ w ∈ W0, w.before _ s = true := fun w h => atoms_spec (ws := wsX9_next) B.pre w (List.mem_cons_of_mem _ h)
  have hown : s.vm.findClass RX9 = some m.cls := findClass_of_methodNamed B.named
  have hlocks := B.notSynchronized
  subst hsz
  have hD : va_D A (wX9_next cy aM qM vM vM_tape vM_letters) := by rw [← hAe]; exact hD0.self
  have hA : ∀ q : Nat, s.heap.size ≤ q → A q := fun q h => by rw [← hAe]; exact Or.inr h
  have hS : va_S A s.heap s.heap [] := va_S.rf
  have hl := lv_entry ([.ref aM]) (n := 4) (Nat.le_of_ble_eq_true rfl)
  rw [lg_entry_eq]
  generalize (lg_sl ([.ref aM]) ++ List.replicate (4 - (lg_sl ([.ref aM])).length) Slot.unset).toArray = ls at hl ⊢
  have hl : lv_has ls 4 [(0, .ref aM)] := hl
  generalize hQe : MQ below (kQv D cy A (wX9_next cy aM qM z_vM vM_tape z_vM_letters)) ([.ref aM] : List Value).toArray s 0 0 A = Q
  have J241 : ∀ (vM_letters_241 : Nat → Int32) (vM_241 : Nat → Int32), ∀ (H : Heap) (locs : List Loc) (ls : Array Slot), va_P D vwCl (wX9_next cy aM qM vM_241 vM_tape vM_letters_241) H → va_D A (wX9_next cy aM qM vM_241 vM_tape vM_letters_241) → va_S A s.heap H locs → lv_has ls 4 [] → fX9_next_J241 vM_letters_241 vM_241 = some (z_vM, z_vM_letters) → W p l e ({ frames := 1, cells := 0, slots := 0, locals := 21 } : Room) s m ([.ref aM] : List Value).toArray below meth c H locs 0 0 Q (F0 m 241 ls []) := by
    intro vM_letters_241 vM_241 H locs ls hP hD hS hl hok
    unfold fX9_next_J241 at hok
    cases hok
    subst hQe; exact W.vret hx hb hr (fun t ht hW => ⟨⟨(), rfl, trivial, by rw [ht]; exact hP, va_K.moved hW.alike hK, hD⟩, hS.F ht⟩) hS.2.2 dX9_next_241
  have J238 : ∀ (t0_238 : Int32) (vM_238 : Nat → Int32), ∀ (H : Heap) (locs : List Loc) (ls : Array Slot), va_P D vwCl (wX9_next cy aM qM vM_238 vM_tape vM_letters) H → va_D A (wX9_next cy aM qM vM_238 vM_tape vM_letters) → va_S A s.heap H locs → lv_has ls 4 [] → fX9_next_J238 vM_letters t0_238 vM_238 = some (z_vM, z_vM_letters) → W p l e ({ frames := 1, cells := 0, slots := 0, locals := 21 } : Room) s m ([.ref aM] : List Value).toArray below meth c H locs 0 0 Q (F0 m 238 ls [.int t0_238, .ref aM]) := by
    intro t0_238 vM_238 H locs ls hP hD hS hl hok
    unfold fX9_next_J238 at hok
    refine va_put (D := D) (ci := 8) (v := .int t0_238) (ty := .int) (C := RX9) (T := TX9) (N := 29) hx hb ht0 niX9 tyX9 tyX9_ok nmX9 hown hK hP hD hS 0 rfl rfl 6 (by decide) (ht0 _ wd740) (fun _ h9 => h9) rfl (by decide +kernel) rfl rfl (Nat.le_of_ble_eq_true rfl) dX9_next_238 (fun H locs hP hD hS => ?_)
    have hP : va_P D vwCl (wX9_next cy aM qM (upd vM_238 6 t0_238) vM_tape vM_letters) H := hP
    have hD : va_D A (wX9_next cy aM qM (upd vM_238 6 t0_238) vM_tape vM_letters) := hD
    exact J241 vM_letters (upd vM_238 6 t0_238) H locs ls hP hD hS (lv_sub hl [] rfl) hok
  have J213 : ∀ (t0_213 : Int32) (vM_213 : Nat → Int32), ∀ (H : Heap) (locs : List Loc) (ls : Array Slot), va_P D vwCl (wX9_next cy aM qM vM_213 vM_tape vM_letters) H → va_D A (wX9_next cy aM qM vM_213 vM_tape vM_letters) → va_S A s.heap H locs → lv_has ls 4 [] → fX9_next_J213 vM_letters t0_213 vM_213 = some (z_vM, z_vM_letters) → W p l e ({ frames := 1, cells := 0, slots := 0, locals := 21 } : Room) s m ([.ref aM] : List Value).toArray below meth c H locs 0 0 Q (F0 m 213 ls [.int t0_213, .ref aM]) := by
    intro t0_213 vM_213 H locs ls hP hD hS hl hok
    unfold fX9_next_J213 at hok
    refine va_put (D := D) (ci := 8) (v := .int t0_213) (ty := .int) (C := RX9) (T := TX9) (N := 29) hx hb ht0 niX9 tyX9 tyX9_ok nmX9 hown hK hP hD hS 0 rfl rfl 6 (by decide) (ht0 _ wd740) (fun _ h9 => h9) rfl (by decide +kernel) rfl rfl (Nat.le_of_ble_eq_true rfl) dX9_next_213 (fun H locs hP hD hS => ?_)
    have hP : va_P D vwCl (wX9_next cy aM qM (upd vM_213 6 t0_213) vM_tape vM_letters) H := hP
    have hD : va_D A (wX9_next cy aM qM (upd vM_213 6 t0_213) vM_tape vM_letters) := hD
    refine lv_goto (tgt := 241) hx hb dX9_next_216 (by decide) ?_
    exact J241 vM_letters (upd vM_213 6 t0_213) H locs ls hP hD hS (lv_sub hl [] rfl) hok
  have L152 : ∀ (fuel : Nat) (y1_152 : Int32) (y3_152 : Int32) (vM_152 : Nat → Int32), ∀ (H : Heap) (locs : List Loc) (ls : Array Slot), va_P D vwCl (wX9_next cy aM qM vM_152 vM_tape vM_letters) H → va_D A (wX9_next cy aM qM vM_152 vM_tape vM_letters) → va_S A s.heap H locs → lv_has ls 4 [(0, .ref aM), (1, .int y1_152), (3, .int y3_152)] → lp (fX9_next_B152 vM_tape vM_letters) fuel (y1_152, y3_152, vM_152) = some (z_vM, z_vM_letters) → W p l e ({ frames := 1, cells := 0, slots := 0, locals := 21 } : Room) s m ([.ref aM] : List Value).toArray below meth c H locs 0 0 Q (F0 m 152 ls []) := by
    intro fuel
    induction fuel with
    | zero => intro y1_152 y3_152 vM_152 H locs ls hP hD hS hl hok; exact (lp_0 hok).elim
    | succ fuel ih152 =>
      intro y1_152 y3_152 vM_152 H locs ls hP hD hS hl hok
      obtain ⟨y152, hok, hL152, hR152⟩ := lp_step hok
      have J188 : ∀ (vM_188 : Nat → Int32), ∀ (H : Heap) (locs : List Loc) (ls : Array Slot), va_P D vwCl (wX9_next cy aM qM vM_188 vM_tape vM_letters) H → va_D A (wX9_next cy aM qM vM_188 vM_tape vM_letters) → va_S A s.heap H locs → lv_has ls 4 [(0, .ref aM), (1, .int y1_152), (3, .int y3_152)] → fX9_next_J188 y1_152 y3_152 vM_188 = some y152 → W p l e ({ frames := 1, cells := 0, slots := 0, locals := 21 } : Room) s m ([.ref aM] : List Value).toArray below meth c H locs 0 0 Q (F0 m 188 ls []) := by
        intro vM_188 H locs ls hP hD hS hl hok
        unfold fX9_next_J188 at hok
        refine lv_iinc (v := (y3_152 + 1)) (lv' := [(3, .int (y3_152 + 1)), (0, .ref aM), (1, .int y1_152)]) hx hb dX9_next_188 hl (k := 2) rfl (by first | rfl | decide) (by decide) rfl (fun ls hl => ?_)
        refine lv_iinc (v := (y1_152 + 1)) (lv' := [(1, .int (y1_152 + 1)), (3, .int (y3_152 + 1)), (0, .ref aM)]) hx hb dX9_next_191 hl (k := 2) rfl (by first | rfl | decide) (by decide) rfl (fun ls hl => ?_)
        refine lv_goto (tgt := 152) hx hb dX9_next_194 (by decide) ?_
        exact ih152 (y1_152 + 1) (y3_152 + 1) vM_188 H locs ls hP hD hS (lv_sub hl [2, 0, 1] rfl) (hR152 _ (Option.some.inj hok).symm)
      unfold fX9_next_B152 at hok
      try dsimp only at hok
      refine lv_aload_n hx hb dX9_next_152 rfl (lv_at hl 0 rfl) ?_
      refine lv_iload_n hx hb dX9_next_153 rfl (lv_at hl 1 rfl) ?_
      obtain ⟨r154, hc154, hok⟩ := k_bind hok
      refine kCi (wc := (wX9_look1 cy aM qM vM_152 vM_tape)) (wc2 := (wX9_look1 cy aM qM vM_152 vM_tape)) (wr := [(qM 12, rI cy 8 vM_letters)]) (ws2 := (wX9_next cy aM qM vM_152 vM_tape vM_letters)) (kRunV (As := [.int y1_152]) (rest := []) ⟨hx, hb, hml, hown, ht0⟩ (kX9_look1 l D cy _ aM qM vM_152 vM_tape y1_152 r154 hc154 _ rfl) (cwV 1 ht0 (gV wd741 wd742 wd743 wd744 wd745) rfl rfl rfl (by decide +kernel) ⟨Nat.le_of_ble_eq_true rfl, Nat.le_of_ble_eq_true rfl⟩) hK hN hP hD [0, 1] rfl (by decide) 0 8 rfl rfl rfl hl.1 rfl (Nat.le_of_ble_eq_true rfl) dX9_next_154 ⟨Nat.zero_le _, Nat.zero_le _⟩) hP hD hS hA [0, 1] [2] rfl rfl (by decide) (by decide) [1, 2, 0] (by decide) rfl rfl (fun H locs hP hD hS => ?_)
      obtain ⟨r157, hc157, hok⟩ := k_bind hok
      refine kCi (wc := (wX9_isDigit cy )) (wc2 := (wX9_isDigit cy )) (wr := [(aM, oX9 vM_152 qM), (qM 1, rI cy 900 vM_tape), (qM 12, rI cy 8 vM_letters)]) (ws2 := (wX9_next cy aM qM vM_152 vM_tape vM_letters)) (kRunS (As := [.int r154]) (rest := []) ⟨hx, hb, hml, hown, ht0⟩ (kX9_isDigit l D cy _ r154 r157 hc157 _ rfl) (va_cwS 1 ht0 (gS wd746 wd747 wd744 wd748) rfl rfl rfl (by decide +kernel) ⟨Nat.le_of_ble_eq_true rfl, Nat.le_of_ble_eq_true rfl⟩) hK hN hP hD [] rfl (by decide) rfl hl.1 rfl (Nat.le_of_ble_eq_true rfl) dX9_next_157 ⟨Nat.zero_le _, Nat.zero_le _⟩) hP hD hS hA [] [0, 1, 2] rfl rfl (by decide) (by decide) [0, 1, 2] (by decide) rfl rfl (fun H locs hP hD hS => ?_)
      refine lv_if_eq (tgt := 197) hx hb dX9_next_160 (by decide) (fun c160 => ?_) (fun c160 => ?_)
      · have hok := k_pos c160 hok
        obtain ⟨e152, hok, he152⟩ := ex_some hok
        have hok := hok.trans (congrArg some (hL152 _ he152))
        refine lv_aload_n hx hb dX9_next_197 rfl (lv_at hl 0 rfl) ?_
        refine lv_iload_n hx hb dX9_next_198 rfl (lv_at hl 1 rfl) ?_
        refine va_put (D := D) (ci := 8) (v := .int y1_152) (ty := .int) (C := RX9) (T := TX9) (N := 29) hx hb ht0 niX9 tyX9 tyX9_ok nmX9 hown hK hP hD hS 0 rfl rfl 5 (by decide) (ht0 _ wd749) (fun _ h9 => h9) rfl (by decide +kernel) rfl rfl (Nat.le_of_ble_eq_true rfl) dX9_next_199 (fun H locs hP hD hS => ?_)
        have hP : va_P D vwCl (wX9_next cy aM qM (upd vM_152 5 y1_152) vM_tape vM_letters) H := hP
        have hD : va_D A (wX9_next cy aM qM (upd vM_152 5 y1_152) vM_tape vM_letters) := hD
        refine lv_aload_n hx hb dX9_next_202 rfl (lv_at hl 0 rfl) ?_
        refine lv_iload_n hx hb dX9_next_203 rfl (lv_at hl 2 rfl) ?_
        refine lv_iconst (v := 3) hx hb dX9_next_204 (by decide) ?_
        refine lv_icmp_le (tgt := 212) hx hb dX9_next_205 (by decide) (fun c205 => ?_) (fun c205 => ?_)
        · have hok := k_pos c205 hok
          refine lv_iconst (v := 3) hx hb dX9_next_212 (by decide) ?_
          exact J213 (3 : Int32) (upd vM_152 5 y1_152) H locs ls hP hD hS (lv_sub hl [] rfl) hok
        · have hok := k_neg c205 hok
          refine lv_iconst (v := 1) hx hb dX9_next_208 (by decide) ?_
          refine lv_goto (tgt := 213) hx hb dX9_next_209 (by decide) ?_
          exact J213 (1 : Int32) (upd vM_152 5 y1_152) H locs ls hP hD hS (lv_sub hl [] rfl) hok
      · have hok := k_neg c160 hok
        refine lv_iload_n hx hb dX9_next_163 rfl (lv_at hl 2 rfl) ?_
        refine lv_iconst (v := 3) hx hb dX9_next_164 (by decide) ?_
        refine lv_icmp_ge (tgt := 188) hx hb dX9_next_165 (by decide) (fun c165 => ?_) (fun c165 => ?_)
        · have hok := k_pos c165 hok
          exact J188 vM_152 H locs ls hP hD hS (lv_sub hl [0, 1, 2] rfl) hok
        · have hok := k_neg c165 hok
          refine lv_aload_n hx hb dX9_next_168 rfl (lv_at hl 0 rfl) ?_
          refine lv_bipush (v := 10) hx hb dX9_next_169 (by decide) ?_
          refine lv_aload_n hx hb dX9_next_171 rfl (lv_at hl 0 rfl) ?_
          refine va_get (D := D) (ci := 8) (v := .int (vM_152 7)) (C := RX9) (T := TX9) (N := 29) hx hb ht0 niX9 hown hK hP 0 rfl rfl 7 (by decide) (ht0 _ wd750) (fun _ h9 => h9) rfl dX9_next_172 ?_
          refine lv_imul hx hb dX9_next_175 ?_
          refine lv_aload_n hx hb dX9_next_176 rfl (lv_at hl 0 rfl) ?_
          refine lv_iload_n hx hb dX9_next_177 rfl (lv_at hl 1 rfl) ?_
          obtain ⟨r178, hc178, hok⟩ := k_bind hok
          refine kCi (wc := (wX9_look1 cy aM qM vM_152 vM_tape)) (wc2 := (wX9_look1 cy aM qM vM_152 vM_tape)) (wr := [(qM 12, rI cy 8 vM_letters)]) (ws2 := (wX9_next cy aM qM vM_152 vM_tape vM_letters)) (kRunV (As := [.int y1_152]) (rest := [.int ((10 : Int32) * (vM_152 7)), .ref aM]) ⟨hx, hb, hml, hown, ht0⟩ (kX9_look1 l D cy _ aM qM vM_152 vM_tape y1_152 r178 hc178 _ rfl) (cwV 1 ht0 (gV wd741 wd742 wd743 wd744 wd745) rfl rfl rfl (by decide +kernel) ⟨Nat.le_of_ble_eq_true rfl, Nat.le_of_ble_eq_true rfl⟩) hK hN hP hD [0, 1] rfl (by decide) 0 8 rfl rfl rfl hl.1 rfl (Nat.le_of_ble_eq_true rfl) dX9_next_178 ⟨Nat.zero_le _, Nat.zero_le _⟩) hP hD hS hA [0, 1] [2] rfl rfl (by decide) (by decide) [1, 2, 0] (by decide) rfl rfl (fun H locs hP hD hS => ?_)
          refine lv_iadd hx hb dX9_next_181 ?_
          refine lv_bipush (v := 48) hx hb dX9_next_182 (by decide) ?_
          refine lv_isub hx hb dX9_next_184 ?_
          refine va_put (D := D) (ci := 8) (v := .int ((((10 : Int32) * (vM_152 7)) + r178) - (48 : Int32))) (ty := .int) (C := RX9) (T := TX9) (N := 29) hx hb ht0 niX9 tyX9 tyX9_ok nmX9 hown hK hP hD hS 0 rfl rfl 7 (by decide) (ht0 _ wd750) (fun _ h9 => h9) rfl (by decide +kernel) rfl rfl (Nat.le_of_ble_eq_true rfl) dX9_next_185 (fun H locs hP hD hS => ?_)
          have hP : va_P D vwCl (wX9_next cy aM qM (upd vM_152 7 ((((10 : Int32) * (vM_152 7)) + r178) - (48 : Int32))) vM_tape vM_letters) H := hP
          have hD : va_D A (wX9_next cy aM qM (upd vM_152 7 ((((10 : Int32) * (vM_152 7)) + r178) - (48 : Int32))) vM_tape vM_letters) := hD
          exact J188 (upd vM_152 7 ((((10 : Int32) * (vM_152 7)) + r178) - (48 : Int32))) H locs ls hP hD hS (lv_sub hl [0, 1, 2] rfl) hok
  have J137 : ∀ (t0_137 : Int32) (vM_letters_137 : Nat → Int32) (vM_137 : Nat → Int32), ∀ (H : Heap) (locs : List Loc) (ls : Array Slot), va_P D vwCl (wX9_next cy aM qM vM_137 vM_tape vM_letters_137) H → va_D A (wX9_next cy aM qM vM_137 vM_tape vM_letters_137) → va_S A s.heap H locs → lv_has ls 4 [] → fX9_next_J137 t0_137 vM_letters_137 vM_137 = some (z_vM, z_vM_letters) → W p l e ({ frames := 1, cells := 0, slots := 0, locals := 21 } : Room) s m ([.ref aM] : List Value).toArray below meth c H locs 0 0 Q (F0 m 137 ls [.int t0_137, .ref aM]) := by
    intro t0_137 vM_letters_137 vM_137 H locs ls hP hD hS hl hok
    unfold fX9_next_J137 at hok
    refine va_put (D := D) (ci := 8) (v := .int t0_137) (ty := .int) (C := RX9) (T := TX9) (N := 29) hx hb ht0 niX9 tyX9 tyX9_ok nmX9 hown hK hP hD hS 0 rfl rfl 6 (by decide) (ht0 _ wd740) (fun _ h9 => h9) rfl (by decide +kernel) rfl rfl (Nat.le_of_ble_eq_true rfl) dX9_next_137 (fun H locs hP hD hS => ?_)
    have hP : va_P D vwCl (wX9_next cy aM qM (upd vM_137 6 t0_137) vM_tape vM_letters_137) H := hP
    have hD : va_D A (wX9_next cy aM qM (upd vM_137 6 t0_137) vM_tape vM_letters_137) := hD
    refine lv_goto (tgt := 241) hx hb dX9_next_140 (by decide) ?_
    exact J241 vM_letters_137 (upd vM_137 6 t0_137) H locs ls hP hD hS (lv_sub hl [] rfl) hok
  have L67 : ∀ (fuel : Nat) (y1_67 : Int32) (vM_letters_67 : Nat → Int32) (vM_67 : Nat → Int32), ∀ (H : Heap) (locs : List Loc) (ls : Array Slot), va_P D vwCl (wX9_next cy aM qM vM_67 vM_tape vM_letters_67) H → va_D A (wX9_next cy aM qM vM_67 vM_tape vM_letters_67) → va_S A s.heap H locs → lv_has ls 4 [(0, .ref aM), (1, .int y1_67)] → lp (fX9_next_B67 vM_tape) fuel (y1_67, vM_letters_67, vM_67) = some (z_vM, z_vM_letters) → W p l e ({ frames := 1, cells := 0, slots := 0, locals := 21 } : Room) s m ([.ref aM] : List Value).toArray below meth c H locs 0 0 Q (F0 m 67 ls []) := by
    intro fuel
    induction fuel with
    | zero => intro y1_67 vM_letters_67 vM_67 H locs ls hP hD hS hl hok; exact (lp_0 hok).elim
    | succ fuel ih67 =>
      intro y1_67 vM_letters_67 vM_67 H locs ls hP hD hS hl hok
      obtain ⟨y67, hok, hL67, hR67⟩ := lp_step hok
      have J101 : ∀ (vM_letters_101 : Nat → Int32), ∀ (H : Heap) (locs : List Loc) (ls : Array Slot), va_P D vwCl (wX9_next cy aM qM vM_67 vM_tape vM_letters_101) H → va_D A (wX9_next cy aM qM vM_67 vM_tape vM_letters_101) → va_S A s.heap H locs → lv_has ls 4 [(0, .ref aM), (1, .int y1_67)] → fX9_next_J101 y1_67 vM_67 vM_letters_101 = some y67 → W p l e ({ frames := 1, cells := 0, slots := 0, locals := 21 } : Room) s m ([.ref aM] : List Value).toArray below meth c H locs 0 0 Q (F0 m 101 ls []) := by
        intro vM_letters_101 H locs ls hP hD hS hl hok
        unfold fX9_next_J101 at hok
        refine lv_aload_n hx hb dX9_next_101 rfl (lv_at hl 0 rfl) ?_
        refine lv_dup hx hb dX9_next_102 rfl ?_
        refine va_get (D := D) (ci := 8) (v := .int (vM_67 8)) (C := RX9) (T := TX9) (N := 29) hx hb ht0 niX9 hown hK hP 0 rfl rfl 8 (by decide) (ht0 _ wd751) (fun _ h9 => h9) rfl dX9_next_103 ?_
        refine lv_iconst (v := 1) hx hb dX9_next_106 (by decide) ?_
        refine lv_iadd hx hb dX9_next_107 ?_
        refine va_put (D := D) (ci := 8) (v := .int ((vM_67 8) + (1 : Int32))) (ty := .int) (C := RX9) (T := TX9) (N := 29) hx hb ht0 niX9 tyX9 tyX9_ok nmX9 hown hK hP hD hS 0 rfl rfl 8 (by decide) (ht0 _ wd751) (fun _ h9 => h9) rfl (by decide +kernel) rfl rfl (Nat.le_of_ble_eq_true rfl) dX9_next_108 (fun H locs hP hD hS => ?_)
        have hP : va_P D vwCl (wX9_next cy aM qM (upd vM_67 8 ((vM_67 8) + (1 : Int32))) vM_tape vM_letters_101) H := hP
        have hD : va_D A (wX9_next cy aM qM (upd vM_67 8 ((vM_67 8) + (1 : Int32))) vM_tape vM_letters_101) := hD
        refine lv_iinc (v := (y1_67 + 1)) (lv' := [(1, .int (y1_67 + 1)), (0, .ref aM)]) hx hb dX9_next_111 hl (k := 1) rfl (by first | rfl | decide) (by decide) rfl (fun ls hl => ?_)
        refine lv_goto (tgt := 67) hx hb dX9_next_114 (by decide) ?_
        exact ih67 (y1_67 + 1) vM_letters_101 (upd vM_67 8 ((vM_67 8) + (1 : Int32))) H locs ls hP hD hS (lv_sub hl [1, 0] rfl) (hR67 _ (Option.some.inj hok).symm)
      unfold fX9_next_B67 at hok
      try dsimp only at hok
      refine lv_aload_n hx hb dX9_next_67 rfl (lv_at hl 0 rfl) ?_
      refine lv_iload_n hx hb dX9_next_68 rfl (lv_at hl 1 rfl) ?_
      obtain ⟨r69, hc69, hok⟩ := k_bind hok
      refine kCi (wc := (wX9_look1 cy aM qM vM_67 vM_tape)) (wc2 := (wX9_look1 cy aM qM vM_67 vM_tape)) (wr := [(qM 12, rI cy 8 vM_letters_67)]) (ws2 := (wX9_next cy aM qM vM_67 vM_tape vM_letters_67)) (kRunV (As := [.int y1_67]) (rest := []) ⟨hx, hb, hml, hown, ht0⟩ (kX9_look1 l D cy _ aM qM vM_67 vM_tape y1_67 r69 hc69 _ rfl) (cwV 1 ht0 (gV wd741 wd742 wd743 wd744 wd745) rfl rfl rfl (by decide +kernel) ⟨Nat.le_of_ble_eq_true rfl, Nat.le_of_ble_eq_true rfl⟩) hK hN hP hD [0, 1] rfl (by decide) 0 8 rfl rfl rfl hl.1 rfl (Nat.le_of_ble_eq_true rfl) dX9_next_69 ⟨Nat.zero_le _, Nat.zero_le _⟩) hP hD hS hA [0, 1] [2] rfl rfl (by decide) (by decide) [1, 2, 0] (by decide) rfl rfl (fun H locs hP hD hS => ?_)
      obtain ⟨r72, hc72, hok⟩ := k_bind hok
      refine kCi (wc := (wX9_isSmall cy )) (wc2 := (wX9_isSmall cy )) (wr := [(aM, oX9 vM_67 qM), (qM 1, rI cy 900 vM_tape), (qM 12, rI cy 8 vM_letters_67)]) (ws2 := (wX9_next cy aM qM vM_67 vM_tape vM_letters_67)) (kRunS (As := [.int r69]) (rest := []) ⟨hx, hb, hml, hown, ht0⟩ (kX9_isSmall l D cy _ r69 r72 hc72 _ rfl) (va_cwS 1 ht0 (gS wd752 wd753 wd744 wd754) rfl rfl rfl (by decide +kernel) ⟨Nat.le_of_ble_eq_true rfl, Nat.le_of_ble_eq_true rfl⟩) hK hN hP hD [] rfl (by decide) rfl hl.1 rfl (Nat.le_of_ble_eq_true rfl) dX9_next_72 ⟨Nat.zero_le _, Nat.zero_le _⟩) hP hD hS hA [] [0, 1, 2] rfl rfl (by decide) (by decide) [0, 1, 2] (by decide) rfl rfl (fun H locs hP hD hS => ?_)
      refine lv_if_eq (tgt := 117) hx hb dX9_next_75 (by decide) (fun c75 => ?_) (fun c75 => ?_)
      · have hok := k_pos c75 hok
        obtain ⟨e67, hok, he67⟩ := ex_some hok
        have hok := hok.trans (congrArg some (hL67 _ he67))
        refine lv_aload_n hx hb dX9_next_117 rfl (lv_at hl 0 rfl) ?_
        refine lv_iload_n hx hb dX9_next_118 rfl (lv_at hl 1 rfl) ?_
        refine va_put (D := D) (ci := 8) (v := .int y1_67) (ty := .int) (C := RX9) (T := TX9) (N := 29) hx hb ht0 niX9 tyX9 tyX9_ok nmX9 hown hK hP hD hS 0 rfl rfl 5 (by decide) (ht0 _ wd749) (fun _ h9 => h9) rfl (by decide +kernel) rfl rfl (Nat.le_of_ble_eq_true rfl) dX9_next_119 (fun H locs hP hD hS => ?_)
        have hP : va_P D vwCl (wX9_next cy aM qM (upd vM_67 5 y1_67) vM_tape vM_letters_67) H := hP
        have hD : va_D A (wX9_next cy aM qM (upd vM_67 5 y1_67) vM_tape vM_letters_67) := hD
        refine lv_aload_n hx hb dX9_next_122 rfl (lv_at hl 0 rfl) ?_
        refine lv_aload_n hx hb dX9_next_123 rfl (lv_at hl 0 rfl) ?_
        refine va_get (D := D) (ci := 8) (v := .int (vM_67 8)) (C := RX9) (T := TX9) (N := 29) hx hb ht0 niX9 hown hK hP 0 rfl rfl 8 (by decide) (ht0 _ wd751) (fun _ h9 => h9) rfl dX9_next_124 ?_
        refine lv_bipush (v := 8) hx hb dX9_next_127 (by decide) ?_
        refine lv_icmp_le (tgt := 136) hx hb dX9_next_129 (by decide) (fun c129 => ?_) (fun c129 => ?_)
        · have hok := k_pos c129 hok
          refine lv_iconst (v := 2) hx hb dX9_next_136 (by decide) ?_
          exact J137 (2 : Int32) vM_letters_67 (upd vM_67 5 y1_67) H locs ls hP hD hS (lv_sub hl [] rfl) hok
        · have hok := k_neg c129 hok
          refine lv_iconst (v := 1) hx hb dX9_next_132 (by decide) ?_
          refine lv_goto (tgt := 137) hx hb dX9_next_133 (by decide) ?_
          exact J137 (1 : Int32) vM_letters_67 (upd vM_67 5 y1_67) H locs ls hP hD hS (lv_sub hl [] rfl) hok
      · have hok := k_neg c75 hok
        refine lv_aload_n hx hb dX9_next_78 rfl (lv_at hl 0 rfl) ?_
        refine va_get (D := D) (ci := 8) (v := .int (vM_67 8)) (C := RX9) (T := TX9) (N := 29) hx hb ht0 niX9 hown hK hP 0 rfl rfl 8 (by decide) (ht0 _ wd751) (fun _ h9 => h9) rfl dX9_next_79 ?_
        refine lv_bipush (v := 8) hx hb dX9_next_82 (by decide) ?_
        refine lv_icmp_ge (tgt := 101) hx hb dX9_next_84 (by decide) (fun c84 => ?_) (fun c84 => ?_)
        · have hok := k_pos c84 hok
          exact J101 vM_letters_67 H locs ls hP hD hS (lv_sub hl [0, 1] rfl) hok
        · have hok := k_neg c84 hok
          refine lv_aload_n hx hb dX9_next_87 rfl (lv_at hl 0 rfl) ?_
          refine va_get (D := D) (ci := 8) (v := .ref (qM 12)) (C := RX9) (T := TX9) (N := 29) hx hb ht0 niX9 hown hK hP 0 rfl rfl 12 (by decide) (ht0 _ wd755) (fun _ h9 => h9) rfl dX9_next_88 ?_
          refine lv_aload_n hx hb dX9_next_91 rfl (lv_at hl 0 rfl) ?_
          refine va_get (D := D) (ci := 8) (v := .int (vM_67 8)) (C := RX9) (T := TX9) (N := 29) hx hb ht0 niX9 hown hK hP 0 rfl rfl 8 (by decide) (ht0 _ wd751) (fun _ h9 => h9) rfl dX9_next_92 ?_
          refine lv_aload_n hx hb dX9_next_95 rfl (lv_at hl 0 rfl) ?_
          refine lv_iload_n hx hb dX9_next_96 rfl (lv_at hl 1 rfl) ?_
          obtain ⟨r97, hc97, hok⟩ := k_bind hok
          refine kCi (wc := (wX9_look1 cy aM qM vM_67 vM_tape)) (wc2 := (wX9_look1 cy aM qM vM_67 vM_tape)) (wr := [(qM 12, rI cy 8 vM_letters_67)]) (ws2 := (wX9_next cy aM qM vM_67 vM_tape vM_letters_67)) (kRunV (As := [.int y1_67]) (rest := [.int (vM_67 8), .ref (qM 12)]) ⟨hx, hb, hml, hown, ht0⟩ (kX9_look1 l D cy _ aM qM vM_67 vM_tape y1_67 r97 hc97 _ rfl) (cwV 1 ht0 (gV wd741 wd742 wd743 wd744 wd745) rfl rfl rfl (by decide +kernel) ⟨Nat.le_of_ble_eq_true rfl, Nat.le_of_ble_eq_true rfl⟩) hK hN hP hD [0, 1] rfl (by decide) 0 8 rfl rfl rfl hl.1 rfl (Nat.le_of_ble_eq_true rfl) dX9_next_97 ⟨Nat.zero_le _, Nat.zero_le _⟩) hP hD hS hA [0, 1] [2] rfl rfl (by decide) (by decide) [1, 2, 0] (by decide) rfl rfl (fun H locs hP hD hS => ?_)
          obtain ⟨g100, hok⟩ := gd_some hok
          refine va_iast hx hb hK hP hD hS 2 0 rfl rfl (okI_in g100) dX9_next_100 (fun H locs hP hD hS => ?_)
          have hP : va_P D vwCl (wX9_next cy aM qM vM_67 vM_tape (upd vM_letters_67 (vM_67 8).toNatClampNeg r97)) H := hP
          have hD : va_D A (wX9_next cy aM qM vM_67 vM_tape (upd vM_letters_67 (vM_67 8).toNatClampNeg r97)) := hD
          exact J101 (upd vM_letters_67 (vM_67 8).toNatClampNeg r97) H locs ls hP hD hS (lv_sub hl [0, 1] rfl) hok
  have L5 : ∀ (fuel : Nat) (y1_5 : Int32), ∀ (H : Heap) (locs : List Loc) (ls : Array Slot), va_P D vwCl (wX9_next cy aM qM vM vM_tape vM_letters) H → va_D A (wX9_next cy aM qM vM vM_tape vM_letters) → va_S A s.heap H locs → lv_has ls 4 [(0, .ref aM), (1, .int y1_5)] → lp (fX9_next_B5 vM vM_tape vM_letters) fuel y1_5 = some (z_vM, z_vM_letters) → W p l e ({ frames := 1, cells := 0, slots := 0, locals := 21 } : Room) s m ([.ref aM] : List Value).toArray below meth c H locs 0 0 Q (F0 m 5 ls []) := by
    intro fuel
    induction fuel with
    | zero => intro y1_5 H locs ls hP hD hS hl hok; exact (lp_0 hok).elim
    | succ fuel ih5 =>
      intro y1_5 H locs ls hP hD hS hl hok
      obtain ⟨y5, hok, hL5, hR5⟩ := lp_step hok
      unfold fX9_next_B5 at hok
      refine lv_aload_n hx hb dX9_next_5 rfl (lv_at hl 0 rfl) ?_
      refine lv_iload_n hx hb dX9_next_6 rfl (lv_at hl 1 rfl) ?_
      obtain ⟨r7, hc7, hok⟩ := k_bind hok
      refine kCi (wc := (wX9_look1 cy aM qM vM vM_tape)) (wc2 := (wX9_look1 cy aM qM vM vM_tape)) (wr := [(qM 12, rI cy 8 vM_letters)]) (ws2 := (wX9_next cy aM qM vM vM_tape vM_letters)) (kRunV (As := [.int y1_5]) (rest := []) ⟨hx, hb, hml, hown, ht0⟩ (kX9_look1 l D cy _ aM qM vM vM_tape y1_5 r7 hc7 _ rfl) (cwV 1 ht0 (gV wd741 wd742 wd743 wd744 wd745) rfl rfl rfl (by decide +kernel) ⟨Nat.le_of_ble_eq_true rfl, Nat.le_of_ble_eq_true rfl⟩) hK hN hP hD [0, 1] rfl (by decide) 0 8 rfl rfl rfl hl.1 rfl (Nat.le_of_ble_eq_true rfl) dX9_next_7 ⟨Nat.zero_le _, Nat.zero_le _⟩) hP hD hS hA [0, 1] [2] rfl rfl (by decide) (by decide) [1, 2, 0] (by decide) rfl rfl (fun H locs hP hD hS => ?_)
      refine lv_bipush (v := 32) hx hb dX9_next_10 (by decide) ?_
      refine lv_icmp_ne (tgt := 21) hx hb dX9_next_12 (by decide) (fun c12 => ?_) (fun c12 => ?_)
      · have hok := k_neg c12 hok
        obtain ⟨e5, hok, he5⟩ := ex_some hok
        have hok := hok.trans (congrArg some (hL5 _ he5))
        refine lv_aload_n hx hb dX9_next_21 rfl (lv_at hl 0 rfl) ?_
        refine lv_iload_n hx hb dX9_next_22 rfl (lv_at hl 1 rfl) ?_
        refine va_put (D := D) (ci := 8) (v := .int y1_5) (ty := .int) (C := RX9) (T := TX9) (N := 29) hx hb ht0 niX9 tyX9 tyX9_ok nmX9 hown hK hP hD hS 0 rfl rfl 4 (by decide) (ht0 _ wd756) (fun _ h9 => h9) rfl (by decide +kernel) rfl rfl (Nat.le_of_ble_eq_true rfl) dX9_next_23 (fun H locs hP hD hS => ?_)
        have hP : va_P D vwCl (wX9_next cy aM qM (upd vM 4 y1_5) vM_tape vM_letters) H := hP
        have hD : va_D A (wX9_next cy aM qM (upd vM 4 y1_5) vM_tape vM_letters) := hD
        refine lv_aload_n hx hb dX9_next_26 rfl (lv_at hl 0 rfl) ?_
        refine lv_iload_n hx hb dX9_next_27 rfl (lv_at hl 1 rfl) ?_
        obtain ⟨r28, hc28, hok⟩ := k_bind hok
        refine kCi (wc := (wX9_look1 cy aM qM (upd vM 4 y1_5) vM_tape)) (wc2 := (wX9_look1 cy aM qM (upd vM 4 y1_5) vM_tape)) (wr := [(qM 12, rI cy 8 vM_letters)]) (ws2 := (wX9_next cy aM qM (upd vM 4 y1_5) vM_tape vM_letters)) (kRunV (As := [.int y1_5]) (rest := []) ⟨hx, hb, hml, hown, ht0⟩ (kX9_look1 l D cy _ aM qM (upd vM 4 y1_5) vM_tape y1_5 r28 hc28 _ rfl) (cwV 1 ht0 (gV wd741 wd742 wd743 wd744 wd745) rfl rfl rfl (by decide +kernel) ⟨Nat.le_of_ble_eq_true rfl, Nat.le_of_ble_eq_true rfl⟩) hK hN hP hD [0, 1] rfl (by decide) 0 8 rfl rfl rfl hl.1 rfl (Nat.le_of_ble_eq_true rfl) dX9_next_28 ⟨Nat.zero_le _, Nat.zero_le _⟩) hP hD hS hA [0, 1] [2] rfl rfl (by decide) (by decide) [1, 2, 0] (by decide) rfl rfl (fun H locs hP hD hS => ?_)
        refine lv_istore_n (lv' := [(2, .int r28), (0, .ref aM), (1, .int y1_5)]) hx hb dX9_next_31 rfl hl (by decide) rfl (fun ls hl => ?_)
        refine lv_aload_n hx hb dX9_next_32 rfl (lv_at hl 1 rfl) ?_
        refine lv_iconst (v := 0) hx hb dX9_next_33 (by decide) ?_
        refine va_put (D := D) (ci := 8) (v := .int 0) (ty := .int) (C := RX9) (T := TX9) (N := 29) hx hb ht0 niX9 tyX9 tyX9_ok nmX9 hown hK hP hD hS 0 rfl rfl 8 (by decide) (ht0 _ wd751) (fun _ h9 => h9) rfl (by decide +kernel) rfl rfl (Nat.le_of_ble_eq_true rfl) dX9_next_34 (fun H locs hP hD hS => ?_)
        have hP : va_P D vwCl (wX9_next cy aM qM (upd (upd vM 4 y1_5) 8 (0 : Int32)) vM_tape vM_letters) H := hP
        have hD : va_D A (wX9_next cy aM qM (upd (upd vM 4 y1_5) 8 (0 : Int32)) vM_tape vM_letters) := hD
        refine lv_aload_n hx hb dX9_next_37 rfl (lv_at hl 1 rfl) ?_
        refine lv_iconst (v := 0) hx hb dX9_next_38 (by decide) ?_
        refine va_put (D := D) (ci := 8) (v := .int 0) (ty := .int) (C := RX9) (T := TX9) (N := 29) hx hb ht0 niX9 tyX9 tyX9_ok nmX9 hown hK hP hD hS 0 rfl rfl 7 (by decide) (ht0 _ wd750) (fun _ h9 => h9) rfl (by decide +kernel) rfl rfl (Nat.le_of_ble_eq_true rfl) dX9_next_39 (fun H locs hP hD hS => ?_)
        have hP : va_P D vwCl (wX9_next cy aM qM (upd (upd (upd vM 4 y1_5) 7 (0 : Int32)) 8 (0 : Int32)) vM_tape vM_letters) H := hP
        have hD : va_D A (wX9_next cy aM qM (upd (upd (upd vM 4 y1_5) 7 (0 : Int32)) 8 (0 : Int32)) vM_tape vM_letters) := hD
        refine lv_iload_n hx hb dX9_next_42 rfl (lv_at hl 0 rfl) ?_
        refine lv_iconst (v := -1) hx hb dX9_next_43 (by decide) ?_
        refine lv_icmp_ne (tgt := 60) hx hb dX9_next_44 (by decide) (fun c44 => ?_) (fun c44 => ?_)
        · have hok := k_neg c44 hok
          refine lv_iload_n hx hb dX9_next_60 rfl (lv_at hl 0 rfl) ?_
          obtain ⟨r61, hc61, hok⟩ := k_bind hok
          refine kCi (wc := (wX9_isSmall cy )) (wc2 := (wX9_isSmall cy )) (wr := [(aM, oX9 (upd (upd (upd vM 4 y1_5) 7 (0 : Int32)) 8 (0 : Int32)) qM), (qM 1, rI cy 900 vM_tape), (qM 12, rI cy 8 vM_letters)]) (ws2 := (wX9_next cy aM qM (upd (upd (upd vM 4 y1_5) 7 (0 : Int32)) 8 (0 : Int32)) vM_tape vM_letters)) (kRunS (As := [.int r28]) (rest := []) ⟨hx, hb, hml, hown, ht0⟩ (kX9_isSmall l D cy _ r28 r61 hc61 _ rfl) (va_cwS 1 ht0 (gS wd752 wd753 wd744 wd754) rfl rfl rfl (by decide +kernel) ⟨Nat.le_of_ble_eq_true rfl, Nat.le_of_ble_eq_true rfl⟩) hK hN hP hD [] rfl (by decide) rfl hl.1 rfl (Nat.le_of_ble_eq_true rfl) dX9_next_61 ⟨Nat.zero_le _, Nat.zero_le _⟩) hP hD hS hA [] [0, 1, 2] rfl rfl (by decide) (by decide) [0, 1, 2] (by decide) rfl rfl (fun H locs hP hD hS => ?_)
          refine lv_if_eq (tgt := 143) hx hb dX9_next_64 (by decide) (fun c64 => ?_) (fun c64 => ?_)
          · have hok := k_pos c64 hok
            refine lv_iload_n hx hb dX9_next_143 rfl (lv_at hl 0 rfl) ?_
            obtain ⟨r144, hc144, hok⟩ := k_bind hok
            refine kCi (wc := (wX9_isDigit cy )) (wc2 := (wX9_isDigit cy )) (wr := [(aM, oX9 (upd (upd (upd vM 4 y1_5) 7 (0 : Int32)) 8 (0 : Int32)) qM), (qM 1, rI cy 900 vM_tape), (qM 12, rI cy 8 vM_letters)]) (ws2 := (wX9_next cy aM qM (upd (upd (upd vM 4 y1_5) 7 (0 : Int32)) 8 (0 : Int32)) vM_tape vM_letters)) (kRunS (As := [.int r28]) (rest := []) ⟨hx, hb, hml, hown, ht0⟩ (kX9_isDigit l D cy _ r28 r144 hc144 _ rfl) (va_cwS 1 ht0 (gS wd746 wd747 wd744 wd748) rfl rfl rfl (by decide +kernel) ⟨Nat.le_of_ble_eq_true rfl, Nat.le_of_ble_eq_true rfl⟩) hK hN hP hD [] rfl (by decide) rfl hl.1 rfl (Nat.le_of_ble_eq_true rfl) dX9_next_144 ⟨Nat.zero_le _, Nat.zero_le _⟩) hP hD hS hA [] [0, 1, 2] rfl rfl (by decide) (by decide) [0, 1, 2] (by decide) rfl rfl (fun H locs hP hD hS => ?_)
            refine lv_if_eq (tgt := 219) hx hb dX9_next_147 (by decide) (fun c147 => ?_) (fun c147 => ?_)
            · have hok := k_pos c147 hok
              refine lv_aload_n hx hb dX9_next_219 rfl (lv_at hl 1 rfl) ?_
              refine lv_iload_n hx hb dX9_next_220 rfl (lv_at hl 2 rfl) ?_
              refine lv_iconst (v := 1) hx hb dX9_next_221 (by decide) ?_
              refine lv_iadd hx hb dX9_next_222 ?_
              refine va_put (D := D) (ci := 8) (v := .int (y1_5 + (1 : Int32))) (ty := .int) (C := RX9) (T := TX9) (N := 29) hx hb ht0 niX9 tyX9 tyX9_ok nmX9 hown hK hP hD hS 0 rfl rfl 5 (by decide) (ht0 _ wd749) (fun _ h9 => h9) rfl (by decide +kernel) rfl rfl (Nat.le_of_ble_eq_true rfl) dX9_next_223 (fun H locs hP hD hS => ?_)
              have hP : va_P D vwCl (wX9_next cy aM qM (upd (upd (upd (upd vM 4 y1_5) 5 (y1_5 + (1 : Int32))) 7 (0 : Int32)) 8 (0 : Int32)) vM_tape vM_letters) H := hP
              have hD : va_D A (wX9_next cy aM qM (upd (upd (upd (upd vM 4 y1_5) 5 (y1_5 + (1 : Int32))) 7 (0 : Int32)) 8 (0 : Int32)) vM_tape vM_letters) := hD
              refine lv_aload_n hx hb dX9_next_226 rfl (lv_at hl 1 rfl) ?_
              refine lv_iload_n hx hb dX9_next_227 rfl (lv_at hl 0 rfl) ?_
              refine lv_bipush (v := 59) hx hb dX9_next_228 (by decide) ?_
              refine lv_icmp_ne (tgt := 237) hx hb dX9_next_230 (by decide) (fun c230 => ?_) (fun c230 => ?_)
              · have hok := k_neg c230 hok
                refine lv_iconst (v := 1) hx hb dX9_next_237 (by decide) ?_
                exact J238 (1 : Int32) (upd (upd (upd (upd vM 4 y1_5) 5 (y1_5 + (1 : Int32))) 7 (0 : Int32)) 8 (0 : Int32)) H locs ls hP hD hS (lv_sub hl [] rfl) hok
              · have hok := k_pos c230 hok
                refine lv_iload_n hx hb dX9_next_233 rfl (lv_at hl 0 rfl) ?_
                refine lv_goto (tgt := 238) hx hb dX9_next_234 (by decide) ?_
                exact J238 r28 (upd (upd (upd (upd vM 4 y1_5) 5 (y1_5 + (1 : Int32))) 7 (0 : Int32)) 8 (0 : Int32)) H locs ls hP hD hS (lv_sub hl [] rfl) hok
            · have hok := k_neg c147 hok
              refine lv_iconst (v := 0) hx hb dX9_next_150 (by decide) ?_
              refine lv_istore_n (lv' := [(3, .int 0), (2, .int r28), (0, .ref aM), (1, .int y1_5)]) hx hb dX9_next_151 rfl hl (by decide) rfl (fun ls hl => ?_)
              exact L152 5000 y1_5 (0 : Int32) (upd (upd (upd vM 4 y1_5) 7 (0 : Int32)) 8 (0 : Int32)) H locs ls hP hD hS (lv_sub hl [2, 3, 0] rfl) hok
          · have hok := k_neg c64 hok
            exact L67 5000 y1_5 vM_letters (upd (upd (upd vM 4 y1_5) 7 (0 : Int32)) 8 (0 : Int32)) H locs ls hP hD hS (lv_sub hl [1, 2] rfl) hok
        · have hok := k_pos c44 hok
          refine lv_aload_n hx hb dX9_next_47 rfl (lv_at hl 1 rfl) ?_
          refine lv_iconst (v := 0) hx hb dX9_next_48 (by decide) ?_
          refine va_put (D := D) (ci := 8) (v := .int 0) (ty := .int) (C := RX9) (T := TX9) (N := 29) hx hb ht0 niX9 tyX9 tyX9_ok nmX9 hown hK hP hD hS 0 rfl rfl 6 (by decide) (ht0 _ wd740) (fun _ h9 => h9) rfl (by decide +kernel) rfl rfl (Nat.le_of_ble_eq_true rfl) dX9_next_49 (fun H locs hP hD hS => ?_)
          have hP : va_P D vwCl (wX9_next cy aM qM (upd (upd (upd (upd vM 4 y1_5) 6 (0 : Int32)) 7 (0 : Int32)) 8 (0 : Int32)) vM_tape vM_letters) H := hP
          have hD : va_D A (wX9_next cy aM qM (upd (upd (upd (upd vM 4 y1_5) 6 (0 : Int32)) 7 (0 : Int32)) 8 (0 : Int32)) vM_tape vM_letters) := hD
          refine lv_aload_n hx hb dX9_next_52 rfl (lv_at hl 1 rfl) ?_
          refine lv_iload_n hx hb dX9_next_53 rfl (lv_at hl 2 rfl) ?_
          refine va_put (D := D) (ci := 8) (v := .int y1_5) (ty := .int) (C := RX9) (T := TX9) (N := 29) hx hb ht0 niX9 tyX9 tyX9_ok nmX9 hown hK hP hD hS 0 rfl rfl 5 (by decide) (ht0 _ wd749) (fun _ h9 => h9) rfl (by decide +kernel) rfl rfl (Nat.le_of_ble_eq_true rfl) dX9_next_54 (fun H locs hP hD hS => ?_)
          have hP : va_P D vwCl (wX9_next cy aM qM (upd (upd (upd (upd (upd vM 4 y1_5) 5 y1_5) 6 (0 : Int32)) 7 (0 : Int32)) 8 (0 : Int32)) vM_tape vM_letters) H := hP
          have hD : va_D A (wX9_next cy aM qM (upd (upd (upd (upd (upd vM 4 y1_5) 5 y1_5) 6 (0 : Int32)) 7 (0 : Int32)) 8 (0 : Int32)) vM_tape vM_letters) := hD
          refine lv_goto (tgt := 241) hx hb dX9_next_57 (by decide) ?_
          exact J241 vM_letters (upd (upd (upd (upd (upd vM 4 y1_5) 5 y1_5) 6 (0 : Int32)) 7 (0 : Int32)) 8 (0 : Int32)) H locs ls hP hD hS (lv_sub hl [] rfl) hok
      · have hok := k_pos c12 hok
        refine lv_iinc (v := (y1_5 + 1)) (lv' := [(1, .int (y1_5 + 1)), (0, .ref aM)]) hx hb dX9_next_15 hl (k := 1) rfl (by first | rfl | decide) (by decide) rfl (fun ls hl => ?_)
        refine lv_goto (tgt := 5) hx hb dX9_next_18 (by decide) ?_
        exact ih5 (y1_5 + 1) H locs ls hP hD hS (lv_sub hl [1, 0] rfl) (hR5 _ (Option.some.inj hok).symm)
  unfold fX9_next at hok
  obtain ⟨H, hH⟩ : ∃ H, H = s.heap := ⟨_, rfl⟩
  obtain ⟨locs, hlc⟩ : ∃ x : List Loc, x = [] := ⟨_, rfl⟩
  have hP : va_P D vwCl (wX9_next cy aM qM vM vM_tape vM_letters) H := by rw [hH]; exact hP
  have hS : va_S A s.heap H locs := by rw [hH, hlc]; exact hS
  rw [show W p l e _ s m _ below meth c s.heap [] = W p l e _ s m _ below meth c H locs from by rw [hH, hlc]]
  refine lv_aload_n hx hb dX9_next_0 rfl (lv_at hl 0 rfl) ?_
  refine va_get (D := D) (ci := 8) (v := .int (vM 5)) (C := RX9) (T := TX9) (N := 29) hx hb ht0 niX9 hown hK hP 0 rfl rfl 5 (by decide) (ht0 _ wd749) (fun _ h9 => h9) rfl dX9_next_1 ?_
  refine lv_istore_n (lv' := [(1, .int (vM 5)), (0, .ref aM)]) hx hb dX9_next_4 rfl hl (by decide) rfl (fun ls hl => ?_)
  exact L5 5000 (vM 5) H locs ls hP hD hS (lv_sub hl [1, 0] rfl) hok
def wsX9_wrong : List Cond := .code yX9_wrong cX9_wrong 3 none :: W0
abbrev wX9_wrong (cy : Nat → ClassId) (aM : Nat) (qM : Nat → Nat) (vM : Nat → Int32) : va_W := [(aM, oX9 vM qM)]
set_option maxHeartbeats 4000000 in
set_option maxRecDepth 100000 in
theorem kX9_wrong (l : Launch) (D : va_G) (cy : Nat → ClassId) (sz : Nat) (aM : Nat) (qM : Nat → Nat) (vM : Nat → Int32) (x1 : Int32) (x2 : Int32) (z_vM : Nat → Int32) (hok : fX9_wrong vM x1 x2 = some z_vM) (A : Nat → Prop) (hAe : va_A (wX9_wrong cy aM qM vM) sz = A) : Met l yX9_wrong wsX9_wrong ({ frames := 0, cells := 0, slots := 0, locals := 0 } : Room) (kPre D cy [.ref aM, .int x1, .int x2] (wX9_wrong cy aM qM vM) sz) (kQv D cy A (wX9_wrong cy aM qM z_vM)) 0 0 A := by
  refine Met.ofW (cc := cX9_wrong) (maxL := 3) (ret := none) (by decide) rfl ?_
  intro p e s m args below meth c s₁ B hml hv
  obtain ⟨rfl, hsz, hP, hK, hD0, hN⟩ := hv
  have hx := B.exec
  have hb := B.bytes
  have hr := B.returns
  have ht0 : ∀ w ∈ W0, w.before _ s = true := fun w h => atoms_spec (ws := wsX9_wrong) B.pre w (List.mem_cons_of_mem _ h)
  have hown : s.vm.findClass RX9 = some m.cls := findClass_of_methodNamed B.named
  have hlocks := B.notSynchronized
  subst hsz
  have hD : va_D A (wX9_wrong cy aM qM vM) := by rw [← hAe]; exact hD0.self
  have hA : ∀ q : Nat, s.heap.size ≤ q → A q := fun q h => by rw [← hAe]; exact Or.inr h
  have hS : va_S A s.heap s.heap [] := va_S.rf
  have hl := lv_entry ([.ref aM, .int x1, .int x2]) (n := 3) (Nat.le_of_ble_eq_true rfl)
  rw [lg_entry_eq]
  generalize (lg_sl ([.ref aM, .int x1, .int x2]) ++ List.replicate (3 - (lg_sl ([.ref aM, .int x1, .int x2])).length) Slot.unset).toArray = ls at hl ⊢
  have hl : lv_has ls 3 [(0, .ref aM), (1, .int x1), (2, .int x2)] := hl
  unfold fX9_wrong at hok
  obtain ⟨H, hH⟩ : ∃ H, H = s.heap := ⟨_, rfl⟩
  obtain ⟨locs, hlc⟩ : ∃ x : List Loc, x = [] := ⟨_, rfl⟩
  have hP : va_P D vwCl (wX9_wrong cy aM qM vM) H := by rw [hH]; exact hP
  have hS : va_S A s.heap H locs := by rw [hH, hlc]; exact hS
  rw [show W p l e _ s m _ below meth c s.heap [] = W p l e _ s m _ below meth c H locs from by rw [hH, hlc]]
  refine lv_aload_n hx hb dX9_wrong_0 rfl (lv_at hl 0 rfl) ?_
  refine va_get (D := D) (ci := 8) (v := .int (vM 13)) (C := RX9) (T := TX9) (N := 29) hx hb ht0 niX9 hown hK hP 0 rfl rfl 13 (by decide) (ht0 _ wd757) (fun _ h9 => h9) rfl dX9_wrong_1 ?_
  refine lv_if_eq (tgt := 8) hx hb dX9_wrong_4 (by decide) (fun c4 => ?_) (fun c4 => ?_)
  · have hok := k_pos c4 hok
    refine lv_aload_n hx hb dX9_wrong_8 rfl (lv_at hl 0 rfl) ?_
    refine lv_iconst (v := 1) hx hb dX9_wrong_9 (by decide) ?_
    refine va_put (D := D) (ci := 8) (v := .int 1) (ty := .boolean) (C := RX9) (T := TX9) (N := 29) hx hb ht0 niX9 tyX9 tyX9_ok nmX9 hown hK hP hD hS 0 rfl rfl 13 (by decide) (ht0 _ wd757) (fun _ h9 => h9) rfl (by decide +kernel) rfl rfl (Nat.le_of_ble_eq_true rfl) dX9_wrong_10 (fun H locs hP hD hS => ?_)
    have hP : va_P D vwCl (wX9_wrong cy aM qM (upd vM 13 (1 : Int32))) H := hP
    have hD : va_D A (wX9_wrong cy aM qM (upd vM 13 (1 : Int32))) := hD
    refine lv_aload_n hx hb dX9_wrong_13 rfl (lv_at hl 0 rfl) ?_
    refine lv_iload_n hx hb dX9_wrong_14 rfl (lv_at hl 1 rfl) ?_
    refine va_put (D := D) (ci := 8) (v := .int x1) (ty := .int) (C := RX9) (T := TX9) (N := 29) hx hb ht0 niX9 tyX9 tyX9_ok nmX9 hown hK hP hD hS 0 rfl rfl 9 (by decide) (ht0 _ wd758) (fun _ h9 => h9) rfl (by decide +kernel) rfl rfl (Nat.le_of_ble_eq_true rfl) dX9_wrong_15 (fun H locs hP hD hS => ?_)
    have hP : va_P D vwCl (wX9_wrong cy aM qM (upd (upd vM 9 x1) 13 (1 : Int32))) H := hP
    have hD : va_D A (wX9_wrong cy aM qM (upd (upd vM 9 x1) 13 (1 : Int32))) := hD
    refine lv_aload_n hx hb dX9_wrong_18 rfl (lv_at hl 0 rfl) ?_
    refine lv_iload_n hx hb dX9_wrong_19 rfl (lv_at hl 2 rfl) ?_
    refine va_put (D := D) (ci := 8) (v := .int x2) (ty := .int) (C := RX9) (T := TX9) (N := 29) hx hb ht0 niX9 tyX9 tyX9_ok nmX9 hown hK hP hD hS 0 rfl rfl 10 (by decide) (ht0 _ wd759) (fun _ h9 => h9) rfl (by decide +kernel) rfl rfl (Nat.le_of_ble_eq_true rfl) dX9_wrong_20 (fun H locs hP hD hS => ?_)
    have hP : va_P D vwCl (wX9_wrong cy aM qM (upd (upd (upd vM 9 x1) 10 x2) 13 (1 : Int32))) H := hP
    have hD : va_D A (wX9_wrong cy aM qM (upd (upd (upd vM 9 x1) 10 x2) 13 (1 : Int32))) := hD
    cases hok
    exact W.vret hx hb hr (fun t ht hW => ⟨⟨(), rfl, trivial, by rw [ht]; exact hP, va_K.moved hW.alike hK, hD⟩, hS.F ht⟩) hS.2.2 dX9_wrong_23
  · have hok := k_neg c4 hok
    cases hok
    exact W.vret hx hb hr (fun t ht hW => ⟨⟨(), rfl, trivial, by rw [ht]; exact hP, va_K.moved hW.alike hK, hD⟩, hS.F ht⟩) hS.2.2 dX9_wrong_7
def wsX9_isWord : List Cond := .code yX9_isWord cX9_isWord 4 (some .boolean) :: W0
abbrev wX9_isWord (cy : Nat → ClassId) (aM : Nat) (qM : Nat → Nat) (vM : Nat → Int32) (vM_letters : Nat → Int32) : va_W := [(aM, oX9 vM qM), (qM 12, rI cy 8 vM_letters)]
set_option maxHeartbeats 4000000 in
set_option maxRecDepth 100000 in
theorem kX9_isWord (l : Launch) (D : va_G) (cy : Nat → ClassId) (ad : (Nat → Nat) × (Nat → Nat)) (sz : Nat) (aM : Nat) (qM : Nat → Nat) (vM : Nat → Int32) (vM_letters : Nat → Int32) (x1 : Nat) (zr : Int32) (hok : fX9_isWord vM vM_letters x1 = some zr) (A : Nat → Prop) (hAe : va_A (wX9_isWord cy aM qM vM vM_letters) sz = A) : Met l yX9_isWord wsX9_isWord ({ frames := 4, cells := 0, slots := 0, locals := 85 } : Room) (kPreS D cy ad [.ref aM, .ref (ad.1 x1)] (wX9_isWord cy aM qM vM vM_letters) sz A) (kQi D cy zr A (wX9_isWord cy aM qM vM vM_letters)) 0 0 A := by
  refine Met.ofW (cc := cX9_isWord) (maxL := 4) (ret := (some .boolean)) (by decide) rfl ?_
  intro p e s m args below meth c s₁ B hml hv
  obtain ⟨rfl, ⟨hsz, hP, hK, hD0, hN⟩, hSt⟩ := hv
  have hx := B.exec
  have hb := B.bytes
  have hr := B.returns
  have ht0 : ∀ w ∈ W0, w.before _ s = true := fun w h => atoms_spec (ws := wsX9_isWord) B.pre w (List.mem_cons_of_mem _ h)
  have hown : s.vm.findClass RX9 = some m.cls := findClass_of_methodNamed B.named
  have hlocks := B.notSynchronized
  subst hsz
  have hD : va_D A (wX9_isWord cy aM qM vM vM_letters) := by rw [← hAe]; exact hD0.self
  have hA : ∀ q : Nat, s.heap.size ≤ q → A q := fun q h => by rw [← hAe]; exact Or.inr h
  have hS : va_S A s.heap s.heap [] := va_S.rf
  have hl := lv_entry ([.ref aM, .ref (ad.1 x1)]) (n := 4) (Nat.le_of_ble_eq_true rfl)
  rw [lg_entry_eq]
  generalize (lg_sl ([.ref aM, .ref (ad.1 x1)]) ++ List.replicate (4 - (lg_sl ([.ref aM, .ref (ad.1 x1)])).length) Slot.unset).toArray = ls at hl ⊢
  have hl : lv_has ls 4 [(0, .ref aM), (1, .ref (ad.1 x1))] := hl
  generalize hQe : MQ below (kQi D cy zr A (wX9_isWord cy aM qM vM vM_letters)) ([.ref aM, .ref (ad.1 x1)] : List Value).toArray s 0 0 A = Q
  have L32 : ∀ (fuel : Nat) (y2_32 : Int32) (y3_32 : Int32), ∀ (H : Heap) (locs : List Loc) (ls : Array Slot), va_P D vwCl (wX9_isWord cy aM qM vM vM_letters) H → va_D A (wX9_isWord cy aM qM vM vM_letters) → va_S A s.heap H locs → lv_has ls 4 [(0, .ref aM), (1, .ref (ad.1 x1)), (2, .int y2_32), (3, .int y3_32)] → lp (fX9_isWord_B32 vM vM_letters x1) fuel (y2_32, y3_32) = some zr → W p l e ({ frames := 4, cells := 0, slots := 0, locals := 85 } : Room) s m ([.ref aM, .ref (ad.1 x1)] : List Value).toArray below meth c H locs 0 0 Q (F0 m 32 ls []) := by
    intro fuel
    induction fuel with
    | zero => intro y2_32 y3_32 H locs ls hP hD hS hl hok; exact (lp_0 hok).elim
    | succ fuel ih32 =>
      intro y2_32 y3_32 H locs ls hP hD hS hl hok
      obtain ⟨y32, hok, hL32, hR32⟩ := lp_step hok
      have J63 : ∀ (t0_63 : Int32), ∀ (H : Heap) (locs : List Loc) (ls : Array Slot), va_P D vwCl (wX9_isWord cy aM qM vM vM_letters) H → va_D A (wX9_isWord cy aM qM vM vM_letters) → va_S A s.heap H locs → lv_has ls 4 [(0, .ref aM), (1, .ref (ad.1 x1)), (3, .int y3_32)] → fX9_isWord_J63 y3_32 t0_63 = some y32 → W p l e ({ frames := 4, cells := 0, slots := 0, locals := 85 } : Room) s m ([.ref aM, .ref (ad.1 x1)] : List Value).toArray below meth c H locs 0 0 Q (F0 m 63 ls [.int t0_63]) := by
        intro t0_63 H locs ls hP hD hS hl hok
        unfold fX9_isWord_J63 at hok
        refine lv_istore_n (lv' := [(2, .int t0_63), (0, .ref aM), (1, .ref (ad.1 x1)), (3, .int y3_32)]) hx hb dX9_isWord_63 rfl hl (by decide) rfl (fun ls hl => ?_)
        refine lv_iinc (v := (y3_32 + 1)) (lv' := [(3, .int (y3_32 + 1)), (2, .int t0_63), (0, .ref aM), (1, .ref (ad.1 x1))]) hx hb dX9_isWord_64 hl (k := 3) rfl (by first | rfl | decide) (by decide) rfl (fun ls hl => ?_)
        refine lv_goto (tgt := 32) hx hb dX9_isWord_67 (by decide) ?_
        exact ih32 t0_63 (y3_32 + 1) H locs ls hP hD hS (lv_sub hl [2, 3, 1, 0] rfl) (hR32 _ (Option.some.inj hok).symm)
      have J62 : ∀ (H : Heap) (locs : List Loc) (ls : Array Slot), va_P D vwCl (wX9_isWord cy aM qM vM vM_letters) H → va_D A (wX9_isWord cy aM qM vM vM_letters) → va_S A s.heap H locs → lv_has ls 4 [(0, .ref aM), (1, .ref (ad.1 x1)), (3, .int y3_32)] → fX9_isWord_J62 y3_32 = some y32 → W p l e ({ frames := 4, cells := 0, slots := 0, locals := 85 } : Room) s m ([.ref aM, .ref (ad.1 x1)] : List Value).toArray below meth c H locs 0 0 Q (F0 m 62 ls []) := by
        intro  H locs ls hP hD hS hl hok
        unfold fX9_isWord_J62 at hok
        refine lv_iconst (v := 0) hx hb dX9_isWord_62 (by decide) ?_
        exact J63 (0 : Int32) H locs ls hP hD hS (lv_sub hl [0, 1, 2] rfl) hok
      unfold fX9_isWord_B32 at hok
      try dsimp only at hok
      refine lv_iload_n hx hb dX9_isWord_32 rfl (lv_at hl 3 rfl) ?_
      refine lv_aload_n hx hb dX9_isWord_33 rfl (lv_at hl 0 rfl) ?_
      refine va_get (D := D) (ci := 8) (v := .int (vM 8)) (C := RX9) (T := TX9) (N := 29) hx hb ht0 niX9 hown hK hP 0 rfl rfl 8 (by decide) (ht0 _ wd751) (fun _ h9 => h9) rfl dX9_isWord_34 ?_
      refine lv_icmp_ge (tgt := 70) hx hb dX9_isWord_37 (by decide) (fun c37 => ?_) (fun c37 => ?_)
      · have hok := k_pos c37 hok
        obtain ⟨e32, hok, he32⟩ := ex_some hok
        have hok := hok.trans (congrArg some (hL32 _ he32))
        refine lv_iload_n hx hb dX9_isWord_70 rfl (lv_at hl 2 rfl) ?_
        obtain ⟨g71, hok⟩ := gd_some hok
        cases hok
        subst hQe; exact W.zret hx hb hr (isB_nar g71) (fun t ht hW => ⟨⟨_, (), rfl, rfl, by rw [ht]; exact hP, va_K.moved hW.alike hK, hD⟩, hS.F ht⟩) hS.2.2 dX9_isWord_71
      · have hok := k_neg c37 hok
        refine lv_iload_n hx hb dX9_isWord_40 rfl (lv_at hl 2 rfl) ?_
        refine lv_if_eq (tgt := 62) hx hb dX9_isWord_41 (by decide) (fun c41 => ?_) (fun c41 => ?_)
        · have hok := k_pos c41 hok
          exact J62  H locs ls hP hD hS (lv_sub hl [0, 1, 3] rfl) hok
        · have hok := k_neg c41 hok
          refine lv_aload_n hx hb dX9_isWord_44 rfl (lv_at hl 0 rfl) ?_
          refine va_get (D := D) (ci := 8) (v := .ref (qM 12)) (C := RX9) (T := TX9) (N := 29) hx hb ht0 niX9 hown hK hP 0 rfl rfl 12 (by decide) (ht0 _ wd755) (fun _ h9 => h9) rfl dX9_isWord_45 ?_
          refine lv_iload_n hx hb dX9_isWord_48 rfl (lv_at hl 3 rfl) ?_
          obtain ⟨g49, hok⟩ := gd_some hok
          refine va_iald hx hb hK hP 1 0 rfl rfl (okI_in g49) dX9_isWord_49 ?_
          refine lv_aload_n hx hb dX9_isWord_50 rfl (lv_at hl 1 rfl) ?_
          refine lv_iload_n hx hb dX9_isWord_51 rfl (lv_at hl 3 rfl) ?_
          obtain ⟨gs52, hok⟩ := gd_some hok
          obtain ⟨r52, hc52, hok⟩ := k_bind hok
          refine kCi (wc := (wJ0_charAt_5068e cy )) (wc2 := (wJ0_charAt_5068e cy )) (wr := [(aM, oX9 vM qM), (qM 12, rI cy 8 vM_letters)]) (ws2 := (wX9_isWord cy aM qM vM vM_letters)) (kRunVT (As := [.int y3_32]) (rest := [.int (vM_letters y3_32.toNatClampNeg)]) ⟨hx, hb, hml, hown, ht0⟩ (kJ0_charAt_5068e l D cy ad _ x1 y3_32 r52 hc52 _ rfl) (cwV 1 ht0 (gV wd760 wd321 wd322 wd292 wd323) rfl rfl rfl (by decide +kernel) ⟨Nat.le_of_ble_eq_true rfl, Nat.le_of_ble_eq_true rfl⟩) hK hN hP hD hSt hS hA [] rfl (by decide) (okS_lt gs52) rfl hl.1 rfl (Nat.le_of_ble_eq_true rfl) dX9_isWord_52 ⟨Nat.zero_le _, Nat.zero_le _⟩) hP hD hS hA [] [0, 1] rfl rfl (by decide) (by decide) [0, 1] (by decide) rfl rfl (fun H locs hP hD hS => ?_)
          refine lv_icmp_ne (tgt := 62) hx hb dX9_isWord_55 (by decide) (fun c55 => ?_) (fun c55 => ?_)
          · have hok := k_neg c55 hok
            exact J62  H locs ls hP hD hS (lv_sub hl [0, 1, 3] rfl) hok
          · have hok := k_pos c55 hok
            refine lv_iconst (v := 1) hx hb dX9_isWord_58 (by decide) ?_
            refine lv_goto (tgt := 63) hx hb dX9_isWord_59 (by decide) ?_
            exact J63 (1 : Int32) H locs ls hP hD hS (lv_sub hl [0, 1, 3] rfl) hok
  have J26 : ∀ (H : Heap) (locs : List Loc) (ls : Array Slot), va_P D vwCl (wX9_isWord cy aM qM vM vM_letters) H → va_D A (wX9_isWord cy aM qM vM vM_letters) → va_S A s.heap H locs → lv_has ls 4 [] → fX9_isWord_J26 = some zr → W p l e ({ frames := 4, cells := 0, slots := 0, locals := 85 } : Room) s m ([.ref aM, .ref (ad.1 x1)] : List Value).toArray below meth c H locs 0 0 Q (F0 m 26 ls []) := by
    intro  H locs ls hP hD hS hl hok
    unfold fX9_isWord_J26 at hok
    refine lv_iconst (v := 0) hx hb dX9_isWord_26 (by decide) ?_
    cases hok
    subst hQe; exact W.zret hx hb hr rfl (fun t ht hW => ⟨⟨_, (), rfl, rfl, by rw [ht]; exact hP, va_K.moved hW.alike hK, hD⟩, hS.F ht⟩) hS.2.2 dX9_isWord_27
  unfold fX9_isWord at hok
  obtain ⟨H, hH⟩ : ∃ H, H = s.heap := ⟨_, rfl⟩
  obtain ⟨locs, hlc⟩ : ∃ x : List Loc, x = [] := ⟨_, rfl⟩
  have hP : va_P D vwCl (wX9_isWord cy aM qM vM vM_letters) H := by rw [hH]; exact hP
  have hS : va_S A s.heap H locs := by rw [hH, hlc]; exact hS
  rw [show W p l e _ s m _ below meth c s.heap [] = W p l e _ s m _ below meth c H locs from by rw [hH, hlc]]
  refine lv_aload_n hx hb dX9_isWord_0 rfl (lv_at hl 0 rfl) ?_
  refine va_get (D := D) (ci := 8) (v := .int (vM 13)) (C := RX9) (T := TX9) (N := 29) hx hb ht0 niX9 hown hK hP 0 rfl rfl 13 (by decide) (ht0 _ wd757) (fun _ h9 => h9) rfl dX9_isWord_1 ?_
  refine lv_if_ne (tgt := 26) hx hb dX9_isWord_4 (by decide) (fun c4 => ?_) (fun c4 => ?_)
  · have hok := k_neg c4 hok
    exact J26  H locs ls hP hD hS (lv_sub hl [] rfl) hok
  · have hok := k_pos c4 hok
    refine lv_aload_n hx hb dX9_isWord_7 rfl (lv_at hl 0 rfl) ?_
    refine va_get (D := D) (ci := 8) (v := .int (vM 6)) (C := RX9) (T := TX9) (N := 29) hx hb ht0 niX9 hown hK hP 0 rfl rfl 6 (by decide) (ht0 _ wd740) (fun _ h9 => h9) rfl dX9_isWord_8 ?_
    refine lv_iconst (v := 2) hx hb dX9_isWord_11 (by decide) ?_
    refine lv_icmp_ne (tgt := 26) hx hb dX9_isWord_12 (by decide) (fun c12 => ?_) (fun c12 => ?_)
    · have hok := k_neg c12 hok
      exact J26  H locs ls hP hD hS (lv_sub hl [] rfl) hok
    · have hok := k_pos c12 hok
      refine lv_aload_n hx hb dX9_isWord_15 rfl (lv_at hl 0 rfl) ?_
      refine va_get (D := D) (ci := 8) (v := .int (vM 8)) (C := RX9) (T := TX9) (N := 29) hx hb ht0 niX9 hown hK hP 0 rfl rfl 8 (by decide) (ht0 _ wd751) (fun _ h9 => h9) rfl dX9_isWord_16 ?_
      refine lv_aload_n hx hb dX9_isWord_19 rfl (lv_at hl 1 rfl) ?_
      obtain ⟨gs20, hok⟩ := gd_some hok
      obtain ⟨r20, hc20, hok⟩ := k_bind hok
      refine kCi (wc := (wJ0_length_8abf5 cy )) (wc2 := (wJ0_length_8abf5 cy )) (wr := [(aM, oX9 vM qM), (qM 12, rI cy 8 vM_letters)]) (ws2 := (wX9_isWord cy aM qM vM vM_letters)) (kRunVT (As := []) (rest := [.int (vM 8)]) ⟨hx, hb, hml, hown, ht0⟩ (kJ0_length_8abf5 l D cy ad _ x1 r20 hc20 _ rfl) (cwV 0 ht0 (gV wd761 wd317 wd318 wd292 wd319) rfl rfl rfl (by decide +kernel) ⟨Nat.le_of_ble_eq_true rfl, Nat.le_of_ble_eq_true rfl⟩) hK hN hP hD hSt hS hA [] rfl (by decide) (okS_lt gs20) rfl hl.1 rfl (Nat.le_of_ble_eq_true rfl) dX9_isWord_20 ⟨Nat.zero_le _, Nat.zero_le _⟩) hP hD hS hA [] [0, 1] rfl rfl (by decide) (by decide) [0, 1] (by decide) rfl rfl (fun H locs hP hD hS => ?_)
      refine lv_icmp_eq (tgt := 28) hx hb dX9_isWord_23 (by decide) (fun c23 => ?_) (fun c23 => ?_)
      · have hok := k_pos c23 hok
        refine lv_iconst (v := 1) hx hb dX9_isWord_28 (by decide) ?_
        refine lv_istore_n (lv' := [(2, .int 1), (0, .ref aM), (1, .ref (ad.1 x1))]) hx hb dX9_isWord_29 rfl hl (by decide) rfl (fun ls hl => ?_)
        refine lv_iconst (v := 0) hx hb dX9_isWord_30 (by decide) ?_
        refine lv_istore_n (lv' := [(3, .int 0), (2, .int 1), (0, .ref aM), (1, .ref (ad.1 x1))]) hx hb dX9_isWord_31 rfl hl (by decide) rfl (fun ls hl => ?_)
        exact L32 5000 (1 : Int32) (0 : Int32) H locs ls hP hD hS (lv_sub hl [2, 3, 1, 0] rfl) hok
      · have hok := k_neg c23 hok
        exact J26  H locs ls hP hD hS (lv_sub hl [] rfl) hok
def wsX9_takesWord : List Cond := .code yX9_takesWord cX9_takesWord 2 (some .boolean) :: W0
abbrev wX9_takesWord (cy : Nat → ClassId) (aM : Nat) (qM : Nat → Nat) (vM : Nat → Int32) (vM_letters : Nat → Int32) (vM_tape : Nat → Int32) : va_W := [(aM, oX9 vM qM), (qM 12, rI cy 8 vM_letters), (qM 1, rI cy 900 vM_tape)]
set_option maxHeartbeats 4000000 in
set_option maxRecDepth 100000 in
theorem kX9_takesWord (l : Launch) (D : va_G) (cy : Nat → ClassId) (ad : (Nat → Nat) × (Nat → Nat)) (sz : Nat) (aM : Nat) (qM : Nat → Nat) (vM : Nat → Int32) (vM_letters : Nat → Int32) (vM_tape : Nat → Int32) (x1 : Nat) (zr : Int32) (z_vM : Nat → Int32) (z_vM_letters : Nat → Int32) (hok : fX9_takesWord vM vM_letters vM_tape x1 = some (zr, z_vM, z_vM_letters)) (A : Nat → Prop) (hAe : va_A (wX9_takesWord cy aM qM vM vM_letters vM_tape) sz = A) : Met l yX9_takesWord wsX9_takesWord ({ frames := 5, cells := 0, slots := 0, locals := 108 } : Room) (kPreS D cy ad [.ref aM, .ref (ad.1 x1)] (wX9_takesWord cy aM qM vM vM_letters vM_tape) sz A) (kQi D cy zr A (wX9_takesWord cy aM qM z_vM z_vM_letters vM_tape)) 0 0 A := by
  refine Met.ofW (cc := cX9_takesWord) (maxL := 2) (ret := (some .boolean)) (by decide) rfl ?_
  intro p e s m args below meth c s₁ B hml hv
  obtain ⟨rfl, ⟨hsz, hP, hK, hD0, hN⟩, hSt⟩ := hv
  have hx := B.exec
  have hb := B.bytes
  have hr := B.returns
  have ht0 : ∀ w ∈ W0, w.before _ s = true := fun w h => atoms_spec (ws := wsX9_takesWord) B.pre w (List.mem_cons_of_mem _ h)
  have hown : s.vm.findClass RX9 = some m.cls := findClass_of_methodNamed B.named
  have hlocks := B.notSynchronized
  subst hsz
  have hD : va_D A (wX9_takesWord cy aM qM vM vM_letters vM_tape) := by rw [← hAe]; exact hD0.self
  have hA : ∀ q : Nat, s.heap.size ≤ q → A q := fun q h => by rw [← hAe]; exact Or.inr h
  have hS : va_S A s.heap s.heap [] := va_S.rf
  have hl := lv_entry ([.ref aM, .ref (ad.1 x1)]) (n := 2) (Nat.le_of_ble_eq_true rfl)
  rw [lg_entry_eq]
  generalize (lg_sl ([.ref aM, .ref (ad.1 x1)]) ++ List.replicate (2 - (lg_sl ([.ref aM, .ref (ad.1 x1)])).length) Slot.unset).toArray = ls at hl ⊢
  have hl : lv_has ls 2 [(0, .ref aM), (1, .ref (ad.1 x1))] := hl
  unfold fX9_takesWord at hok
  obtain ⟨H, hH⟩ : ∃ H, H = s.heap := ⟨_, rfl⟩
  obtain ⟨locs, hlc⟩ : ∃ x : List Loc, x = [] := ⟨_, rfl⟩
  have hP : va_P D vwCl (wX9_takesWord cy aM qM vM vM_letters vM_tape) H := by rw [hH]; exact hP
  have hS : va_S A s.heap H locs := by rw [hH, hlc]; exact hS
  rw [show W p l e _ s m _ below meth c s.heap [] = W p l e _ s m _ below meth c H locs from by rw [hH, hlc]]
  refine lv_aload_n hx hb dX9_takesWord_0 rfl (lv_at hl 0 rfl) ?_
  refine lv_aload_n hx hb dX9_takesWord_1 rfl (lv_at hl 1 rfl) ?_
  obtain ⟨r2, hc2, hok⟩ := k_bind hok
  refine kCi (wc := (wX9_isWord cy aM qM vM vM_letters)) (wc2 := (wX9_isWord cy aM qM vM vM_letters)) (wr := [(qM 1, rI cy 900 vM_tape)]) (ws2 := (wX9_takesWord cy aM qM vM vM_letters vM_tape)) (kRunVS (As := [.ref (ad.1 x1)]) (rest := []) ⟨hx, hb, hml, hown, ht0⟩ (kX9_isWord l D cy ad _ aM qM vM vM_letters x1 r2 hc2 _ rfl) (cwV 1 ht0 (gV wd762 wd763 wd764 wd744 wd765) rfl rfl rfl (by decide +kernel) ⟨Nat.le_of_ble_eq_true rfl, Nat.le_of_ble_eq_true rfl⟩) hK hN hP hD hSt hS hA [0, 1] rfl (by decide) 0 8 rfl rfl rfl hl.1 rfl (Nat.le_of_ble_eq_true rfl) dX9_takesWord_2 ⟨Nat.zero_le _, Nat.zero_le _⟩) hP hD hS hA [0, 1] [2] rfl rfl (by decide) (by decide) [1, 2, 0] (by decide) rfl rfl (fun H locs hP hD hS => ?_)
  refine lv_if_ne (tgt := 10) hx hb dX9_takesWord_5 (by decide) (fun c5 => ?_) (fun c5 => ?_)
  · have hok := k_neg c5 hok
    refine lv_aload_n hx hb dX9_takesWord_10 rfl (lv_at hl 0 rfl) ?_
    obtain ⟨⟨vM_11, vM_letters_11⟩, hc11, hok⟩ := k_bind hok
    try dsimp only at hok
    refine kCv (wc := (wX9_next cy aM qM vM vM_tape vM_letters)) (wc2 := (wX9_next cy aM qM vM_11 vM_tape vM_letters_11)) (wr := []) (ws2 := (wX9_takesWord cy aM qM vM_11 vM_letters_11 vM_tape)) (kRunV (As := []) (rest := []) ⟨hx, hb, hml, hown, ht0⟩ (kX9_next l D cy _ aM qM vM vM_tape vM_letters vM_11 vM_letters_11 hc11 _ rfl) (cwV 0 ht0 (gV wd766 wd767 wd768 wd744 wd769) rfl rfl rfl (by decide +kernel) ⟨Nat.le_of_ble_eq_true rfl, Nat.le_of_ble_eq_true rfl⟩) hK hN hP hD [0, 2, 1] rfl (by decide) 0 8 rfl rfl rfl hl.1 rfl (Nat.le_of_ble_eq_true rfl) dX9_takesWord_11 ⟨Nat.zero_le _, Nat.zero_le _⟩) hP hD hS hA [0, 2, 1] [] rfl rfl (by decide) (by decide) [0, 2, 1] (by decide) rfl rfl (fun H locs hP hD hS => ?_)
    refine lv_iconst (v := 1) hx hb dX9_takesWord_14 (by decide) ?_
    cases hok
    exact W.zret hx hb hr rfl (fun t ht hW => ⟨⟨_, (), rfl, rfl, by rw [ht]; exact hP, va_K.moved hW.alike hK, hD⟩, hS.F ht⟩) hS.2.2 dX9_takesWord_15
  · have hok := k_pos c5 hok
    refine lv_iconst (v := 0) hx hb dX9_takesWord_8 (by decide) ?_
    cases hok
    exact W.zret hx hb hr rfl (fun t ht hW => ⟨⟨_, (), rfl, rfl, by rw [ht]; exact hP, va_K.moved hW.alike hK, hD⟩, hS.F ht⟩) hS.2.2 dX9_takesWord_9
def wsX9_must : List Cond := .code yX9_must cX9_must 2 none :: W0
abbrev wX9_must (cy : Nat → ClassId) (aM : Nat) (qM : Nat → Nat) (vM : Nat → Int32) (vM_letters : Nat → Int32) (vM_tape : Nat → Int32) : va_W := [(aM, oX9 vM qM), (qM 12, rI cy 8 vM_letters), (qM 1, rI cy 900 vM_tape)]
set_option maxHeartbeats 4000000 in
set_option maxRecDepth 100000 in
theorem kX9_must (l : Launch) (D : va_G) (cy : Nat → ClassId) (ad : (Nat → Nat) × (Nat → Nat)) (sz : Nat) (aM : Nat) (qM : Nat → Nat) (vM : Nat → Int32) (vM_letters : Nat → Int32) (vM_tape : Nat → Int32) (x1 : Nat) (z_vM : Nat → Int32) (z_vM_letters : Nat → Int32) (hok : fX9_must vM vM_letters vM_tape x1 = some (z_vM, z_vM_letters)) (A : Nat → Prop) (hAe : va_A (wX9_must cy aM qM vM vM_letters vM_tape) sz = A) : Met l yX9_must wsX9_must ({ frames := 6, cells := 0, slots := 0, locals := 129 } : Room) (kPreS D cy ad [.ref aM, .ref (ad.1 x1)] (wX9_must cy aM qM vM vM_letters vM_tape) sz A) (kQv D cy A (wX9_must cy aM qM z_vM z_vM_letters vM_tape)) 0 0 A := by
  refine Met.ofW (cc := cX9_must) (maxL := 2) (ret := none) (by decide) rfl ?_
  intro p e s m args below meth c s₁ B hml hv
  obtain ⟨rfl, ⟨hsz, hP, hK, hD0, hN⟩, hSt⟩ := hv
  have hx := B.exec
  have hb := B.bytes
  have hr := B.returns
  have ht0 : ∀ w ∈ W0, w.before _ s = true := fun w h => atoms_spec (ws := wsX9_must) B.pre w (List.mem_cons_of_mem _ h)
  have hown : s.vm.findClass RX9 = some m.cls := findClass_of_methodNamed B.named
  have hlocks := B.notSynchronized
  subst hsz
  have hD : va_D A (wX9_must cy aM qM vM vM_letters vM_tape) := by rw [← hAe]; exact hD0.self
  have hA : ∀ q : Nat, s.heap.size ≤ q → A q := fun q h => by rw [← hAe]; exact Or.inr h
  have hS : va_S A s.heap s.heap [] := va_S.rf
  have hl := lv_entry ([.ref aM, .ref (ad.1 x1)]) (n := 2) (Nat.le_of_ble_eq_true rfl)
  rw [lg_entry_eq]
  generalize (lg_sl ([.ref aM, .ref (ad.1 x1)]) ++ List.replicate (2 - (lg_sl ([.ref aM, .ref (ad.1 x1)])).length) Slot.unset).toArray = ls at hl ⊢
  have hl : lv_has ls 2 [(0, .ref aM), (1, .ref (ad.1 x1))] := hl
  generalize hQe : MQ below (kQv D cy A (wX9_must cy aM qM z_vM z_vM_letters vM_tape)) ([.ref aM, .ref (ad.1 x1)] : List Value).toArray s 0 0 A = Q
  have J24 : ∀ (vM_letters_24 : Nat → Int32) (vM_24 : Nat → Int32), ∀ (H : Heap) (locs : List Loc) (ls : Array Slot), va_P D vwCl (wX9_must cy aM qM vM_24 vM_letters_24 vM_tape) H → va_D A (wX9_must cy aM qM vM_24 vM_letters_24 vM_tape) → va_S A s.heap H locs → lv_has ls 2 [] → fX9_must_J24 vM_letters_24 vM_24 = some (z_vM, z_vM_letters) → W p l e ({ frames := 6, cells := 0, slots := 0, locals := 129 } : Room) s m ([.ref aM, .ref (ad.1 x1)] : List Value).toArray below meth c H locs 0 0 Q (F0 m 24 ls []) := by
    intro vM_letters_24 vM_24 H locs ls hP hD hS hl hok
    unfold fX9_must_J24 at hok
    cases hok
    subst hQe; exact W.vret hx hb hr (fun t ht hW => ⟨⟨(), rfl, trivial, by rw [ht]; exact hP, va_K.moved hW.alike hK, hD⟩, hS.F ht⟩) hS.2.2 dX9_must_24
  unfold fX9_must at hok
  obtain ⟨H, hH⟩ : ∃ H, H = s.heap := ⟨_, rfl⟩
  obtain ⟨locs, hlc⟩ : ∃ x : List Loc, x = [] := ⟨_, rfl⟩
  have hP : va_P D vwCl (wX9_must cy aM qM vM vM_letters vM_tape) H := by rw [hH]; exact hP
  have hS : va_S A s.heap H locs := by rw [hH, hlc]; exact hS
  rw [show W p l e _ s m _ below meth c s.heap [] = W p l e _ s m _ below meth c H locs from by rw [hH, hlc]]
  refine lv_aload_n hx hb dX9_must_0 rfl (lv_at hl 0 rfl) ?_
  refine va_get (D := D) (ci := 8) (v := .int (vM 13)) (C := RX9) (T := TX9) (N := 29) hx hb ht0 niX9 hown hK hP 0 rfl rfl 13 (by decide) (ht0 _ wd757) (fun _ h9 => h9) rfl dX9_must_1 ?_
  refine lv_if_ne (tgt := 24) hx hb dX9_must_4 (by decide) (fun c4 => ?_) (fun c4 => ?_)
  · have hok := k_neg c4 hok
    exact J24 vM_letters vM H locs ls hP hD hS (lv_sub hl [] rfl) hok
  · have hok := k_pos c4 hok
    refine lv_aload_n hx hb dX9_must_7 rfl (lv_at hl 0 rfl) ?_
    refine lv_aload_n hx hb dX9_must_8 rfl (lv_at hl 1 rfl) ?_
    obtain ⟨⟨r9, vM_9, vM_letters_9⟩, hc9, hok⟩ := k_bind hok
    try dsimp only at hok
    refine kCi (wc := (wX9_takesWord cy aM qM vM vM_letters vM_tape)) (wc2 := (wX9_takesWord cy aM qM vM_9 vM_letters_9 vM_tape)) (wr := []) (ws2 := (wX9_must cy aM qM vM_9 vM_letters_9 vM_tape)) (kRunVS (As := [.ref (ad.1 x1)]) (rest := []) ⟨hx, hb, hml, hown, ht0⟩ (kX9_takesWord l D cy ad _ aM qM vM vM_letters vM_tape x1 r9 vM_9 vM_letters_9 hc9 _ rfl) (cwV 1 ht0 (gV wd770 wd771 wd772 wd744 wd773) rfl rfl rfl (by decide +kernel) ⟨Nat.le_of_ble_eq_true rfl, Nat.le_of_ble_eq_true rfl⟩) hK hN hP hD hSt hS hA [0, 1, 2] rfl (by decide) 0 8 rfl rfl rfl hl.1 rfl (Nat.le_of_ble_eq_true rfl) dX9_must_9 ⟨Nat.zero_le _, Nat.zero_le _⟩) hP hD hS hA [0, 1, 2] [] rfl rfl (by decide) (by decide) [0, 1, 2] (by decide) rfl rfl (fun H locs hP hD hS => ?_)
    refine lv_if_ne (tgt := 24) hx hb dX9_must_12 (by decide) (fun c12 => ?_) (fun c12 => ?_)
    · have hok := k_neg c12 hok
      exact J24 vM_letters_9 vM_9 H locs ls hP hD hS (lv_sub hl [] rfl) hok
    · have hok := k_pos c12 hok
      refine lv_aload_n hx hb dX9_must_15 rfl (lv_at hl 0 rfl) ?_
      refine lv_iconst (v := 1) hx hb dX9_must_16 (by decide) ?_
      refine lv_aload_n hx hb dX9_must_17 rfl (lv_at hl 0 rfl) ?_
      refine va_get (D := D) (ci := 8) (v := .int (vM_9 4)) (C := RX9) (T := TX9) (N := 29) hx hb ht0 niX9 hown hK hP 0 rfl rfl 4 (by decide) (ht0 _ wd756) (fun _ h9 => h9) rfl dX9_must_18 ?_
      obtain ⟨vM_21, hc21, hok⟩ := k_bind hok
      refine kCv (wc := (wX9_wrong cy aM qM vM_9)) (wc2 := (wX9_wrong cy aM qM vM_21)) (wr := [(qM 12, rI cy 8 vM_letters_9), (qM 1, rI cy 900 vM_tape)]) (ws2 := (wX9_must cy aM qM vM_21 vM_letters_9 vM_tape)) (kRunV (As := [.int 1, .int (vM_9 4)]) (rest := []) ⟨hx, hb, hml, hown, ht0⟩ (kX9_wrong l D cy _ aM qM vM_9 (1 : Int32) (vM_9 4) vM_21 hc21 _ rfl) (cwV 2 ht0 (gV wd774 wd775 wd776 wd744 wd777) rfl rfl rfl (by decide +kernel) ⟨Nat.le_of_ble_eq_true rfl, Nat.le_of_ble_eq_true rfl⟩) hK hN hP hD [0] rfl (by decide) 0 8 rfl rfl rfl hl.1 rfl (Nat.le_of_ble_eq_true rfl) dX9_must_21 ⟨Nat.zero_le _, Nat.zero_le _⟩) hP hD hS hA [0] [1, 2] rfl rfl (by decide) (by decide) [2, 0, 1] (by decide) rfl rfl (fun H locs hP hD hS => ?_)
      exact J24 vM_letters_9 vM_21 H locs ls hP hD hS (lv_sub hl [] rfl) hok
def wsX9_mustName : List Cond := .code yX9_mustName cX9_mustName 1 none :: W0
abbrev wX9_mustName (cy : Nat → ClassId) (aM : Nat) (qM : Nat → Nat) (vM : Nat → Int32) (vM_letters : Nat → Int32) : va_W := [(aM, oX9 vM qM), (qM 12, rI cy 8 vM_letters)]
set_option maxHeartbeats 4000000 in
set_option maxRecDepth 100000 in
theorem kX9_mustName (l : Launch) (D : va_G) (cy : Nat → ClassId) (ad : (Nat → Nat) × (Nat → Nat)) (sz : Nat) (aM : Nat) (qM : Nat → Nat) (vM : Nat → Int32) (vM_letters : Nat → Int32) (z_vM : Nat → Int32) (hok : fX9_mustName vM vM_letters = some z_vM) (A : Nat → Prop) (hAe : va_A (wX9_mustName cy aM qM vM vM_letters) sz = A) : Met l yX9_mustName wsX9_mustName ({ frames := 5, cells := 0, slots := 0, locals := 108 } : Room) (kPreS D cy ad [.ref aM] (wX9_mustName cy aM qM vM vM_letters) sz A) (kQv D cy A (wX9_mustName cy aM qM z_vM vM_letters)) 0 0 A := by
  refine Met.ofW (cc := cX9_mustName) (maxL := 1) (ret := none) (by decide) rfl ?_
  intro p e s m args below meth c s₁ B hml hv
  obtain ⟨rfl, ⟨hsz, hP, hK, hD0, hN⟩, hSt⟩ := hv
  have hx := B.exec
  have hb := B.bytes
  have hr := B.returns
  have ht0 : ∀ w ∈ W0, w.before _ s = true := fun w h => atoms_spec (ws := wsX9_mustName) B.pre w (List.mem_cons_of_mem _ h)
  have hown : s.vm.findClass RX9 = some m.cls := findClass_of_methodNamed B.named
  have hlocks := B.notSynchronized
  subst hsz
  have hD : va_D A (wX9_mustName cy aM qM vM vM_letters) := by rw [← hAe]; exact hD0.self
  have hA : ∀ q : Nat, s.heap.size ≤ q → A q := fun q h => by rw [← hAe]; exact Or.inr h
  have hS : va_S A s.heap s.heap [] := va_S.rf
  have hl := lv_entry ([.ref aM]) (n := 1) (Nat.le_of_ble_eq_true rfl)
  rw [lg_entry_eq]
  generalize (lg_sl ([.ref aM]) ++ List.replicate (1 - (lg_sl ([.ref aM])).length) Slot.unset).toArray = ls at hl ⊢
  have hl : lv_has ls 1 [(0, .ref aM)] := hl
  generalize hQe : MQ below (kQv D cy A (wX9_mustName cy aM qM z_vM vM_letters)) ([.ref aM] : List Value).toArray s 0 0 A = Q
  have J89 : ∀ (vM_89 : Nat → Int32), ∀ (H : Heap) (locs : List Loc) (ls : Array Slot), va_P D vwCl (wX9_mustName cy aM qM vM_89 vM_letters) H → va_D A (wX9_mustName cy aM qM vM_89 vM_letters) → va_S A s.heap H locs → lv_has ls 1 [] → fX9_mustName_J89 vM_89 = some z_vM → W p l e ({ frames := 5, cells := 0, slots := 0, locals := 108 } : Room) s m ([.ref aM] : List Value).toArray below meth c H locs 0 0 Q (F0 m 89 ls []) := by
    intro vM_89 H locs ls hP hD hS hl hok
    unfold fX9_mustName_J89 at hok
    cases hok
    subst hQe; exact W.vret hx hb hr (fun t ht hW => ⟨⟨(), rfl, trivial, by rw [ht]; exact hP, va_K.moved hW.alike hK, hD⟩, hS.F ht⟩) hS.2.2 dX9_mustName_89
  have J80 : ∀ (H : Heap) (locs : List Loc) (ls : Array Slot), va_P D vwCl (wX9_mustName cy aM qM vM vM_letters) H → va_D A (wX9_mustName cy aM qM vM vM_letters) → va_S A s.heap H locs → lv_has ls 1 [(0, .ref aM)] → fX9_mustName_J80 vM = some z_vM → W p l e ({ frames := 5, cells := 0, slots := 0, locals := 108 } : Room) s m ([.ref aM] : List Value).toArray below meth c H locs 0 0 Q (F0 m 80 ls []) := by
    intro  H locs ls hP hD hS hl hok
    unfold fX9_mustName_J80 at hok
    refine lv_aload_n hx hb dX9_mustName_80 rfl (lv_at hl 0 rfl) ?_
    refine lv_iconst (v := 1) hx hb dX9_mustName_81 (by decide) ?_
    refine lv_aload_n hx hb dX9_mustName_82 rfl (lv_at hl 0 rfl) ?_
    refine va_get (D := D) (ci := 8) (v := .int (vM 4)) (C := RX9) (T := TX9) (N := 29) hx hb ht0 niX9 hown hK hP 0 rfl rfl 4 (by decide) (ht0 _ wd756) (fun _ h9 => h9) rfl dX9_mustName_83 ?_
    obtain ⟨vM_86, hc86, hok⟩ := k_bind hok
    refine kCv (wc := (wX9_wrong cy aM qM vM)) (wc2 := (wX9_wrong cy aM qM vM_86)) (wr := [(qM 12, rI cy 8 vM_letters)]) (ws2 := (wX9_mustName cy aM qM vM_86 vM_letters)) (kRunV (As := [.int 1, .int (vM 4)]) (rest := []) ⟨hx, hb, hml, hown, ht0⟩ (kX9_wrong l D cy _ aM qM vM (1 : Int32) (vM 4) vM_86 hc86 _ rfl) (cwV 2 ht0 (gV wd774 wd775 wd776 wd744 wd777) rfl rfl rfl (by decide +kernel) ⟨Nat.le_of_ble_eq_true rfl, Nat.le_of_ble_eq_true rfl⟩) hK hN hP hD [0] rfl (by decide) 0 8 rfl rfl rfl hl.1 rfl (Nat.le_of_ble_eq_true rfl) dX9_mustName_86 ⟨Nat.zero_le _, Nat.zero_le _⟩) hP hD hS hA [0] [1] rfl rfl (by decide) (by decide) [1, 0] (by decide) rfl rfl (fun H locs hP hD hS => ?_)
    exact J89 vM_86 H locs ls hP hD hS (lv_sub hl [] rfl) hok
  unfold fX9_mustName at hok
  obtain ⟨H, hH⟩ : ∃ H, H = s.heap := ⟨_, rfl⟩
  obtain ⟨locs, hlc⟩ : ∃ x : List Loc, x = [] := ⟨_, rfl⟩
  have hP : va_P D vwCl (wX9_mustName cy aM qM vM vM_letters) H := by rw [hH]; exact hP
  have hS : va_S A s.heap H locs := by rw [hH, hlc]; exact hS
  rw [show W p l e _ s m _ below meth c s.heap [] = W p l e _ s m _ below meth c H locs from by rw [hH, hlc]]
  refine lv_aload_n hx hb dX9_mustName_0 rfl (lv_at hl 0 rfl) ?_
  refine va_get (D := D) (ci := 8) (v := .int (vM 6)) (C := RX9) (T := TX9) (N := 29) hx hb ht0 niX9 hown hK hP 0 rfl rfl 6 (by decide) (ht0 _ wd740) (fun _ h9 => h9) rfl dX9_mustName_1 ?_
  refine lv_iconst (v := 2) hx hb dX9_mustName_4 (by decide) ?_
  refine lv_icmp_ne (tgt := 80) hx hb dX9_mustName_5 (by decide) (fun c5 => ?_) (fun c5 => ?_)
  · have hok := k_neg c5 hok
    exact J80  H locs ls hP hD hS (lv_sub hl [0] rfl) hok
  · have hok := k_pos c5 hok
    refine lv_aload_n hx hb dX9_mustName_8 rfl (lv_at hl 0 rfl) ?_
    refine va_ldcS hx hb hown (hSt.2.1 _ (List.mem_of_getElem? (i := 22) rfl)) dX9_mustName_9 ?_
    obtain ⟨r11, hc11, hok⟩ := k_bind hok
    refine kCi (wc := (wX9_isWord cy aM qM vM vM_letters)) (wc2 := (wX9_isWord cy aM qM vM vM_letters)) (wr := []) (ws2 := (wX9_mustName cy aM qM vM vM_letters)) (kRunVS (As := [.ref (ad.1 8)]) (rest := []) ⟨hx, hb, hml, hown, ht0⟩ (kX9_isWord l D cy ad _ aM qM vM vM_letters 8 r11 hc11 _ rfl) (cwV 1 ht0 (gV wd762 wd763 wd764 wd744 wd765) rfl rfl rfl (by decide +kernel) ⟨Nat.le_of_ble_eq_true rfl, Nat.le_of_ble_eq_true rfl⟩) hK hN hP hD hSt hS hA [0, 1] rfl (by decide) 0 8 rfl rfl rfl hl.1 rfl (Nat.le_of_ble_eq_true rfl) dX9_mustName_11 ⟨Nat.zero_le _, Nat.zero_le _⟩) hP hD hS hA [0, 1] [] rfl rfl (by decide) (by decide) [0, 1] (by decide) rfl rfl (fun H locs hP hD hS => ?_)
    refine lv_if_ne (tgt := 80) hx hb dX9_mustName_14 (by decide) (fun c14 => ?_) (fun c14 => ?_)
    · have hok := k_neg c14 hok
      exact J80  H locs ls hP hD hS (lv_sub hl [0] rfl) hok
    · have hok := k_pos c14 hok
      refine lv_aload_n hx hb dX9_mustName_17 rfl (lv_at hl 0 rfl) ?_
      refine va_ldcS hx hb hown (hSt.2.1 _ (List.mem_of_getElem? (i := 23) rfl)) dX9_mustName_18 ?_
      obtain ⟨r20, hc20, hok⟩ := k_bind hok
      refine kCi (wc := (wX9_isWord cy aM qM vM vM_letters)) (wc2 := (wX9_isWord cy aM qM vM vM_letters)) (wr := []) (ws2 := (wX9_mustName cy aM qM vM vM_letters)) (kRunVS (As := [.ref (ad.1 18)]) (rest := []) ⟨hx, hb, hml, hown, ht0⟩ (kX9_isWord l D cy ad _ aM qM vM vM_letters 18 r20 hc20 _ rfl) (cwV 1 ht0 (gV wd762 wd763 wd764 wd744 wd765) rfl rfl rfl (by decide +kernel) ⟨Nat.le_of_ble_eq_true rfl, Nat.le_of_ble_eq_true rfl⟩) hK hN hP hD hSt hS hA [0, 1] rfl (by decide) 0 8 rfl rfl rfl hl.1 rfl (Nat.le_of_ble_eq_true rfl) dX9_mustName_20 ⟨Nat.zero_le _, Nat.zero_le _⟩) hP hD hS hA [0, 1] [] rfl rfl (by decide) (by decide) [0, 1] (by decide) rfl rfl (fun H locs hP hD hS => ?_)
      refine lv_if_ne (tgt := 80) hx hb dX9_mustName_23 (by decide) (fun c23 => ?_) (fun c23 => ?_)
      · have hok := k_neg c23 hok
        exact J80  H locs ls hP hD hS (lv_sub hl [0] rfl) hok
      · have hok := k_pos c23 hok
        refine lv_aload_n hx hb dX9_mustName_26 rfl (lv_at hl 0 rfl) ?_
        refine va_ldcS hx hb hown (hSt.2.1 _ (List.mem_of_getElem? (i := 24) rfl)) dX9_mustName_27 ?_
        obtain ⟨r29, hc29, hok⟩ := k_bind hok
        refine kCi (wc := (wX9_isWord cy aM qM vM vM_letters)) (wc2 := (wX9_isWord cy aM qM vM vM_letters)) (wr := []) (ws2 := (wX9_mustName cy aM qM vM vM_letters)) (kRunVS (As := [.ref (ad.1 11)]) (rest := []) ⟨hx, hb, hml, hown, ht0⟩ (kX9_isWord l D cy ad _ aM qM vM vM_letters 11 r29 hc29 _ rfl) (cwV 1 ht0 (gV wd762 wd763 wd764 wd744 wd765) rfl rfl rfl (by decide +kernel) ⟨Nat.le_of_ble_eq_true rfl, Nat.le_of_ble_eq_true rfl⟩) hK hN hP hD hSt hS hA [0, 1] rfl (by decide) 0 8 rfl rfl rfl hl.1 rfl (Nat.le_of_ble_eq_true rfl) dX9_mustName_29 ⟨Nat.zero_le _, Nat.zero_le _⟩) hP hD hS hA [0, 1] [] rfl rfl (by decide) (by decide) [0, 1] (by decide) rfl rfl (fun H locs hP hD hS => ?_)
        refine lv_if_ne (tgt := 80) hx hb dX9_mustName_32 (by decide) (fun c32 => ?_) (fun c32 => ?_)
        · have hok := k_neg c32 hok
          exact J80  H locs ls hP hD hS (lv_sub hl [0] rfl) hok
        · have hok := k_pos c32 hok
          refine lv_aload_n hx hb dX9_mustName_35 rfl (lv_at hl 0 rfl) ?_
          refine va_ldcS hx hb hown (hSt.2.1 _ (List.mem_of_getElem? (i := 25) rfl)) dX9_mustName_36 ?_
          obtain ⟨r38, hc38, hok⟩ := k_bind hok
          refine kCi (wc := (wX9_isWord cy aM qM vM vM_letters)) (wc2 := (wX9_isWord cy aM qM vM vM_letters)) (wr := []) (ws2 := (wX9_mustName cy aM qM vM vM_letters)) (kRunVS (As := [.ref (ad.1 6)]) (rest := []) ⟨hx, hb, hml, hown, ht0⟩ (kX9_isWord l D cy ad _ aM qM vM vM_letters 6 r38 hc38 _ rfl) (cwV 1 ht0 (gV wd762 wd763 wd764 wd744 wd765) rfl rfl rfl (by decide +kernel) ⟨Nat.le_of_ble_eq_true rfl, Nat.le_of_ble_eq_true rfl⟩) hK hN hP hD hSt hS hA [0, 1] rfl (by decide) 0 8 rfl rfl rfl hl.1 rfl (Nat.le_of_ble_eq_true rfl) dX9_mustName_38 ⟨Nat.zero_le _, Nat.zero_le _⟩) hP hD hS hA [0, 1] [] rfl rfl (by decide) (by decide) [0, 1] (by decide) rfl rfl (fun H locs hP hD hS => ?_)
          refine lv_if_ne (tgt := 80) hx hb dX9_mustName_41 (by decide) (fun c41 => ?_) (fun c41 => ?_)
          · have hok := k_neg c41 hok
            exact J80  H locs ls hP hD hS (lv_sub hl [0] rfl) hok
          · have hok := k_pos c41 hok
            refine lv_aload_n hx hb dX9_mustName_44 rfl (lv_at hl 0 rfl) ?_
            refine va_ldcS hx hb hown (hSt.2.1 _ (List.mem_of_getElem? (i := 26) rfl)) dX9_mustName_45 ?_
            obtain ⟨r47, hc47, hok⟩ := k_bind hok
            refine kCi (wc := (wX9_isWord cy aM qM vM vM_letters)) (wc2 := (wX9_isWord cy aM qM vM vM_letters)) (wr := []) (ws2 := (wX9_mustName cy aM qM vM vM_letters)) (kRunVS (As := [.ref (ad.1 20)]) (rest := []) ⟨hx, hb, hml, hown, ht0⟩ (kX9_isWord l D cy ad _ aM qM vM vM_letters 20 r47 hc47 _ rfl) (cwV 1 ht0 (gV wd762 wd763 wd764 wd744 wd765) rfl rfl rfl (by decide +kernel) ⟨Nat.le_of_ble_eq_true rfl, Nat.le_of_ble_eq_true rfl⟩) hK hN hP hD hSt hS hA [0, 1] rfl (by decide) 0 8 rfl rfl rfl hl.1 rfl (Nat.le_of_ble_eq_true rfl) dX9_mustName_47 ⟨Nat.zero_le _, Nat.zero_le _⟩) hP hD hS hA [0, 1] [] rfl rfl (by decide) (by decide) [0, 1] (by decide) rfl rfl (fun H locs hP hD hS => ?_)
            refine lv_if_ne (tgt := 80) hx hb dX9_mustName_50 (by decide) (fun c50 => ?_) (fun c50 => ?_)
            · have hok := k_neg c50 hok
              exact J80  H locs ls hP hD hS (lv_sub hl [0] rfl) hok
            · have hok := k_pos c50 hok
              refine lv_aload_n hx hb dX9_mustName_53 rfl (lv_at hl 0 rfl) ?_
              refine va_ldcS hx hb hown (hSt.2.1 _ (List.mem_of_getElem? (i := 27) rfl)) dX9_mustName_54 ?_
              obtain ⟨r56, hc56, hok⟩ := k_bind hok
              refine kCi (wc := (wX9_isWord cy aM qM vM vM_letters)) (wc2 := (wX9_isWord cy aM qM vM vM_letters)) (wr := []) (ws2 := (wX9_mustName cy aM qM vM vM_letters)) (kRunVS (As := [.ref (ad.1 21)]) (rest := []) ⟨hx, hb, hml, hown, ht0⟩ (kX9_isWord l D cy ad _ aM qM vM vM_letters 21 r56 hc56 _ rfl) (cwV 1 ht0 (gV wd762 wd763 wd764 wd744 wd765) rfl rfl rfl (by decide +kernel) ⟨Nat.le_of_ble_eq_true rfl, Nat.le_of_ble_eq_true rfl⟩) hK hN hP hD hSt hS hA [0, 1] rfl (by decide) 0 8 rfl rfl rfl hl.1 rfl (Nat.le_of_ble_eq_true rfl) dX9_mustName_56 ⟨Nat.zero_le _, Nat.zero_le _⟩) hP hD hS hA [0, 1] [] rfl rfl (by decide) (by decide) [0, 1] (by decide) rfl rfl (fun H locs hP hD hS => ?_)
              refine lv_if_ne (tgt := 80) hx hb dX9_mustName_59 (by decide) (fun c59 => ?_) (fun c59 => ?_)
              · have hok := k_neg c59 hok
                exact J80  H locs ls hP hD hS (lv_sub hl [0] rfl) hok
              · have hok := k_pos c59 hok
                refine lv_aload_n hx hb dX9_mustName_62 rfl (lv_at hl 0 rfl) ?_
                refine va_ldcS hx hb hown (hSt.2.1 _ (List.mem_of_getElem? (i := 28) rfl)) dX9_mustName_63 ?_
                obtain ⟨r65, hc65, hok⟩ := k_bind hok
                refine kCi (wc := (wX9_isWord cy aM qM vM vM_letters)) (wc2 := (wX9_isWord cy aM qM vM vM_letters)) (wr := []) (ws2 := (wX9_mustName cy aM qM vM vM_letters)) (kRunVS (As := [.ref (ad.1 7)]) (rest := []) ⟨hx, hb, hml, hown, ht0⟩ (kX9_isWord l D cy ad _ aM qM vM vM_letters 7 r65 hc65 _ rfl) (cwV 1 ht0 (gV wd762 wd763 wd764 wd744 wd765) rfl rfl rfl (by decide +kernel) ⟨Nat.le_of_ble_eq_true rfl, Nat.le_of_ble_eq_true rfl⟩) hK hN hP hD hSt hS hA [0, 1] rfl (by decide) 0 8 rfl rfl rfl hl.1 rfl (Nat.le_of_ble_eq_true rfl) dX9_mustName_65 ⟨Nat.zero_le _, Nat.zero_le _⟩) hP hD hS hA [0, 1] [] rfl rfl (by decide) (by decide) [0, 1] (by decide) rfl rfl (fun H locs hP hD hS => ?_)
                refine lv_if_ne (tgt := 80) hx hb dX9_mustName_68 (by decide) (fun c68 => ?_) (fun c68 => ?_)
                · have hok := k_neg c68 hok
                  exact J80  H locs ls hP hD hS (lv_sub hl [0] rfl) hok
                · have hok := k_pos c68 hok
                  refine lv_aload_n hx hb dX9_mustName_71 rfl (lv_at hl 0 rfl) ?_
                  refine va_ldcS hx hb hown (hSt.2.1 _ (List.mem_of_getElem? (i := 29) rfl)) dX9_mustName_72 ?_
                  obtain ⟨r74, hc74, hok⟩ := k_bind hok
                  refine kCi (wc := (wX9_isWord cy aM qM vM vM_letters)) (wc2 := (wX9_isWord cy aM qM vM vM_letters)) (wr := []) (ws2 := (wX9_mustName cy aM qM vM vM_letters)) (kRunVS (As := [.ref (ad.1 10)]) (rest := []) ⟨hx, hb, hml, hown, ht0⟩ (kX9_isWord l D cy ad _ aM qM vM vM_letters 10 r74 hc74 _ rfl) (cwV 1 ht0 (gV wd762 wd763 wd764 wd744 wd765) rfl rfl rfl (by decide +kernel) ⟨Nat.le_of_ble_eq_true rfl, Nat.le_of_ble_eq_true rfl⟩) hK hN hP hD hSt hS hA [0, 1] rfl (by decide) 0 8 rfl rfl rfl hl.1 rfl (Nat.le_of_ble_eq_true rfl) dX9_mustName_74 ⟨Nat.zero_le _, Nat.zero_le _⟩) hP hD hS hA [0, 1] [] rfl rfl (by decide) (by decide) [0, 1] (by decide) rfl rfl (fun H locs hP hD hS => ?_)
                  refine lv_if_eq (tgt := 89) hx hb dX9_mustName_77 (by decide) (fun c77 => ?_) (fun c77 => ?_)
                  · have hok := k_pos c77 hok
                    exact J89 vM H locs ls hP hD hS (lv_sub hl [] rfl) hok
                  · have hok := k_neg c77 hok
                    exact J80  H locs ls hP hD hS (lv_sub hl [0] rfl) hok
def wsX9_find : List Cond := .code yX9_find cX9_find 4 (some .int) :: W0
abbrev wX9_find (cy : Nat → ClassId) (aM : Nat) (qM : Nat → Nat) (vM : Nat → Int32) (vM_fresh : Nat → Int32) (vM_letters : Nat → Int32) : va_W := [(aM, oX9 vM qM), (qM 16, rI cy 224 vM_fresh), (qM 12, rI cy 8 vM_letters)]
set_option maxHeartbeats 4000000 in
set_option maxRecDepth 100000 in
theorem kX9_find (l : Launch) (D : va_G) (cy : Nat → ClassId) (sz : Nat) (aM : Nat) (qM : Nat → Nat) (vM : Nat → Int32) (vM_fresh : Nat → Int32) (vM_letters : Nat → Int32) (zr : Int32) (hok : fX9_find vM vM_fresh vM_letters = some zr) (A : Nat → Prop) (hAe : va_A (wX9_find cy aM qM vM vM_fresh vM_letters) sz = A) : Met l yX9_find wsX9_find ({ frames := 0, cells := 0, slots := 0, locals := 0 } : Room) (kPre D cy [.ref aM] (wX9_find cy aM qM vM vM_fresh vM_letters) sz) (kQi D cy zr A (wX9_find cy aM qM vM vM_fresh vM_letters)) 0 0 A := by
  refine Met.ofW (cc := cX9_find) (maxL := 4) (ret := (some .int)) (by decide) rfl ?_
  intro p e s m args below meth c s₁ B hml hv
  obtain ⟨rfl, hsz, hP, hK, hD0, hN⟩ := hv
  have hx := B.exec
  have hb := B.bytes
  have hr := B.returns
  have ht0 : ∀ w ∈ W0, w.before _ s = true := fun w h => atoms_spec (ws := wsX9_find) B.pre w (List.mem_cons_of_mem _ h)
  have hown : s.vm.findClass RX9 = some m.cls := findClass_of_methodNamed B.named
  have hlocks := B.notSynchronized
  subst hsz
  have hD : va_D A (wX9_find cy aM qM vM vM_fresh vM_letters) := by rw [← hAe]; exact hD0.self
  have hA : ∀ q : Nat, s.heap.size ≤ q → A q := fun q h => by rw [← hAe]; exact Or.inr h
  have hS : va_S A s.heap s.heap [] := va_S.rf
  have hl := lv_entry ([.ref aM]) (n := 4) (Nat.le_of_ble_eq_true rfl)
  rw [lg_entry_eq]
  generalize (lg_sl ([.ref aM]) ++ List.replicate (4 - (lg_sl ([.ref aM])).length) Slot.unset).toArray = ls at hl ⊢
  have hl : lv_has ls 4 [(0, .ref aM)] := hl
  generalize hQe : MQ below (kQi D cy zr A (wX9_find cy aM qM vM vM_fresh vM_letters)) ([.ref aM] : List Value).toArray s 0 0 A = Q
  have L2 : ∀ (fuel : Nat) (y1_2 : Int32), ∀ (H : Heap) (locs : List Loc) (ls : Array Slot), va_P D vwCl (wX9_find cy aM qM vM vM_fresh vM_letters) H → va_D A (wX9_find cy aM qM vM vM_fresh vM_letters) → va_S A s.heap H locs → lv_has ls 4 [(0, .ref aM), (1, .int y1_2)] → lp (fX9_find_B2 vM vM_fresh vM_letters) fuel y1_2 = some zr → W p l e ({ frames := 0, cells := 0, slots := 0, locals := 0 } : Room) s m ([.ref aM] : List Value).toArray below meth c H locs 0 0 Q (F0 m 2 ls []) := by
    intro fuel
    induction fuel with
    | zero => intro y1_2 H locs ls hP hD hS hl hok; exact (lp_0 hok).elim
    | succ fuel ih2 =>
      intro y1_2 H locs ls hP hD hS hl hok
      obtain ⟨y2, hok, hL2, hR2⟩ := lp_step hok
      have J92 : ∀ (y2_92 : Int32), ∀ (H : Heap) (locs : List Loc) (ls : Array Slot), va_P D vwCl (wX9_find cy aM qM vM vM_fresh vM_letters) H → va_D A (wX9_find cy aM qM vM vM_fresh vM_letters) → va_S A s.heap H locs → lv_has ls 4 [(0, .ref aM), (1, .int y1_2), (2, .int y2_92)] → fX9_find_J92 y1_2 y2_92 = some y2 → W p l e ({ frames := 0, cells := 0, slots := 0, locals := 0 } : Room) s m ([.ref aM] : List Value).toArray below meth c H locs 0 0 Q (F0 m 92 ls []) := by
        intro y2_92 H locs ls hP hD hS hl hok
        unfold fX9_find_J92 at hok
        refine lv_iload_n hx hb dX9_find_92 rfl (lv_at hl 2 rfl) ?_
        refine lv_if_eq (tgt := 98) hx hb dX9_find_93 (by decide) (fun c93 => ?_) (fun c93 => ?_)
        · have hok := k_pos c93 hok
          refine lv_iinc (v := (y1_2 + 1)) (lv' := [(1, .int (y1_2 + 1)), (0, .ref aM), (2, .int y2_92)]) hx hb dX9_find_98 hl (k := 1) rfl (by first | rfl | decide) (by decide) rfl (fun ls hl => ?_)
          refine lv_goto (tgt := 2) hx hb dX9_find_101 (by decide) ?_
          exact ih2 (y1_2 + 1) H locs ls hP hD hS (lv_sub hl [1, 0] rfl) (hR2 _ (Option.some.inj hok).symm)
        · have hok := k_neg c93 hok
          obtain ⟨e2, hok, he2⟩ := ex_some hok
          have hok := hok.trans (congrArg some (hL2 _ he2))
          refine lv_iload_n hx hb dX9_find_96 rfl (lv_at hl 1 rfl) ?_
          cases hok
          subst hQe; exact W.iret hx hb hr (fun t ht hW => ⟨⟨_, (), rfl, rfl, by rw [ht]; exact hP, va_K.moved hW.alike hK, hD⟩, hS.F ht⟩) hS.2.2 dX9_find_97
      have L44 : ∀ (fuel : Nat) (y2_44 : Int32) (y3_44 : Int32), ∀ (H : Heap) (locs : List Loc) (ls : Array Slot), va_P D vwCl (wX9_find cy aM qM vM vM_fresh vM_letters) H → va_D A (wX9_find cy aM qM vM vM_fresh vM_letters) → va_S A s.heap H locs → lv_has ls 4 [(0, .ref aM), (1, .int y1_2), (2, .int y2_44), (3, .int y3_44)] → lp (fX9_find_B44 vM vM_fresh vM_letters y1_2) fuel (y2_44, y3_44) = some y2 → W p l e ({ frames := 0, cells := 0, slots := 0, locals := 0 } : Room) s m ([.ref aM] : List Value).toArray below meth c H locs 0 0 Q (F0 m 44 ls []) := by
        intro fuel
        induction fuel with
        | zero => intro y2_44 y3_44 H locs ls hP hD hS hl hok; exact (lp_0 hok).elim
        | succ fuel ih44 =>
          intro y2_44 y3_44 H locs ls hP hD hS hl hok
          obtain ⟨y44, hok, hL44, hR44⟩ := lp_step hok
          have J85 : ∀ (t0_85 : Int32), ∀ (H : Heap) (locs : List Loc) (ls : Array Slot), va_P D vwCl (wX9_find cy aM qM vM vM_fresh vM_letters) H → va_D A (wX9_find cy aM qM vM vM_fresh vM_letters) → va_S A s.heap H locs → lv_has ls 4 [(0, .ref aM), (1, .int y1_2), (3, .int y3_44)] → fX9_find_J85 y3_44 t0_85 = some y44 → W p l e ({ frames := 0, cells := 0, slots := 0, locals := 0 } : Room) s m ([.ref aM] : List Value).toArray below meth c H locs 0 0 Q (F0 m 85 ls [.int t0_85]) := by
            intro t0_85 H locs ls hP hD hS hl hok
            unfold fX9_find_J85 at hok
            refine lv_istore_n (lv' := [(2, .int t0_85), (0, .ref aM), (1, .int y1_2), (3, .int y3_44)]) hx hb dX9_find_85 rfl hl (by decide) rfl (fun ls hl => ?_)
            refine lv_iinc (v := (y3_44 + 1)) (lv' := [(3, .int (y3_44 + 1)), (2, .int t0_85), (0, .ref aM), (1, .int y1_2)]) hx hb dX9_find_86 hl (k := 3) rfl (by first | rfl | decide) (by decide) rfl (fun ls hl => ?_)
            refine lv_goto (tgt := 44) hx hb dX9_find_89 (by decide) ?_
            exact ih44 t0_85 (y3_44 + 1) H locs ls hP hD hS (lv_sub hl [2, 3, 1, 0] rfl) (hR44 _ (Option.some.inj hok).symm)
          unfold fX9_find_B44 at hok
          try dsimp only at hok
          refine lv_iload_n hx hb dX9_find_44 rfl (lv_at hl 3 rfl) ?_
          refine lv_aload_n hx hb dX9_find_45 rfl (lv_at hl 0 rfl) ?_
          refine va_get (D := D) (ci := 8) (v := .int (vM 8)) (C := RX9) (T := TX9) (N := 29) hx hb ht0 niX9 hown hK hP 0 rfl rfl 8 (by decide) (ht0 _ wd751) (fun _ h9 => h9) rfl dX9_find_46 ?_
          refine lv_icmp_ge (tgt := 92) hx hb dX9_find_49 (by decide) (fun c49 => ?_) (fun c49 => ?_)
          · have hok := k_pos c49 hok
            obtain ⟨e44, hok, he44⟩ := ex_some hok
            have hok := hok.trans (congrArg some (hL44 _ he44))
            exact J92 y2_44 H locs ls hP hD hS (lv_sub hl [0, 1, 2] rfl) hok
          · have hok := k_neg c49 hok
            refine lv_iload_n hx hb dX9_find_52 rfl (lv_at hl 2 rfl) ?_
            refine lv_if_eq (tgt := 92) hx hb dX9_find_53 (by decide) (fun c53 => ?_) (fun c53 => ?_)
            · have hok := k_pos c53 hok
              obtain ⟨e44, hok, he44⟩ := ex_some hok
              have hok := hok.trans (congrArg some (hL44 _ he44))
              exact J92 y2_44 H locs ls hP hD hS (lv_sub hl [0, 1, 2] rfl) hok
            · have hok := k_neg c53 hok
              refine lv_aload_n hx hb dX9_find_56 rfl (lv_at hl 0 rfl) ?_
              refine va_get (D := D) (ci := 8) (v := .ref (qM 16)) (C := RX9) (T := TX9) (N := 29) hx hb ht0 niX9 hown hK hP 0 rfl rfl 16 (by decide) (ht0 _ wd778) (fun _ h9 => h9) rfl dX9_find_57 ?_
              refine lv_sipush (v := 136) hx hb dX9_find_60 (by decide) ?_
              refine lv_bipush (v := 8) hx hb dX9_find_63 (by decide) ?_
              refine lv_iload_n hx hb dX9_find_65 rfl (lv_at hl 1 rfl) ?_
              refine lv_imul hx hb dX9_find_66 ?_
              refine lv_iadd hx hb dX9_find_67 ?_
              refine lv_iload_n hx hb dX9_find_68 rfl (lv_at hl 3 rfl) ?_
              refine lv_iadd hx hb dX9_find_69 ?_
              obtain ⟨g70, hok⟩ := gd_some hok
              refine va_iald hx hb hK hP 1 0 rfl rfl (okI_in g70) dX9_find_70 ?_
              refine lv_aload_n hx hb dX9_find_71 rfl (lv_at hl 0 rfl) ?_
              refine va_get (D := D) (ci := 8) (v := .ref (qM 12)) (C := RX9) (T := TX9) (N := 29) hx hb ht0 niX9 hown hK hP 0 rfl rfl 12 (by decide) (ht0 _ wd755) (fun _ h9 => h9) rfl dX9_find_72 ?_
              refine lv_iload_n hx hb dX9_find_75 rfl (lv_at hl 3 rfl) ?_
              obtain ⟨g76, hok⟩ := gd_some hok
              refine va_iald hx hb hK hP 2 0 rfl rfl (okI_in g76) dX9_find_76 ?_
              refine lv_icmp_ne (tgt := 84) hx hb dX9_find_77 (by decide) (fun c77 => ?_) (fun c77 => ?_)
              · have hok := k_neg c77 hok
                refine lv_iconst (v := 0) hx hb dX9_find_84 (by decide) ?_
                exact J85 (0 : Int32) H locs ls hP hD hS (lv_sub hl [0, 1, 3] rfl) hok
              · have hok := k_pos c77 hok
                refine lv_iconst (v := 1) hx hb dX9_find_80 (by decide) ?_
                refine lv_goto (tgt := 85) hx hb dX9_find_81 (by decide) ?_
                exact J85 (1 : Int32) H locs ls hP hD hS (lv_sub hl [0, 1, 3] rfl) hok
      have J41 : ∀ (t0_41 : Int32), ∀ (H : Heap) (locs : List Loc) (ls : Array Slot), va_P D vwCl (wX9_find cy aM qM vM vM_fresh vM_letters) H → va_D A (wX9_find cy aM qM vM vM_fresh vM_letters) → va_S A s.heap H locs → lv_has ls 4 [(0, .ref aM), (1, .int y1_2)] → fX9_find_J41 vM vM_fresh vM_letters y1_2 t0_41 = some y2 → W p l e ({ frames := 0, cells := 0, slots := 0, locals := 0 } : Room) s m ([.ref aM] : List Value).toArray below meth c H locs 0 0 Q (F0 m 41 ls [.int t0_41]) := by
        intro t0_41 H locs ls hP hD hS hl hok
        unfold fX9_find_J41 at hok
        refine lv_istore_n (lv' := [(2, .int t0_41), (0, .ref aM), (1, .int y1_2)]) hx hb dX9_find_41 rfl hl (by decide) rfl (fun ls hl => ?_)
        refine lv_iconst (v := 0) hx hb dX9_find_42 (by decide) ?_
        refine lv_istore_n (lv' := [(3, .int 0), (2, .int t0_41), (0, .ref aM), (1, .int y1_2)]) hx hb dX9_find_43 rfl hl (by decide) rfl (fun ls hl => ?_)
        exact L44 5000 t0_41 (0 : Int32) H locs ls hP hD hS (lv_sub hl [2, 3, 1, 0] rfl) hok
      have J40 : ∀ (H : Heap) (locs : List Loc) (ls : Array Slot), va_P D vwCl (wX9_find cy aM qM vM vM_fresh vM_letters) H → va_D A (wX9_find cy aM qM vM vM_fresh vM_letters) → va_S A s.heap H locs → lv_has ls 4 [(0, .ref aM), (1, .int y1_2)] → fX9_find_J40 vM vM_fresh vM_letters y1_2 = some y2 → W p l e ({ frames := 0, cells := 0, slots := 0, locals := 0 } : Room) s m ([.ref aM] : List Value).toArray below meth c H locs 0 0 Q (F0 m 40 ls []) := by
        intro  H locs ls hP hD hS hl hok
        unfold fX9_find_J40 at hok
        refine lv_iconst (v := 0) hx hb dX9_find_40 (by decide) ?_
        exact J41 (0 : Int32) H locs ls hP hD hS (lv_sub hl [0, 1] rfl) hok
      unfold fX9_find_B2 at hok
      refine lv_iload_n hx hb dX9_find_2 rfl (lv_at hl 1 rfl) ?_
      refine lv_bipush (v := 11) hx hb dX9_find_3 (by decide) ?_
      refine lv_icmp_ge (tgt := 104) hx hb dX9_find_5 (by decide) (fun c5 => ?_) (fun c5 => ?_)
      · have hok := k_pos c5 hok
        obtain ⟨e2, hok, he2⟩ := ex_some hok
        have hok := hok.trans (congrArg some (hL2 _ he2))
        refine lv_iconst (v := -1) hx hb dX9_find_104 (by decide) ?_
        cases hok
        subst hQe; exact W.iret hx hb hr (fun t ht hW => ⟨⟨_, (), rfl, rfl, by rw [ht]; exact hP, va_K.moved hW.alike hK, hD⟩, hS.F ht⟩) hS.2.2 dX9_find_105
      · have hok := k_neg c5 hok
        refine lv_aload_n hx hb dX9_find_8 rfl (lv_at hl 0 rfl) ?_
        refine va_get (D := D) (ci := 8) (v := .ref (qM 16)) (C := RX9) (T := TX9) (N := 29) hx hb ht0 niX9 hown hK hP 0 rfl rfl 16 (by decide) (ht0 _ wd778) (fun _ h9 => h9) rfl dX9_find_9 ?_
        refine lv_bipush (v := 125) hx hb dX9_find_12 (by decide) ?_
        refine lv_iload_n hx hb dX9_find_14 rfl (lv_at hl 1 rfl) ?_
        refine lv_iadd hx hb dX9_find_15 ?_
        obtain ⟨g16, hok⟩ := gd_some hok
        refine va_iald hx hb hK hP 1 0 rfl rfl (okI_in g16) dX9_find_16 ?_
        refine lv_if_le (tgt := 40) hx hb dX9_find_17 (by decide) (fun c17 => ?_) (fun c17 => ?_)
        · have hok := k_pos c17 hok
          exact J40  H locs ls hP hD hS (lv_sub hl [0, 1] rfl) hok
        · have hok := k_neg c17 hok
          refine lv_aload_n hx hb dX9_find_20 rfl (lv_at hl 0 rfl) ?_
          refine va_get (D := D) (ci := 8) (v := .ref (qM 16)) (C := RX9) (T := TX9) (N := 29) hx hb ht0 niX9 hown hK hP 0 rfl rfl 16 (by decide) (ht0 _ wd778) (fun _ h9 => h9) rfl dX9_find_21 ?_
          refine lv_bipush (v := 125) hx hb dX9_find_24 (by decide) ?_
          refine lv_iload_n hx hb dX9_find_26 rfl (lv_at hl 1 rfl) ?_
          refine lv_iadd hx hb dX9_find_27 ?_
          obtain ⟨g28, hok⟩ := gd_some hok
          refine va_iald hx hb hK hP 1 0 rfl rfl (okI_in g28) dX9_find_28 ?_
          refine lv_aload_n hx hb dX9_find_29 rfl (lv_at hl 0 rfl) ?_
          refine va_get (D := D) (ci := 8) (v := .int (vM 8)) (C := RX9) (T := TX9) (N := 29) hx hb ht0 niX9 hown hK hP 0 rfl rfl 8 (by decide) (ht0 _ wd751) (fun _ h9 => h9) rfl dX9_find_30 ?_
          refine lv_icmp_ne (tgt := 40) hx hb dX9_find_33 (by decide) (fun c33 => ?_) (fun c33 => ?_)
          · have hok := k_neg c33 hok
            exact J40  H locs ls hP hD hS (lv_sub hl [0, 1] rfl) hok
          · have hok := k_pos c33 hok
            refine lv_iconst (v := 1) hx hb dX9_find_36 (by decide) ?_
            refine lv_goto (tgt := 41) hx hb dX9_find_37 (by decide) ?_
            exact J41 (1 : Int32) H locs ls hP hD hS (lv_sub hl [0, 1] rfl) hok
  unfold fX9_find at hok
  obtain ⟨H, hH⟩ : ∃ H, H = s.heap := ⟨_, rfl⟩
  obtain ⟨locs, hlc⟩ : ∃ x : List Loc, x = [] := ⟨_, rfl⟩
  have hP : va_P D vwCl (wX9_find cy aM qM vM vM_fresh vM_letters) H := by rw [hH]; exact hP
  have hS : va_S A s.heap H locs := by rw [hH, hlc]; exact hS
  rw [show W p l e _ s m _ below meth c s.heap [] = W p l e _ s m _ below meth c H locs from by rw [hH, hlc]]
  refine lv_iconst (v := 0) hx hb dX9_find_0 (by decide) ?_
  refine lv_istore_n (lv' := [(1, .int 0), (0, .ref aM)]) hx hb dX9_find_1 rfl hl (by decide) rfl (fun ls hl => ?_)
  exact L2 5000 (0 : Int32) H locs ls hP hD hS (lv_sub hl [1, 0] rfl) hok
