def wsX9_seekRests : List Cond := .code yX9_seekRests cX9_seekRests 5 (some .int) :: W0
abbrev wX9_seekRests (cy : Nat → ClassId) (aM : Nat) (qM : Nat → Nat) (vM : Nat → Int32) : va_W := [(aM, oX9 vM qM)]
set_option maxHeartbeats 4000000 in
set_option maxRecDepth 100000 in
theorem kX9_seekRests (l : Launch) (D : va_G) (cy : Nat → ClassId) (sz : Nat) (aM : Nat) (qM : Nat → Nat) (vM : Nat → Int32) (x1 : Int32) (zr : Int32) (z_vM : Nat → Int32) (hok : fX9_seekRests vM x1 = some (zr, z_vM)) (A : Nat → Prop) (hAe : va_A (wX9_seekRests cy aM qM vM) sz = A) : Met l yX9_seekRests wsX9_seekRests ({ frames := 2, cells := 0, slots := 0, locals := 46 } : Room) (kPre D cy [.ref aM, .int x1] (wX9_seekRests cy aM qM vM) sz) (kQi D cy zr A (wX9_seekRests cy aM qM z_vM)) 0 0 A := by
  refine Met.ofW (cc := cX9_seekRests) (maxL := 5) (ret := (some .int)) (by decide) rfl ?_
  intro p e s m args below meth c s₁ B hml hv
  obtain ⟨rfl, hsz, hP, hK, hD0, hN⟩ := hv
  have hx := B.exec
  have hb := B.bytes
  have hr := B.returns
  have ht0 : ∀ w ∈ W0, w.before _ s = true := fun w h => atoms_spec (ws := wsX9_seekRests) B.pre w (List.mem_cons_of_mem _ h)
  have hown : s.vm.findClass RX9 = some m.cls := findClass_of_methodNamed B.named
  have hlocks := B.notSynchronized
  subst hsz
  have hD : va_D A (wX9_seekRests cy aM qM vM) := by rw [← hAe]; exact hD0.self
  have hA : ∀ q : Nat, s.heap.size ≤ q → A q := fun q h => by rw [← hAe]; exact Or.inr h
  have hS : va_S A s.heap s.heap [] := va_S.rf
  have hl := lv_entry ([.ref aM, .int x1]) (n := 5) (Nat.le_of_ble_eq_true rfl)
  rw [lg_entry_eq]
  generalize (lg_sl ([.ref aM, .int x1]) ++ List.replicate (5 - (lg_sl ([.ref aM, .int x1])).length) Slot.unset).toArray = ls at hl ⊢
  have hl : lv_has ls 5 [(0, .ref aM), (1, .int x1)] := hl
  generalize hQe : MQ below (kQi D cy zr A (wX9_seekRests cy aM qM z_vM)) ([.ref aM, .int x1] : List Value).toArray s 0 0 A = Q
  have L10 : ∀ (fuel : Nat) (y2_10 : Int32) (y3_10 : Int32) (vM_10 : Nat → Int32), ∀ (H : Heap) (locs : List Loc) (ls : Array Slot), va_P D vwCl (wX9_seekRests cy aM qM vM_10) H → va_D A (wX9_seekRests cy aM qM vM_10) → va_S A s.heap H locs → lv_has ls 5 [(0, .ref aM), (1, .int x1), (2, .int y2_10), (3, .int y3_10)] → lp (fX9_seekRests_B10 x1) fuel (y2_10, y3_10, vM_10) = some (zr, z_vM) → W p l e ({ frames := 2, cells := 0, slots := 0, locals := 46 } : Room) s m ([.ref aM, .int x1] : List Value).toArray below meth c H locs 0 0 Q (F0 m 10 ls []) := by
    intro fuel
    induction fuel with
    | zero => intro y2_10 y3_10 vM_10 H locs ls hP hD hS hl hok; exact (lp_0 hok).elim
    | succ fuel ih10 =>
      intro y2_10 y3_10 vM_10 H locs ls hP hD hS hl hok
      obtain ⟨y10, hok, hL10, hR10⟩ := lp_step hok
      have L19 : ∀ (fuel : Nat) (y2_19 : Int32) (y4_19 : Int32) (vM_19 : Nat → Int32), ∀ (H : Heap) (locs : List Loc) (ls : Array Slot), va_P D vwCl (wX9_seekRests cy aM qM vM_19) H → va_D A (wX9_seekRests cy aM qM vM_19) → va_S A s.heap H locs → lv_has ls 5 [(0, .ref aM), (1, .int x1), (2, .int y2_19), (3, .int y3_10), (4, .int y4_19)] → lp (fX9_seekRests_B19 x1 y3_10) fuel (y2_19, y4_19, vM_19) = some y10 → W p l e ({ frames := 2, cells := 0, slots := 0, locals := 46 } : Room) s m ([.ref aM, .int x1] : List Value).toArray below meth c H locs 0 0 Q (F0 m 19 ls []) := by
        intro fuel
        induction fuel with
        | zero => intro y2_19 y4_19 vM_19 H locs ls hP hD hS hl hok; exact (lp_0 hok).elim
        | succ fuel ih19 =>
          intro y2_19 y4_19 vM_19 H locs ls hP hD hS hl hok
          obtain ⟨y19, hok, hL19, hR19⟩ := lp_step hok
          have J57 : ∀ (y2_57 : Int32) (vM_57 : Nat → Int32), ∀ (H : Heap) (locs : List Loc) (ls : Array Slot), va_P D vwCl (wX9_seekRests cy aM qM vM_57) H → va_D A (wX9_seekRests cy aM qM vM_57) → va_S A s.heap H locs → lv_has ls 5 [(0, .ref aM), (1, .int x1), (2, .int y2_57), (3, .int y3_10), (4, .int y4_19)] → fX9_seekRests_J57 y4_19 y2_57 vM_57 = some y19 → W p l e ({ frames := 2, cells := 0, slots := 0, locals := 46 } : Room) s m ([.ref aM, .int x1] : List Value).toArray below meth c H locs 0 0 Q (F0 m 57 ls []) := by
            intro y2_57 vM_57 H locs ls hP hD hS hl hok
            unfold fX9_seekRests_J57 at hok
            refine lv_iinc (v := (y4_19 + 1)) (lv' := [(4, .int (y4_19 + 1)), (0, .ref aM), (1, .int x1), (2, .int y2_57), (3, .int y3_10)]) hx hb dX9_seekRests_57 hl (k := 4) rfl (by first | rfl | decide) (by decide) rfl (fun ls hl => ?_)
            refine lv_goto (tgt := 19) hx hb dX9_seekRests_60 (by decide) ?_
            exact ih19 y2_57 (y4_19 + 1) vM_57 H locs ls hP hD hS (lv_sub hl [1, 2, 3, 4, 0] rfl) (hR19 _ (Option.some.inj hok).symm)
          have J54 : ∀ (vM_54 : Nat → Int32), ∀ (H : Heap) (locs : List Loc) (ls : Array Slot), va_P D vwCl (wX9_seekRests cy aM qM vM_54) H → va_D A (wX9_seekRests cy aM qM vM_54) → va_S A s.heap H locs → lv_has ls 5 [(0, .ref aM), (1, .int x1), (2, .int y2_19), (3, .int y3_10), (4, .int y4_19)] → fX9_seekRests_J54 y2_19 y4_19 vM_54 = some y19 → W p l e ({ frames := 2, cells := 0, slots := 0, locals := 46 } : Room) s m ([.ref aM, .int x1] : List Value).toArray below meth c H locs 0 0 Q (F0 m 54 ls []) := by
            intro vM_54 H locs ls hP hD hS hl hok
            unfold fX9_seekRests_J54 at hok
            refine lv_iinc (v := (y2_19 + 1)) (lv' := [(2, .int (y2_19 + 1)), (0, .ref aM), (1, .int x1), (3, .int y3_10), (4, .int y4_19)]) hx hb dX9_seekRests_54 hl (k := 2) rfl (by first | rfl | decide) (by decide) rfl (fun ls hl => ?_)
            exact J57 (y2_19 + 1) vM_54 H locs ls hP hD hS (lv_sub hl [1, 2, 0, 3, 4] rfl) hok
          unfold fX9_seekRests_B19 at hok
          try dsimp only at hok
          refine lv_iload hx hb dX9_seekRests_19 (lv_at hl 4 rfl) ?_
          refine lv_bipush (v := 6) hx hb dX9_seekRests_21 (by decide) ?_
          refine lv_icmp_gt (tgt := 63) hx hb dX9_seekRests_23 (by decide) (fun c23 => ?_) (fun c23 => ?_)
          · have hok := k_pos c23 hok
            obtain ⟨e19, hok, he19⟩ := ex_some hok
            have hok := hok.trans (congrArg some (hL19 _ he19))
            refine lv_iinc (v := (y3_10 + 1)) (lv' := [(3, .int (y3_10 + 1)), (0, .ref aM), (1, .int x1), (2, .int y2_19), (4, .int y4_19)]) hx hb dX9_seekRests_63 hl (k := 3) rfl (by first | rfl | decide) (by decide) rfl (fun ls hl => ?_)
            refine lv_goto (tgt := 10) hx hb dX9_seekRests_66 (by decide) ?_
            exact ih10 y2_19 (y3_10 + 1) vM_19 H locs ls hP hD hS (lv_sub hl [1, 2, 3, 0] rfl) (hR10 _ (Option.some.inj hok).symm)
          · have hok := k_neg c23 hok
            refine lv_iload_n hx hb dX9_seekRests_26 rfl (lv_at hl 1 rfl) ?_
            refine lv_iload_n hx hb dX9_seekRests_27 rfl (lv_at hl 3 rfl) ?_
            refine lv_iload hx hb dX9_seekRests_28 (lv_at hl 4 rfl) ?_
            obtain ⟨r30, hc30, hok⟩ := k_bind hok
            refine kCi (wc := (wX9_isRest cy )) (wc2 := (wX9_isRest cy )) (wr := [(aM, oX9 vM_19 qM)]) (ws2 := (wX9_seekRests cy aM qM vM_19)) (kRunS (As := [.int x1, .int y3_10, .int y4_19]) (rest := []) ⟨hx, hb, hml, hown, ht0⟩ (kX9_isRest l D cy _ x1 y3_10 y4_19 r30 hc30 _ rfl) (va_cwS 3 ht0 (gS wd1003 wd1004 wd744 wd1005) rfl rfl rfl (by decide +kernel) ⟨Nat.le_of_ble_eq_true rfl, Nat.le_of_ble_eq_true rfl⟩) hK hN hP hD [] rfl (by decide) rfl hl.1 rfl (Nat.le_of_ble_eq_true rfl) dX9_seekRests_30 ⟨Nat.zero_le _, Nat.zero_le _⟩) hP hD hS hA [] [0] rfl rfl (by decide) (by decide) [0] (by decide) rfl rfl (fun H locs hP hD hS => ?_)
            refine lv_if_ne (tgt := 39) hx hb dX9_seekRests_33 (by decide) (fun c33 => ?_) (fun c33 => ?_)
            · have hok := k_neg c33 hok
              refine lv_iload_n hx hb dX9_seekRests_39 rfl (lv_at hl 2 rfl) ?_
              refine lv_if_ne (tgt := 54) hx hb dX9_seekRests_40 (by decide) (fun c40 => ?_) (fun c40 => ?_)
              · have hok := k_neg c40 hok
                exact J54 vM_19 H locs ls hP hD hS (lv_sub hl [0, 1, 2, 3, 4] rfl) hok
              · have hok := k_pos c40 hok
                refine lv_aload_n hx hb dX9_seekRests_43 rfl (lv_at hl 0 rfl) ?_
                refine lv_bipush (v := 10) hx hb dX9_seekRests_44 (by decide) ?_
                refine lv_iload_n hx hb dX9_seekRests_46 rfl (lv_at hl 3 rfl) ?_
                refine lv_imul hx hb dX9_seekRests_47 ?_
                refine lv_iload hx hb dX9_seekRests_48 (lv_at hl 4 rfl) ?_
                refine lv_iadd hx hb dX9_seekRests_50 ?_
                refine va_put (D := D) (ci := 8) (v := .int (((10 : Int32) * y3_10) + y4_19)) (ty := .int) (C := RX9) (T := TX9) (N := 29) hx hb ht0 niX9 tyX9 tyX9_ok nmX9 hown hK hP hD hS 0 rfl rfl 26 (by decide) (ht0 _ wd1006) (fun _ h9 => h9) rfl (by decide +kernel) rfl rfl (Nat.le_of_ble_eq_true rfl) dX9_seekRests_51 (fun H locs hP hD hS => ?_)
                have hP : va_P D vwCl (wX9_seekRests cy aM qM (upd vM_19 26 (((10 : Int32) * y3_10) + y4_19))) H := hP
                have hD : va_D A (wX9_seekRests cy aM qM (upd vM_19 26 (((10 : Int32) * y3_10) + y4_19))) := hD
                exact J54 (upd vM_19 26 (((10 : Int32) * y3_10) + y4_19)) H locs ls hP hD hS (lv_sub hl [0, 1, 2, 3, 4] rfl) hok
            · have hok := k_pos c33 hok
              refine lv_goto (tgt := 57) hx hb dX9_seekRests_36 (by decide) ?_
              exact J57 y2_19 vM_19 H locs ls hP hD hS (lv_sub hl [0, 1, 2, 3, 4] rfl) hok
      unfold fX9_seekRests_B10 at hok
      try dsimp only at hok
      refine lv_iload_n hx hb dX9_seekRests_10 rfl (lv_at hl 3 rfl) ?_
      refine lv_bipush (v := 6) hx hb dX9_seekRests_11 (by decide) ?_
      refine lv_icmp_gt (tgt := 69) hx hb dX9_seekRests_13 (by decide) (fun c13 => ?_) (fun c13 => ?_)
      · have hok := k_pos c13 hok
        obtain ⟨e10, hok, he10⟩ := ex_some hok
        have hok := hok.trans (congrArg some (hL10 _ he10))
        refine lv_iload_n hx hb dX9_seekRests_69 rfl (lv_at hl 2 rfl) ?_
        cases hok
        subst hQe; exact W.iret hx hb hr (fun t ht hW => ⟨⟨_, (), rfl, rfl, by rw [ht]; exact hP, va_K.moved hW.alike hK, hD⟩, hS.F ht⟩) hS.2.2 dX9_seekRests_70
      · have hok := k_neg c13 hok
        refine lv_iconst (v := 0) hx hb dX9_seekRests_16 (by decide) ?_
        refine lv_istore (lv' := [(4, .int 0), (0, .ref aM), (1, .int x1), (2, .int y2_10), (3, .int y3_10)]) hx hb dX9_seekRests_17 hl (by decide) rfl (fun ls hl => ?_)
        exact L19 5000 y2_10 (0 : Int32) vM_10 H locs ls hP hD hS (lv_sub hl [1, 2, 3, 4, 0] rfl) hok
  unfold fX9_seekRests at hok
  obtain ⟨H, hH⟩ : ∃ H, H = s.heap := ⟨_, rfl⟩
  obtain ⟨locs, hlc⟩ : ∃ x : List Loc, x = [] := ⟨_, rfl⟩
  have hP : va_P D vwCl (wX9_seekRests cy aM qM vM) H := by rw [hH]; exact hP
  have hS : va_S A s.heap H locs := by rw [hH, hlc]; exact hS
  rw [show W p l e _ s m _ below meth c s.heap [] = W p l e _ s m _ below meth c H locs from by rw [hH, hlc]]
  refine lv_iconst (v := 0) hx hb dX9_seekRests_0 (by decide) ?_
  refine lv_istore_n (lv' := [(2, .int 0), (0, .ref aM), (1, .int x1)]) hx hb dX9_seekRests_1 rfl hl (by decide) rfl (fun ls hl => ?_)
  refine lv_aload_n hx hb dX9_seekRests_2 rfl (lv_at hl 1 rfl) ?_
  refine lv_bipush (v := -2) hx hb dX9_seekRests_3 (by decide) ?_
  refine va_put (D := D) (ci := 8) (v := .int (-2)) (ty := .int) (C := RX9) (T := TX9) (N := 29) hx hb ht0 niX9 tyX9 tyX9_ok nmX9 hown hK hP hD hS 0 rfl rfl 26 (by decide) (ht0 _ wd1006) (fun _ h9 => h9) rfl (by decide +kernel) rfl rfl (Nat.le_of_ble_eq_true rfl) dX9_seekRests_5 (fun H locs hP hD hS => ?_)
  have hP : va_P D vwCl (wX9_seekRests cy aM qM (upd vM 26 (-2 : Int32))) H := hP
  have hD : va_D A (wX9_seekRests cy aM qM (upd vM 26 (-2 : Int32))) := hD
  refine lv_iconst (v := 0) hx hb dX9_seekRests_8 (by decide) ?_
  refine lv_istore_n (lv' := [(3, .int 0), (2, .int 0), (0, .ref aM), (1, .int x1)]) hx hb dX9_seekRests_9 rfl hl (by decide) rfl (fun ls hl => ?_)
  exact L10 5000 (0 : Int32) (0 : Int32) (upd vM 26 (-2 : Int32)) H locs ls hP hD hS (lv_sub hl [2, 3, 1, 0] rfl) hok
def wsX9_rests : List Cond := .code yX9_rests cX9_rests 3 (some .int) :: W0
abbrev wX9_rests (cy : Nat → ClassId) (aM : Nat) (qM : Nat → Nat) (vM : Nat → Int32) : va_W := [(aM, oX9 vM qM)]
set_option maxHeartbeats 4000000 in
set_option maxRecDepth 100000 in
theorem kX9_rests (l : Launch) (D : va_G) (cy : Nat → ClassId) (sz : Nat) (aM : Nat) (qM : Nat → Nat) (vM : Nat → Int32) (x1 : Int32) (zr : Int32) (z_vM : Nat → Int32) (hok : fX9_rests vM x1 = some (zr, z_vM)) (A : Nat → Prop) (hAe : va_A (wX9_rests cy aM qM vM) sz = A) : Met l yX9_rests wsX9_rests ({ frames := 3, cells := 0, slots := 0, locals := 70 } : Room) (kPre D cy [.ref aM, .int x1] (wX9_rests cy aM qM vM) sz) (kQi D cy zr A (wX9_rests cy aM qM z_vM)) 0 0 A := by
  refine Met.ofW (cc := cX9_rests) (maxL := 3) (ret := (some .int)) (by decide) rfl ?_
  intro p e s m args below meth c s₁ B hml hv
  obtain ⟨rfl, hsz, hP, hK, hD0, hN⟩ := hv
  have hx := B.exec
  have hb := B.bytes
  have hr := B.returns
  have ht0 : ∀ w ∈ W0, w.before _ s = true := fun w h => atoms_spec (ws := wsX9_rests) B.pre w (List.mem_cons_of_mem _ h)
  have hown : s.vm.findClass RX9 = some m.cls := findClass_of_methodNamed B.named
  have hlocks := B.notSynchronized
  subst hsz
  have hD : va_D A (wX9_rests cy aM qM vM) := by rw [← hAe]; exact hD0.self
  have hA : ∀ q : Nat, s.heap.size ≤ q → A q := fun q h => by rw [← hAe]; exact Or.inr h
  have hS : va_S A s.heap s.heap [] := va_S.rf
  have hl := lv_entry ([.ref aM, .int x1]) (n := 3) (Nat.le_of_ble_eq_true rfl)
  rw [lg_entry_eq]
  generalize (lg_sl ([.ref aM, .int x1]) ++ List.replicate (3 - (lg_sl ([.ref aM, .int x1])).length) Slot.unset).toArray = ls at hl ⊢
  have hl : lv_has ls 3 [(0, .ref aM), (1, .int x1)] := hl
  generalize hQe : MQ below (kQi D cy zr A (wX9_rests cy aM qM z_vM)) ([.ref aM, .int x1] : List Value).toArray s 0 0 A = Q
  have J33 : ∀ (t0_33 : Int32) (vM_33 : Nat → Int32), ∀ (H : Heap) (locs : List Loc) (ls : Array Slot), va_P D vwCl (wX9_rests cy aM qM vM_33) H → va_D A (wX9_rests cy aM qM vM_33) → va_S A s.heap H locs → lv_has ls 3 [] → fX9_rests_J33 t0_33 vM_33 = some (zr, z_vM) → W p l e ({ frames := 3, cells := 0, slots := 0, locals := 70 } : Room) s m ([.ref aM, .int x1] : List Value).toArray below meth c H locs 0 0 Q (F0 m 33 ls [.int t0_33]) := by
    intro t0_33 vM_33 H locs ls hP hD hS hl hok
    unfold fX9_rests_J33 at hok
    cases hok
    subst hQe; exact W.iret hx hb hr (fun t ht hW => ⟨⟨_, (), rfl, rfl, by rw [ht]; exact hP, va_K.moved hW.alike hK, hD⟩, hS.F ht⟩) hS.2.2 dX9_rests_33
  unfold fX9_rests at hok
  obtain ⟨H, hH⟩ : ∃ H, H = s.heap := ⟨_, rfl⟩
  obtain ⟨locs, hlc⟩ : ∃ x : List Loc, x = [] := ⟨_, rfl⟩
  have hP : va_P D vwCl (wX9_rests cy aM qM vM) H := by rw [hH]; exact hP
  have hS : va_S A s.heap H locs := by rw [hH, hlc]; exact hS
  rw [show W p l e _ s m _ below meth c s.heap [] = W p l e _ s m _ below meth c H locs from by rw [hH, hlc]]
  refine lv_aload_n hx hb dX9_rests_0 rfl (lv_at hl 0 rfl) ?_
  obtain ⟨vM_1, hc1, hok⟩ := k_bind hok
  refine kCv (wc := (wX9_good cy aM qM vM)) (wc2 := (wX9_good cy aM qM vM_1)) (wr := []) (ws2 := (wX9_rests cy aM qM vM_1)) (kRunV (As := []) (rest := []) ⟨hx, hb, hml, hown, ht0⟩ (kX9_good l D cy _ aM qM vM vM_1 hc1 _ rfl) (cwV 0 ht0 (gV wd870 wd871 wd872 wd744 wd873) rfl rfl rfl (by decide +kernel) ⟨Nat.le_of_ble_eq_true rfl, Nat.le_of_ble_eq_true rfl⟩) hK hN hP hD [0] rfl (by decide) 0 8 rfl rfl rfl hl.1 rfl (Nat.le_of_ble_eq_true rfl) dX9_rests_1 ⟨Nat.zero_le _, Nat.zero_le _⟩) hP hD hS hA [0] [] rfl rfl (by decide) (by decide) [0] (by decide) rfl rfl (fun H locs hP hD hS => ?_)
  refine lv_aload_n hx hb dX9_rests_4 rfl (lv_at hl 0 rfl) ?_
  refine lv_aload_n hx hb dX9_rests_5 rfl (lv_at hl 0 rfl) ?_
  refine va_get (D := D) (ci := 8) (v := .int (vM_1 14)) (C := RX9) (T := TX9) (N := 29) hx hb ht0 niX9 hown hK hP 0 rfl rfl 14 (by decide) (ht0 _ wd855) (fun _ h9 => h9) rfl dX9_rests_6 ?_
  refine lv_iload_n hx hb dX9_rests_9 rfl (lv_at hl 1 rfl) ?_
  refine lv_bipush (v := 99) hx hb dX9_rests_10 (by decide) ?_
  obtain ⟨r12, hc12, hok⟩ := k_bind hok
  refine kCi (wc := (wX9_why cy aM)) (wc2 := (wX9_why cy aM)) (wr := [(aM, oX9 vM_1 qM)]) (ws2 := (wX9_rests cy aM qM vM_1)) (kRunV (As := [.int (vM_1 14), .int x1, .int 99]) (rest := []) ⟨hx, hb, hml, hown, ht0⟩ (kX9_why l D cy _ aM (vM_1 14) x1 (99 : Int32) r12 hc12 _ rfl) (cwV 3 ht0 (gV wd944 wd945 wd946 wd744 wd947) rfl rfl rfl (by decide +kernel) ⟨Nat.le_of_ble_eq_true rfl, Nat.le_of_ble_eq_true rfl⟩) hK hN hP hD [] rfl (by decide) 0 8 rfl rfl rfl hl.1 rfl (Nat.le_of_ble_eq_true rfl) dX9_rests_12 ⟨Nat.zero_le _, Nat.zero_le _⟩) hP hD hS hA [] [0] rfl rfl (by decide) (by decide) [0] (by decide) rfl rfl (fun H locs hP hD hS => ?_)
  refine lv_istore_n (lv' := [(2, .int r12), (0, .ref aM), (1, .int x1)]) hx hb dX9_rests_15 rfl hl (by decide) rfl (fun ls hl => ?_)
  refine lv_iload_n hx hb dX9_rests_16 rfl (lv_at hl 0 rfl) ?_
  refine lv_if_eq (tgt := 28) hx hb dX9_rests_17 (by decide) (fun c17 => ?_) (fun c17 => ?_)
  · have hok := k_pos c17 hok
    refine lv_aload_n hx hb dX9_rests_28 rfl (lv_at hl 1 rfl) ?_
    refine lv_iload_n hx hb dX9_rests_29 rfl (lv_at hl 2 rfl) ?_
    obtain ⟨⟨r30, vM_30⟩, hc30, hok⟩ := k_bind hok
    try dsimp only at hok
    refine kCi (wc := (wX9_seekRests cy aM qM vM_1)) (wc2 := (wX9_seekRests cy aM qM vM_30)) (wr := []) (ws2 := (wX9_rests cy aM qM vM_30)) (kRunV (As := [.int x1]) (rest := []) ⟨hx, hb, hml, hown, ht0⟩ (kX9_seekRests l D cy _ aM qM vM_1 x1 r30 vM_30 hc30 _ rfl) (cwV 1 ht0 (gV wd1007 wd1008 wd1009 wd744 wd1010) rfl rfl rfl (by decide +kernel) ⟨Nat.le_of_ble_eq_true rfl, Nat.le_of_ble_eq_true rfl⟩) hK hN hP hD [0] rfl (by decide) 0 8 rfl rfl rfl hl.1 rfl (Nat.le_of_ble_eq_true rfl) dX9_rests_30 ⟨Nat.zero_le _, Nat.zero_le _⟩) hP hD hS hA [0] [] rfl rfl (by decide) (by decide) [0] (by decide) rfl rfl (fun H locs hP hD hS => ?_)
    exact J33 r30 vM_30 H locs ls hP hD hS (lv_sub hl [] rfl) hok
  · have hok := k_neg c17 hok
    refine lv_aload_n hx hb dX9_rests_20 rfl (lv_at hl 1 rfl) ?_
    refine lv_iload_n hx hb dX9_rests_21 rfl (lv_at hl 0 rfl) ?_
    obtain ⟨⟨r22, vM_22⟩, hc22, hok⟩ := k_bind hok
    try dsimp only at hok
    refine kCi (wc := (wX9_no cy aM qM vM_1)) (wc2 := (wX9_no cy aM qM vM_22)) (wr := []) (ws2 := (wX9_rests cy aM qM vM_22)) (kRunV (As := [.int r12]) (rest := []) ⟨hx, hb, hml, hown, ht0⟩ (kX9_no l D cy _ aM qM vM_1 r12 r22 vM_22 hc22 _ rfl) (cwV 1 ht0 (gV wd862 wd863 wd864 wd744 wd865) rfl rfl rfl (by decide +kernel) ⟨Nat.le_of_ble_eq_true rfl, Nat.le_of_ble_eq_true rfl⟩) hK hN hP hD [0] rfl (by decide) 0 8 rfl rfl rfl hl.1 rfl (Nat.le_of_ble_eq_true rfl) dX9_rests_22 ⟨Nat.zero_le _, Nat.zero_le _⟩) hP hD hS hA [0] [] rfl rfl (by decide) (by decide) [0] (by decide) rfl rfl (fun H locs hP hD hS => ?_)
    refine lv_goto (tgt := 33) hx hb dX9_rests_25 (by decide) ?_
    exact J33 r22 vM_22 H locs ls hP hD hS (lv_sub hl [] rfl) hok
def wsX9_rest : List Cond := .code yX9_rest cX9_rest 3 (some .int) :: W0
abbrev wX9_rest (cy : Nat → ClassId) (aM : Nat) (qM : Nat → Nat) (vM : Nat → Int32) : va_W := [(aM, oX9 vM qM)]
set_option maxHeartbeats 4000000 in
set_option maxRecDepth 100000 in
theorem kX9_rest (l : Launch) (D : va_G) (cy : Nat → ClassId) (sz : Nat) (aM : Nat) (qM : Nat → Nat) (vM : Nat → Int32) (x1 : Int32) (zr : Int32) (z_vM : Nat → Int32) (hok : fX9_rest vM x1 = some (zr, z_vM)) (A : Nat → Prop) (hAe : va_A (wX9_rest cy aM qM vM) sz = A) : Met l yX9_rest wsX9_rest ({ frames := 3, cells := 0, slots := 0, locals := 70 } : Room) (kPre D cy [.ref aM, .int x1] (wX9_rest cy aM qM vM) sz) (kQi D cy zr A (wX9_rest cy aM qM z_vM)) 0 0 A := by
  refine Met.ofW (cc := cX9_rest) (maxL := 3) (ret := (some .int)) (by decide) rfl ?_
  intro p e s m args below meth c s₁ B hml hv
  obtain ⟨rfl, hsz, hP, hK, hD0, hN⟩ := hv
  have hx := B.exec
  have hb := B.bytes
  have hr := B.returns
  have ht0 : ∀ w ∈ W0, w.before _ s = true := fun w h => atoms_spec (ws := wsX9_rest) B.pre w (List.mem_cons_of_mem _ h)
  have hown : s.vm.findClass RX9 = some m.cls := findClass_of_methodNamed B.named
  have hlocks := B.notSynchronized
  subst hsz
  have hD : va_D A (wX9_rest cy aM qM vM) := by rw [← hAe]; exact hD0.self
  have hA : ∀ q : Nat, s.heap.size ≤ q → A q := fun q h => by rw [← hAe]; exact Or.inr h
  have hS : va_S A s.heap s.heap [] := va_S.rf
  have hl := lv_entry ([.ref aM, .int x1]) (n := 3) (Nat.le_of_ble_eq_true rfl)
  rw [lg_entry_eq]
  generalize (lg_sl ([.ref aM, .int x1]) ++ List.replicate (3 - (lg_sl ([.ref aM, .int x1])).length) Slot.unset).toArray = ls at hl ⊢
  have hl : lv_has ls 3 [(0, .ref aM), (1, .int x1)] := hl
  unfold fX9_rest at hok
  obtain ⟨H, hH⟩ : ∃ H, H = s.heap := ⟨_, rfl⟩
  obtain ⟨locs, hlc⟩ : ∃ x : List Loc, x = [] := ⟨_, rfl⟩
  have hP : va_P D vwCl (wX9_rest cy aM qM vM) H := by rw [hH]; exact hP
  have hS : va_S A s.heap H locs := by rw [hH, hlc]; exact hS
  rw [show W p l e _ s m _ below meth c s.heap [] = W p l e _ s m _ below meth c H locs from by rw [hH, hlc]]
  refine lv_aload_n hx hb dX9_rest_0 rfl (lv_at hl 0 rfl) ?_
  obtain ⟨vM_1, hc1, hok⟩ := k_bind hok
  refine kCv (wc := (wX9_good cy aM qM vM)) (wc2 := (wX9_good cy aM qM vM_1)) (wr := []) (ws2 := (wX9_rest cy aM qM vM_1)) (kRunV (As := []) (rest := []) ⟨hx, hb, hml, hown, ht0⟩ (kX9_good l D cy _ aM qM vM vM_1 hc1 _ rfl) (cwV 0 ht0 (gV wd870 wd871 wd872 wd744 wd873) rfl rfl rfl (by decide +kernel) ⟨Nat.le_of_ble_eq_true rfl, Nat.le_of_ble_eq_true rfl⟩) hK hN hP hD [0] rfl (by decide) 0 8 rfl rfl rfl hl.1 rfl (Nat.le_of_ble_eq_true rfl) dX9_rest_1 ⟨Nat.zero_le _, Nat.zero_le _⟩) hP hD hS hA [0] [] rfl rfl (by decide) (by decide) [0] (by decide) rfl rfl (fun H locs hP hD hS => ?_)
  refine lv_aload_n hx hb dX9_rest_4 rfl (lv_at hl 0 rfl) ?_
  refine lv_aload_n hx hb dX9_rest_5 rfl (lv_at hl 0 rfl) ?_
  refine va_get (D := D) (ci := 8) (v := .int (vM_1 14)) (C := RX9) (T := TX9) (N := 29) hx hb ht0 niX9 hown hK hP 0 rfl rfl 14 (by decide) (ht0 _ wd855) (fun _ h9 => h9) rfl dX9_rest_6 ?_
  refine lv_iload_n hx hb dX9_rest_9 rfl (lv_at hl 1 rfl) ?_
  refine lv_bipush (v := 99) hx hb dX9_rest_10 (by decide) ?_
  obtain ⟨r12, hc12, hok⟩ := k_bind hok
  refine kCi (wc := (wX9_why cy aM)) (wc2 := (wX9_why cy aM)) (wr := [(aM, oX9 vM_1 qM)]) (ws2 := (wX9_rest cy aM qM vM_1)) (kRunV (As := [.int (vM_1 14), .int x1, .int 99]) (rest := []) ⟨hx, hb, hml, hown, ht0⟩ (kX9_why l D cy _ aM (vM_1 14) x1 (99 : Int32) r12 hc12 _ rfl) (cwV 3 ht0 (gV wd944 wd945 wd946 wd744 wd947) rfl rfl rfl (by decide +kernel) ⟨Nat.le_of_ble_eq_true rfl, Nat.le_of_ble_eq_true rfl⟩) hK hN hP hD [] rfl (by decide) 0 8 rfl rfl rfl hl.1 rfl (Nat.le_of_ble_eq_true rfl) dX9_rest_12 ⟨Nat.zero_le _, Nat.zero_le _⟩) hP hD hS hA [] [0] rfl rfl (by decide) (by decide) [0] (by decide) rfl rfl (fun H locs hP hD hS => ?_)
  refine lv_istore_n (lv' := [(2, .int r12), (0, .ref aM), (1, .int x1)]) hx hb dX9_rest_15 rfl hl (by decide) rfl (fun ls hl => ?_)
  refine lv_iload_n hx hb dX9_rest_16 rfl (lv_at hl 0 rfl) ?_
  refine lv_if_eq (tgt := 26) hx hb dX9_rest_17 (by decide) (fun c17 => ?_) (fun c17 => ?_)
  · have hok := k_pos c17 hok
    refine lv_aload_n hx hb dX9_rest_26 rfl (lv_at hl 1 rfl) ?_
    refine lv_iload_n hx hb dX9_rest_27 rfl (lv_at hl 2 rfl) ?_
    obtain ⟨⟨r28, vM_28⟩, hc28, hok⟩ := k_bind hok
    try dsimp only at hok
    refine kCi (wc := (wX9_seekRests cy aM qM vM_1)) (wc2 := (wX9_seekRests cy aM qM vM_28)) (wr := []) (ws2 := (wX9_rest cy aM qM vM_28)) (kRunV (As := [.int x1]) (rest := []) ⟨hx, hb, hml, hown, ht0⟩ (kX9_seekRests l D cy _ aM qM vM_1 x1 r28 vM_28 hc28 _ rfl) (cwV 1 ht0 (gV wd1007 wd1008 wd1009 wd744 wd1010) rfl rfl rfl (by decide +kernel) ⟨Nat.le_of_ble_eq_true rfl, Nat.le_of_ble_eq_true rfl⟩) hK hN hP hD [0] rfl (by decide) 0 8 rfl rfl rfl hl.1 rfl (Nat.le_of_ble_eq_true rfl) dX9_rest_28 ⟨Nat.zero_le _, Nat.zero_le _⟩) hP hD hS hA [0] [] rfl rfl (by decide) (by decide) [0] (by decide) rfl rfl (fun H locs hP hD hS => ?_)
    refine lv_pop hx hb dX9_rest_31 rfl ?_
    refine lv_aload_n hx hb dX9_rest_32 rfl (lv_at hl 1 rfl) ?_
    refine va_get (D := D) (ci := 8) (v := .int (vM_28 26)) (C := RX9) (T := TX9) (N := 29) hx hb ht0 niX9 hown hK hP 0 rfl rfl 26 (by decide) (ht0 _ wd1006) (fun _ h9 => h9) rfl dX9_rest_33 ?_
    cases hok
    exact W.iret hx hb hr (fun t ht hW => ⟨⟨_, (), rfl, rfl, by rw [ht]; exact hP, va_K.moved hW.alike hK, hD⟩, hS.F ht⟩) hS.2.2 dX9_rest_36
  · have hok := k_neg c17 hok
    refine lv_aload_n hx hb dX9_rest_20 rfl (lv_at hl 1 rfl) ?_
    refine lv_iload_n hx hb dX9_rest_21 rfl (lv_at hl 0 rfl) ?_
    obtain ⟨⟨r22, vM_22⟩, hc22, hok⟩ := k_bind hok
    try dsimp only at hok
    refine kCi (wc := (wX9_no cy aM qM vM_1)) (wc2 := (wX9_no cy aM qM vM_22)) (wr := []) (ws2 := (wX9_rest cy aM qM vM_22)) (kRunV (As := [.int r12]) (rest := []) ⟨hx, hb, hml, hown, ht0⟩ (kX9_no l D cy _ aM qM vM_1 r12 r22 vM_22 hc22 _ rfl) (cwV 1 ht0 (gV wd862 wd863 wd864 wd744 wd865) rfl rfl rfl (by decide +kernel) ⟨Nat.le_of_ble_eq_true rfl, Nat.le_of_ble_eq_true rfl⟩) hK hN hP hD [0] rfl (by decide) 0 8 rfl rfl rfl hl.1 rfl (Nat.le_of_ble_eq_true rfl) dX9_rest_22 ⟨Nat.zero_le _, Nat.zero_le _⟩) hP hD hS hA [0] [] rfl rfl (by decide) (by decide) [0] (by decide) rfl rfl (fun H locs hP hD hS => ?_)
    cases hok
    exact W.iret hx hb hr (fun t ht hW => ⟨⟨_, (), rfl, rfl, by rw [ht]; exact hP, va_K.moved hW.alike hK, hD⟩, hS.F ht⟩) hS.2.2 dX9_rest_25
def wsX9_dampWhy : List Cond := .code yX9_dampWhy cX9_dampWhy 10 (some .int) :: W0
abbrev wX9_dampWhy (cy : Nat → ClassId) (aM : Nat) (qM : Nat → Nat) (vM : Nat → Int32) (vM_st : Nat → Int32) (vM_trial : Nat → Int32) (vM_r : Nat → Int32) : va_W := [(aM, oX9 vM qM), (qM 17, rI cy 9 vM_st), (qM 22, rI cy 9 vM_trial), (qM 15, rI cy 224 vM_r)]
set_option maxHeartbeats 4000000 in
set_option maxRecDepth 100000 in
theorem kX9_dampWhy (l : Launch) (D : va_G) (cy : Nat → ClassId) (sz : Nat) (aM : Nat) (qM : Nat → Nat) (vM : Nat → Int32) (vM_st : Nat → Int32) (vM_trial : Nat → Int32) (vM_r : Nat → Int32) (x1 : Int32) (x2 : Int32) (x3 : Int32) (x4 : Int32) (x5 : Int32) (zr : Int32) (z_vM : Nat → Int32) (z_vM_trial : Nat → Int32) (hok : fX9_dampWhy vM vM_st vM_trial vM_r x1 x2 x3 x4 x5 = some (zr, z_vM, z_vM_trial)) (A : Nat → Prop) (hAe : va_A (wX9_dampWhy cy aM qM vM vM_st vM_trial vM_r) sz = A) : Met l yX9_dampWhy wsX9_dampWhy ({ frames := 3, cells := 0, slots := 0, locals := 71 } : Room) (kPre D cy [.ref aM, .int x1, .int x2, .int x3, .int x4, .int x5] (wX9_dampWhy cy aM qM vM vM_st vM_trial vM_r) sz) (kQi D cy zr A (wX9_dampWhy cy aM qM z_vM vM_st z_vM_trial vM_r)) 0 0 A := by
  refine Met.ofW (cc := cX9_dampWhy) (maxL := 10) (ret := (some .int)) (by decide) rfl ?_
  intro p e s m args below meth c s₁ B hml hv
  obtain ⟨rfl, hsz, hP, hK, hD0, hN⟩ := hv
  have hx := B.exec
  have hb := B.bytes
  have hr := B.returns
  have ht0 : ∀ w ∈ W0, w.before _ s = true := fun w h => atoms_spec (ws := wsX9_dampWhy) B.pre w (List.mem_cons_of_mem _ h)
  have hown : s.vm.findClass RX9 = some m.cls := findClass_of_methodNamed B.named
  have hlocks := B.notSynchronized
  subst hsz
  have hD : va_D A (wX9_dampWhy cy aM qM vM vM_st vM_trial vM_r) := by rw [← hAe]; exact hD0.self
  have hA : ∀ q : Nat, s.heap.size ≤ q → A q := fun q h => by rw [← hAe]; exact Or.inr h
  have hS : va_S A s.heap s.heap [] := va_S.rf
  have hl := lv_entry ([.ref aM, .int x1, .int x2, .int x3, .int x4, .int x5]) (n := 10) (Nat.le_of_ble_eq_true rfl)
  rw [lg_entry_eq]
  generalize (lg_sl ([.ref aM, .int x1, .int x2, .int x3, .int x4, .int x5]) ++ List.replicate (10 - (lg_sl ([.ref aM, .int x1, .int x2, .int x3, .int x4, .int x5])).length) Slot.unset).toArray = ls at hl ⊢
  have hl : lv_has ls 10 [(0, .ref aM), (1, .int x1), (2, .int x2), (3, .int x3), (4, .int x4), (5, .int x5)] := hl
  generalize hQe : MQ below (kQi D cy zr A (wX9_dampWhy cy aM qM z_vM vM_st z_vM_trial vM_r)) ([.ref aM, .int x1, .int x2, .int x3, .int x4, .int x5] : List Value).toArray s 0 0 A = Q
  have L49 : ∀ (fuel : Nat) (y6_49 : Int32) (y7_49 : Int32) (vM_trial_49 : Nat → Int32) (vM_49 : Nat → Int32), ∀ (H : Heap) (locs : List Loc) (ls : Array Slot), va_P D vwCl (wX9_dampWhy cy aM qM vM_49 vM_st vM_trial_49 vM_r) H → va_D A (wX9_dampWhy cy aM qM vM_49 vM_st vM_trial_49 vM_r) → va_S A s.heap H locs → lv_has ls 10 [(0, .ref aM), (3, .int x3), (4, .int x4), (5, .int x5), (6, .int y6_49), (7, .int y7_49)] → lp (fX9_dampWhy_B49 vM_r x3 x4 x5) fuel (y6_49, y7_49, vM_trial_49, vM_49) = some (zr, z_vM, z_vM_trial) → W p l e ({ frames := 3, cells := 0, slots := 0, locals := 71 } : Room) s m ([.ref aM, .int x1, .int x2, .int x3, .int x4, .int x5] : List Value).toArray below meth c H locs 0 0 Q (F0 m 49 ls []) := by
    intro fuel
    induction fuel with
    | zero => intro y6_49 y7_49 vM_trial_49 vM_49 H locs ls hP hD hS hl hok; exact (lp_0 hok).elim
    | succ fuel ih49 =>
      intro y6_49 y7_49 vM_trial_49 vM_49 H locs ls hP hD hS hl hok
      obtain ⟨y49, hok, hL49, hR49⟩ := lp_step hok
      have J192 : ∀ (y6_192 : Int32) (vM_trial_192 : Nat → Int32) (vM_192 : Nat → Int32), ∀ (H : Heap) (locs : List Loc) (ls : Array Slot), va_P D vwCl (wX9_dampWhy cy aM qM vM_192 vM_st vM_trial_192 vM_r) H → va_D A (wX9_dampWhy cy aM qM vM_192 vM_st vM_trial_192 vM_r) → va_S A s.heap H locs → lv_has ls 10 [(0, .ref aM), (3, .int x3), (4, .int x4), (5, .int x5), (6, .int y6_192), (7, .int y7_49)] → fX9_dampWhy_J192 y7_49 y6_192 vM_trial_192 vM_192 = some y49 → W p l e ({ frames := 3, cells := 0, slots := 0, locals := 71 } : Room) s m ([.ref aM, .int x1, .int x2, .int x3, .int x4, .int x5] : List Value).toArray below meth c H locs 0 0 Q (F0 m 192 ls []) := by
        intro y6_192 vM_trial_192 vM_192 H locs ls hP hD hS hl hok
        unfold fX9_dampWhy_J192 at hok
        refine lv_iinc (v := (y7_49 + 1)) (lv' := [(7, .int (y7_49 + 1)), (0, .ref aM), (3, .int x3), (4, .int x4), (5, .int x5), (6, .int y6_192)]) hx hb dX9_dampWhy_192 hl (k := 5) rfl (by first | rfl | decide) (by decide) rfl (fun ls hl => ?_)
        refine lv_goto (tgt := 49) hx hb dX9_dampWhy_195 (by decide) ?_
        exact ih49 y6_192 (y7_49 + 1) vM_trial_192 vM_192 H locs ls hP hD hS (lv_sub hl [1, 2, 3, 4, 5, 0] rfl) (hR49 _ (Option.some.inj hok).symm)
      have L68 : ∀ (fuel : Nat) (y6_68 : Int32) (y8_68 : Int32) (y9_68 : Int32), ∀ (H : Heap) (locs : List Loc) (ls : Array Slot), va_P D vwCl (wX9_dampWhy cy aM qM vM_49 vM_st vM_trial_49 vM_r) H → va_D A (wX9_dampWhy cy aM qM vM_49 vM_st vM_trial_49 vM_r) → va_S A s.heap H locs → lv_has ls 10 [(0, .ref aM), (3, .int x3), (4, .int x4), (5, .int x5), (6, .int y6_68), (7, .int y7_49), (8, .int y8_68), (9, .int y9_68)] → lp (fX9_dampWhy_B68 vM_r x4 x5 y7_49 vM_trial_49 vM_49) fuel (y6_68, y8_68, y9_68) = some y49 → W p l e ({ frames := 3, cells := 0, slots := 0, locals := 71 } : Room) s m ([.ref aM, .int x1, .int x2, .int x3, .int x4, .int x5] : List Value).toArray below meth c H locs 0 0 Q (F0 m 68 ls []) := by
        intro fuel
        induction fuel with
        | zero => intro y6_68 y8_68 y9_68 H locs ls hP hD hS hl hok; exact (lp_0 hok).elim
        | succ fuel ih68 =>
          intro y6_68 y8_68 y9_68 H locs ls hP hD hS hl hok
          obtain ⟨y68, hok, hL68, hR68⟩ := lp_step hok
          have J117 : ∀ (t0_117 : Int32), ∀ (H : Heap) (locs : List Loc) (ls : Array Slot), va_P D vwCl (wX9_dampWhy cy aM qM vM_49 vM_st vM_trial_49 vM_r) H → va_D A (wX9_dampWhy cy aM qM vM_49 vM_st vM_trial_49 vM_r) → va_S A s.heap H locs → lv_has ls 10 [(0, .ref aM), (3, .int x3), (4, .int x4), (5, .int x5), (6, .int (irm (((75 : Int32) * y6_68) + (74 : Int32)) (65537 : Int32))), (7, .int y7_49), (9, .int y9_68)] → fX9_dampWhy_J117 y6_68 y8_68 y9_68 t0_117 = some y68 → W p l e ({ frames := 3, cells := 0, slots := 0, locals := 71 } : Room) s m ([.ref aM, .int x1, .int x2, .int x3, .int x4, .int x5] : List Value).toArray below meth c H locs 0 0 Q (F0 m 117 ls [.int t0_117, .int y8_68]) := by
            intro t0_117 H locs ls hP hD hS hl hok
            unfold fX9_dampWhy_J117 at hok
            refine lv_ior hx hb dX9_dampWhy_117 ?_
            refine lv_istore (lv' := [(8, .int (y8_68 ||| t0_117)), (0, .ref aM), (3, .int x3), (4, .int x4), (5, .int x5), (6, .int (irm (((75 : Int32) * y6_68) + (74 : Int32)) (65537 : Int32))), (7, .int y7_49), (9, .int y9_68)]) hx hb dX9_dampWhy_118 hl (by decide) rfl (fun ls hl => ?_)
            refine lv_iinc (v := (y9_68 + 1)) (lv' := [(9, .int (y9_68 + 1)), (8, .int (y8_68 ||| t0_117)), (0, .ref aM), (3, .int x3), (4, .int x4), (5, .int x5), (6, .int (irm (((75 : Int32) * y6_68) + (74 : Int32)) (65537 : Int32))), (7, .int y7_49)]) hx hb dX9_dampWhy_120 hl (k := 7) rfl (by first | rfl | decide) (by decide) rfl (fun ls hl => ?_)
            refine lv_goto (tgt := 68) hx hb dX9_dampWhy_123 (by decide) ?_
            exact ih68 (irm (((75 : Int32) * y6_68) + (74 : Int32)) (65537 : Int32)) (y8_68 ||| t0_117) (y9_68 + 1) H locs ls hP hD hS (lv_sub hl [2, 3, 4, 5, 6, 7, 1, 0] rfl) (hR68 _ (Option.some.inj hok).symm)
          unfold fX9_dampWhy_B68 at hok
          try dsimp only at hok
          refine lv_iload hx hb dX9_dampWhy_68 (lv_at hl 7 rfl) ?_
          refine lv_aload_n hx hb dX9_dampWhy_70 rfl (lv_at hl 0 rfl) ?_
          refine va_get (D := D) (ci := 8) (v := .ref (qM 15)) (C := RX9) (T := TX9) (N := 29) hx hb ht0 niX9 hown hK hP 0 rfl rfl 15 (by decide) (ht0 _ wd854) (fun _ h9 => h9) rfl dX9_dampWhy_71 ?_
          refine lv_iconst (v := 3) hx hb dX9_dampWhy_74 (by decide) ?_
          obtain ⟨g75, hok⟩ := gd_some hok
          refine va_iald hx hb hK hP 3 0 rfl rfl (okI_in g75) dX9_dampWhy_75 ?_
          refine lv_icmp_ge (tgt := 126) hx hb dX9_dampWhy_76 (by decide) (fun c76 => ?_) (fun c76 => ?_)
          · have hok := k_pos c76 hok
            obtain ⟨e68, hok, he68⟩ := ex_some hok
            have hok := hok.trans (congrArg some (hL68 _ he68))
            refine lv_aload_n hx hb dX9_dampWhy_126 rfl (lv_at hl 0 rfl) ?_
            refine lv_aload_n hx hb dX9_dampWhy_127 rfl (lv_at hl 0 rfl) ?_
            refine va_get (D := D) (ci := 8) (v := .ref (qM 22)) (C := RX9) (T := TX9) (N := 29) hx hb ht0 niX9 hown hK hP 0 rfl rfl 22 (by decide) (ht0 _ wd921) (fun _ h9 => h9) rfl dX9_dampWhy_128 ?_
            refine lv_iload hx hb dX9_dampWhy_131 (lv_at hl 6 rfl) ?_
            obtain ⟨r133, hc133, hok⟩ := k_bind hok
            refine kCi (wc := (wX9_goingBy cy aM (qM 22) qM vM_49 vM_r 9 vM_trial_49)) (wc2 := (wX9_goingBy cy aM (qM 22) qM vM_49 vM_r 9 vM_trial_49)) (wr := [(qM 17, rI cy 9 vM_st)]) (ws2 := (wX9_dampWhy cy aM qM vM_49 vM_st vM_trial_49 vM_r)) (kRunV (As := [.ref (qM 22), .int y8_68]) (rest := []) ⟨hx, hb, hml, hown, ht0⟩ (kX9_goingBy l D cy _ aM (qM 22) qM vM_49 vM_r 9 vM_trial_49 y8_68 r133 hc133 _ rfl) (cwV 2 ht0 (gV wd909 wd910 wd911 wd744 wd912) rfl rfl rfl (by decide +kernel) ⟨Nat.le_of_ble_eq_true rfl, Nat.le_of_ble_eq_true rfl⟩) hK hN hP hD [0, 3, 2] rfl (by decide) 0 8 rfl rfl rfl hl.1 rfl (Nat.le_of_ble_eq_true rfl) dX9_dampWhy_133 ⟨Nat.zero_le _, Nat.zero_le _⟩) hP hD hS hA [0, 3, 2] [1] rfl rfl (by decide) (by decide) [1, 0, 3, 2] (by decide) rfl rfl (fun H locs hP hD hS => ?_)
            refine lv_istore (lv' := [(9, .int r133), (0, .ref aM), (3, .int x3), (4, .int x4), (5, .int x5), (6, .int y6_68), (7, .int y7_49), (8, .int y8_68)]) hx hb dX9_dampWhy_136 hl (by decide) rfl (fun ls hl => ?_)
            refine lv_aload_n hx hb dX9_dampWhy_138 rfl (lv_at hl 1 rfl) ?_
            refine lv_aload_n hx hb dX9_dampWhy_139 rfl (lv_at hl 1 rfl) ?_
            refine va_get (D := D) (ci := 8) (v := .ref (qM 22)) (C := RX9) (T := TX9) (N := 29) hx hb ht0 niX9 hown hK hP 0 rfl rfl 22 (by decide) (ht0 _ wd921) (fun _ h9 => h9) rfl dX9_dampWhy_140 ?_
            refine lv_iload hx hb dX9_dampWhy_143 (lv_at hl 0 rfl) ?_
            obtain ⟨p1_145, hc145, hok⟩ := k_bind hok
            refine kCv (wc := (wX9_goOver cy aM (qM 22) qM vM_49 vM_r 9 vM_trial_49)) (wc2 := (wX9_goOver cy aM (qM 22) qM vM_49 vM_r 9 p1_145)) (wr := [(qM 17, rI cy 9 vM_st)]) (ws2 := (wX9_dampWhy cy aM qM vM_49 vM_st p1_145 vM_r)) (kRunV (As := [.ref (qM 22), .int r133]) (rest := []) ⟨hx, hb, hml, hown, ht0⟩ (kX9_goOver l D cy _ aM (qM 22) qM vM_49 vM_r 9 vM_trial_49 r133 p1_145 hc145 _ rfl) (cwV 2 ht0 (gV wd917 wd918 wd919 wd744 wd920) rfl rfl rfl (by decide +kernel) ⟨Nat.le_of_ble_eq_true rfl, Nat.le_of_ble_eq_true rfl⟩) hK hN hP hD [0, 3, 2] rfl (by decide) 0 8 rfl rfl rfl hl.1 rfl (Nat.le_of_ble_eq_true rfl) dX9_dampWhy_145 ⟨Nat.zero_le _, Nat.zero_le _⟩) hP hD hS hA [0, 3, 2] [1] rfl rfl (by decide) (by decide) [1, 0, 3, 2] (by decide) rfl rfl (fun H locs hP hD hS => ?_)
            refine lv_aload_n hx hb dX9_dampWhy_148 rfl (lv_at hl 1 rfl) ?_
            refine lv_dup hx hb dX9_dampWhy_149 rfl ?_
            refine va_get (D := D) (ci := 8) (v := .int (vM_49 27)) (C := RX9) (T := TX9) (N := 29) hx hb ht0 niX9 hown hK hP 0 rfl rfl 27 (by decide) (ht0 _ wd1013) (fun _ h9 => h9) rfl dX9_dampWhy_150 ?_
            refine lv_iload hx hb dX9_dampWhy_153 (lv_at hl 0 rfl) ?_
            obtain ⟨r155, hc155, hok⟩ := k_bind hok
            refine kCi (wc := (wX9_ones cy )) (wc2 := (wX9_ones cy )) (wr := [(aM, oX9 vM_49 qM), (qM 17, rI cy 9 vM_st), (qM 22, rI cy 9 p1_145), (qM 15, rI cy 224 vM_r)]) (ws2 := (wX9_dampWhy cy aM qM vM_49 vM_st p1_145 vM_r)) (kRunS (As := [.int r133]) (rest := [.int (vM_49 27), .ref aM]) ⟨hx, hb, hml, hown, ht0⟩ (kX9_ones l D cy _ r133 r155 hc155 _ rfl) (va_cwS 1 ht0 (gS wd922 wd923 wd744 wd924) rfl rfl rfl (by decide +kernel) ⟨Nat.le_of_ble_eq_true rfl, Nat.le_of_ble_eq_true rfl⟩) hK hN hP hD [] rfl (by decide) rfl hl.1 rfl (Nat.le_of_ble_eq_true rfl) dX9_dampWhy_155 ⟨Nat.zero_le _, Nat.zero_le _⟩) hP hD hS hA [] [0, 1, 2, 3] rfl rfl (by decide) (by decide) [0, 1, 2, 3] (by decide) rfl rfl (fun H locs hP hD hS => ?_)
            refine lv_iadd hx hb dX9_dampWhy_158 ?_
            refine va_put (D := D) (ci := 8) (v := .int ((vM_49 27) + r155)) (ty := .int) (C := RX9) (T := TX9) (N := 29) hx hb ht0 niX9 tyX9 tyX9_ok nmX9 hown hK hP hD hS 0 rfl rfl 27 (by decide) (ht0 _ wd1013) (fun _ h9 => h9) rfl (by decide +kernel) rfl rfl (Nat.le_of_ble_eq_true rfl) dX9_dampWhy_159 (fun H locs hP hD hS => ?_)
            have hP : va_P D vwCl (wX9_dampWhy cy aM qM (upd vM_49 27 ((vM_49 27) + r155)) vM_st p1_145 vM_r) H := hP
            have hD : va_D A (wX9_dampWhy cy aM qM (upd vM_49 27 ((vM_49 27) + r155)) vM_st p1_145 vM_r) := hD
            refine lv_iload hx hb dX9_dampWhy_162 (lv_at hl 3 rfl) ?_
            refine lv_if_lt (tgt := 192) hx hb dX9_dampWhy_164 (by decide) (fun c164 => ?_) (fun c164 => ?_)
            · have hok := k_pos c164 hok
              exact J192 y6_68 p1_145 (upd vM_49 27 ((vM_49 27) + r155)) H locs ls hP hD hS (lv_sub hl [1, 2, 3, 4, 5, 6] rfl) hok
            · have hok := k_neg c164 hok
              refine lv_aload_n hx hb dX9_dampWhy_167 rfl (lv_at hl 1 rfl) ?_
              refine va_get (D := D) (ci := 8) (v := .int (vM_49 28)) (C := RX9) (T := TX9) (N := 29) hx hb ht0 niX9 hown hK hP 0 rfl rfl 28 (by decide) (ht0 _ wd1014) (fun _ h9 => h9) rfl dX9_dampWhy_168 ?_
              refine lv_if_ne (tgt := 192) hx hb dX9_dampWhy_171 (by decide) (fun c171 => ?_) (fun c171 => ?_)
              · have hok := k_neg c171 hok
                exact J192 y6_68 p1_145 (upd vM_49 27 ((vM_49 27) + r155)) H locs ls hP hD hS (lv_sub hl [1, 2, 3, 4, 5, 6] rfl) hok
              · have hok := k_pos c171 hok
                refine lv_aload_n hx hb dX9_dampWhy_174 rfl (lv_at hl 1 rfl) ?_
                refine va_get (D := D) (ci := 8) (v := .ref (qM 22)) (C := RX9) (T := TX9) (N := 29) hx hb ht0 niX9 hown hK hP 0 rfl rfl 22 (by decide) (ht0 _ wd921) (fun _ h9 => h9) rfl dX9_dampWhy_175 ?_
                refine lv_iload hx hb dX9_dampWhy_178 (lv_at hl 3 rfl) ?_
                obtain ⟨g180, hok⟩ := gd_some hok
                refine va_iald hx hb hK hP 2 0 rfl rfl (okI_in g180) dX9_dampWhy_180 ?_
                refine lv_iload hx hb dX9_dampWhy_181 (lv_at hl 4 rfl) ?_
                refine lv_icmp_ne (tgt := 192) hx hb dX9_dampWhy_183 (by decide) (fun c183 => ?_) (fun c183 => ?_)
                · have hok := k_neg c183 hok
                  exact J192 y6_68 p1_145 (upd vM_49 27 ((vM_49 27) + r155)) H locs ls hP hD hS (lv_sub hl [1, 2, 3, 4, 5, 6] rfl) hok
                · have hok := k_pos c183 hok
                  refine lv_aload_n hx hb dX9_dampWhy_186 rfl (lv_at hl 1 rfl) ?_
                  refine lv_iload hx hb dX9_dampWhy_187 (lv_at hl 6 rfl) ?_
                  refine va_put (D := D) (ci := 8) (v := .int y7_49) (ty := .int) (C := RX9) (T := TX9) (N := 29) hx hb ht0 niX9 tyX9 tyX9_ok nmX9 hown hK hP hD hS 0 rfl rfl 28 (by decide) (ht0 _ wd1014) (fun _ h9 => h9) rfl (by decide +kernel) rfl rfl (Nat.le_of_ble_eq_true rfl) dX9_dampWhy_189 (fun H locs hP hD hS => ?_)
                  have hP : va_P D vwCl (wX9_dampWhy cy aM qM (upd (upd vM_49 27 ((vM_49 27) + r155)) 28 y7_49) vM_st p1_145 vM_r) H := hP
                  have hD : va_D A (wX9_dampWhy cy aM qM (upd (upd vM_49 27 ((vM_49 27) + r155)) 28 y7_49) vM_st p1_145 vM_r) := hD
                  exact J192 y6_68 p1_145 (upd (upd vM_49 27 ((vM_49 27) + r155)) 28 y7_49) H locs ls hP hD hS (lv_sub hl [1, 2, 3, 4, 5, 6] rfl) hok
          · have hok := k_neg c76 hok
            refine lv_bipush (v := 75) hx hb dX9_dampWhy_79 (by decide) ?_
            refine lv_iload hx hb dX9_dampWhy_81 (lv_at hl 4 rfl) ?_
            refine lv_imul hx hb dX9_dampWhy_83 ?_
            refine lv_bipush (v := 74) hx hb dX9_dampWhy_84 (by decide) ?_
            refine lv_iadd hx hb dX9_dampWhy_86 ?_
            refine lv_ldcw (v := 65537) hx hb hown (ht0 _ wd1012) dX9_dampWhy_87 ?_
            refine lv_irem hx hb dX9_dampWhy_90 (by decide) ?_
            refine lv_istore (lv' := [(6, .int (irm (((75 : Int32) * y6_68) + (74 : Int32)) (65537 : Int32))), (0, .ref aM), (3, .int x3), (4, .int x4), (5, .int x5), (7, .int y7_49), (8, .int y8_68), (9, .int y9_68)]) hx hb dX9_dampWhy_91 hl (by decide) rfl (fun ls hl => ?_)
            refine lv_iload hx hb dX9_dampWhy_93 (lv_at hl 6 rfl) ?_
            refine lv_iload hx hb dX9_dampWhy_95 (lv_at hl 0 rfl) ?_
            refine lv_bipush (v := 100) hx hb dX9_dampWhy_97 (by decide) ?_
            refine lv_irem hx hb dX9_dampWhy_99 (by decide) ?_
            refine lv_aload_n hx hb dX9_dampWhy_100 rfl (lv_at hl 1 rfl) ?_
            refine va_get (D := D) (ci := 8) (v := .ref (qM 15)) (C := RX9) (T := TX9) (N := 29) hx hb ht0 niX9 hown hK hP 0 rfl rfl 15 (by decide) (ht0 _ wd854) (fun _ h9 => h9) rfl dX9_dampWhy_101 ?_
            refine lv_iconst (v := 1) hx hb dX9_dampWhy_104 (by decide) ?_
            obtain ⟨g105, hok⟩ := gd_some hok
            refine va_iald hx hb hK hP 3 0 rfl rfl (okI_in g105) dX9_dampWhy_105 ?_
            refine lv_icmp_ge (tgt := 116) hx hb dX9_dampWhy_106 (by decide) (fun c106 => ?_) (fun c106 => ?_)
            · have hok := k_pos c106 hok
              refine lv_iconst (v := 0) hx hb dX9_dampWhy_116 (by decide) ?_
              exact J117 (0 : Int32) H locs ls hP hD hS (lv_sub hl [1, 2, 3, 4, 0, 5, 7] rfl) hok
            · have hok := k_neg c106 hok
              refine lv_iconst (v := 1) hx hb dX9_dampWhy_109 (by decide) ?_
              refine lv_iload hx hb dX9_dampWhy_110 (lv_at hl 7 rfl) ?_
              refine lv_ishl hx hb dX9_dampWhy_112 ?_
              refine lv_goto (tgt := 117) hx hb dX9_dampWhy_113 (by decide) ?_
              exact J117 (isl (1 : Int32) y9_68) H locs ls hP hD hS (lv_sub hl [1, 2, 3, 4, 0, 5, 7] rfl) hok
      unfold fX9_dampWhy_B49 at hok
      try dsimp only at hok
      refine lv_iload hx hb dX9_dampWhy_49 (lv_at hl 5 rfl) ?_
      refine lv_iload_n hx hb dX9_dampWhy_51 rfl (lv_at hl 1 rfl) ?_
      refine lv_icmp_gt (tgt := 198) hx hb dX9_dampWhy_52 (by decide) (fun c52 => ?_) (fun c52 => ?_)
      · have hok := k_pos c52 hok
        obtain ⟨e49, hok, he49⟩ := ex_some hok
        have hok := hok.trans (congrArg some (hL49 _ he49))
        refine lv_iconst (v := 0) hx hb dX9_dampWhy_198 (by decide) ?_
        cases hok
        subst hQe; exact W.iret hx hb hr (fun t ht hW => ⟨⟨_, (), rfl, rfl, by rw [ht]; exact hP, va_K.moved hW.alike hK, hD⟩, hS.F ht⟩) hS.2.2 dX9_dampWhy_199
      · have hok := k_neg c52 hok
        refine lv_aload_n hx hb dX9_dampWhy_55 rfl (lv_at hl 0 rfl) ?_
        refine lv_aload_n hx hb dX9_dampWhy_56 rfl (lv_at hl 0 rfl) ?_
        refine va_get (D := D) (ci := 8) (v := .ref (qM 22)) (C := RX9) (T := TX9) (N := 29) hx hb ht0 niX9 hown hK hP 0 rfl rfl 22 (by decide) (ht0 _ wd921) (fun _ h9 => h9) rfl dX9_dampWhy_57 ?_
        obtain ⟨r60, hc60, hok⟩ := k_bind hok
        refine kCi (wc := (wX9_fixed cy aM (qM 22) qM vM_49 vM_r 9 vM_trial_49)) (wc2 := (wX9_fixed cy aM (qM 22) qM vM_49 vM_r 9 vM_trial_49)) (wr := [(qM 17, rI cy 9 vM_st)]) (ws2 := (wX9_dampWhy cy aM qM vM_49 vM_st vM_trial_49 vM_r)) (kRunV (As := [.ref (qM 22)]) (rest := []) ⟨hx, hb, hml, hown, ht0⟩ (kX9_fixed l D cy _ aM (qM 22) qM vM_49 vM_r 9 vM_trial_49 r60 hc60 _ rfl) (cwV 1 ht0 (gV wd905 wd906 wd907 wd744 wd908) rfl rfl rfl (by decide +kernel) ⟨Nat.le_of_ble_eq_true rfl, Nat.le_of_ble_eq_true rfl⟩) hK hN hP hD [0, 3, 2] rfl (by decide) 0 8 rfl rfl rfl hl.1 rfl (Nat.le_of_ble_eq_true rfl) dX9_dampWhy_60 ⟨Nat.zero_le _, Nat.zero_le _⟩) hP hD hS hA [0, 3, 2] [1] rfl rfl (by decide) (by decide) [1, 0, 3, 2] (by decide) rfl rfl (fun H locs hP hD hS => ?_)
        refine lv_istore (lv' := [(8, .int r60), (0, .ref aM), (3, .int x3), (4, .int x4), (5, .int x5), (6, .int y6_49), (7, .int y7_49)]) hx hb dX9_dampWhy_63 hl (by decide) rfl (fun ls hl => ?_)
        refine lv_iconst (v := 0) hx hb dX9_dampWhy_65 (by decide) ?_
        refine lv_istore (lv' := [(9, .int 0), (8, .int r60), (0, .ref aM), (3, .int x3), (4, .int x4), (5, .int x5), (6, .int y6_49), (7, .int y7_49)]) hx hb dX9_dampWhy_66 hl (by decide) rfl (fun ls hl => ?_)
        exact L68 5000 y6_49 r60 (0 : Int32) H locs ls hP hD hS (lv_sub hl [2, 3, 4, 5, 6, 7, 1, 0] rfl) hok
  have J27 : ∀ (H : Heap) (locs : List Loc) (ls : Array Slot), va_P D vwCl (wX9_dampWhy cy aM qM vM vM_st vM_trial vM_r) H → va_D A (wX9_dampWhy cy aM qM vM vM_st vM_trial vM_r) → va_S A s.heap H locs → lv_has ls 10 [] → fX9_dampWhy_J27 vM vM_trial = some (zr, z_vM, z_vM_trial) → W p l e ({ frames := 3, cells := 0, slots := 0, locals := 71 } : Room) s m ([.ref aM, .int x1, .int x2, .int x3, .int x4, .int x5] : List Value).toArray below meth c H locs 0 0 Q (F0 m 27 ls []) := by
    intro  H locs ls hP hD hS hl hok
    unfold fX9_dampWhy_J27 at hok
    refine lv_iconst (v := 2) hx hb dX9_dampWhy_27 (by decide) ?_
    cases hok
    subst hQe; exact W.iret hx hb hr (fun t ht hW => ⟨⟨_, (), rfl, rfl, by rw [ht]; exact hP, va_K.moved hW.alike hK, hD⟩, hS.F ht⟩) hS.2.2 dX9_dampWhy_28
  unfold fX9_dampWhy at hok
  obtain ⟨H, hH⟩ : ∃ H, H = s.heap := ⟨_, rfl⟩
  obtain ⟨locs, hlc⟩ : ∃ x : List Loc, x = [] := ⟨_, rfl⟩
  have hP : va_P D vwCl (wX9_dampWhy cy aM qM vM vM_st vM_trial vM_r) H := by rw [hH]; exact hP
  have hS : va_S A s.heap H locs := by rw [hH, hlc]; exact hS
  rw [show W p l e _ s m _ below meth c s.heap [] = W p l e _ s m _ below meth c H locs from by rw [hH, hlc]]
  refine lv_iload_n hx hb dX9_dampWhy_0 rfl (lv_at hl 1 rfl) ?_
  refine lv_if_ne (tgt := 6) hx hb dX9_dampWhy_1 (by decide) (fun c1 => ?_) (fun c1 => ?_)
  · have hok := k_neg c1 hok
    refine lv_iload_n hx hb dX9_dampWhy_6 rfl (lv_at hl 2 rfl) ?_
    refine lv_iconst (v := 0) hx hb dX9_dampWhy_7 (by decide) ?_
    refine lv_ldcw (v := 65536) hx hb hown (ht0 _ wd1011) dX9_dampWhy_8 ?_
    obtain ⟨r11, hc11, hok⟩ := k_bind hok
    refine kCi (wc := (wX9_in cy )) (wc2 := (wX9_in cy )) (wr := [(aM, oX9 vM qM), (qM 17, rI cy 9 vM_st), (qM 22, rI cy 9 vM_trial), (qM 15, rI cy 224 vM_r)]) (ws2 := (wX9_dampWhy cy aM qM vM vM_st vM_trial vM_r)) (kRunS (As := [.int x2, .int 0, .int 65536]) (rest := []) ⟨hx, hb, hml, hown, ht0⟩ (kX9_in l D cy _ x2 (0 : Int32) (65536 : Int32) r11 hc11 _ rfl) (va_cwS 3 ht0 (gS wd787 wd788 wd744 wd789) rfl rfl rfl (by decide +kernel) ⟨Nat.le_of_ble_eq_true rfl, Nat.le_of_ble_eq_true rfl⟩) hK hN hP hD [] rfl (by decide) rfl hl.1 rfl (Nat.le_of_ble_eq_true rfl) dX9_dampWhy_11 ⟨Nat.zero_le _, Nat.zero_le _⟩) hP hD hS hA [] [0, 1, 2, 3] rfl rfl (by decide) (by decide) [0, 1, 2, 3] (by decide) rfl rfl (fun H locs hP hD hS => ?_)
    refine lv_if_eq (tgt := 27) hx hb dX9_dampWhy_14 (by decide) (fun c14 => ?_) (fun c14 => ?_)
    · have hok := k_pos c14 hok
      exact J27  H locs ls hP hD hS (lv_sub hl [] rfl) hok
    · have hok := k_neg c14 hok
      refine lv_iload_n hx hb dX9_dampWhy_17 rfl (lv_at hl 3 rfl) ?_
      refine lv_iconst (v := 0) hx hb dX9_dampWhy_18 (by decide) ?_
      refine lv_bipush (v := 60) hx hb dX9_dampWhy_19 (by decide) ?_
      obtain ⟨r21, hc21, hok⟩ := k_bind hok
      refine kCi (wc := (wX9_in cy )) (wc2 := (wX9_in cy )) (wr := [(aM, oX9 vM qM), (qM 17, rI cy 9 vM_st), (qM 22, rI cy 9 vM_trial), (qM 15, rI cy 224 vM_r)]) (ws2 := (wX9_dampWhy cy aM qM vM vM_st vM_trial vM_r)) (kRunS (As := [.int x3, .int 0, .int 60]) (rest := []) ⟨hx, hb, hml, hown, ht0⟩ (kX9_in l D cy _ x3 (0 : Int32) (60 : Int32) r21 hc21 _ rfl) (va_cwS 3 ht0 (gS wd787 wd788 wd744 wd789) rfl rfl rfl (by decide +kernel) ⟨Nat.le_of_ble_eq_true rfl, Nat.le_of_ble_eq_true rfl⟩) hK hN hP hD [] rfl (by decide) rfl hl.1 rfl (Nat.le_of_ble_eq_true rfl) dX9_dampWhy_21 ⟨Nat.zero_le _, Nat.zero_le _⟩) hP hD hS hA [] [0, 1, 2, 3] rfl rfl (by decide) (by decide) [0, 1, 2, 3] (by decide) rfl rfl (fun H locs hP hD hS => ?_)
      refine lv_if_ne (tgt := 29) hx hb dX9_dampWhy_24 (by decide) (fun c24 => ?_) (fun c24 => ?_)
      · have hok := k_neg c24 hok
        refine lv_aload_n hx hb dX9_dampWhy_29 rfl (lv_at hl 0 rfl) ?_
        obtain ⟨vM_trial_30, hc30, hok⟩ := k_bind hok
        refine kCv (wc := (wX9_begin cy aM qM vM vM_st vM_trial)) (wc2 := (wX9_begin cy aM qM vM vM_st vM_trial_30)) (wr := [(qM 15, rI cy 224 vM_r)]) (ws2 := (wX9_dampWhy cy aM qM vM vM_st vM_trial_30 vM_r)) (kRunV (As := []) (rest := []) ⟨hx, hb, hml, hown, ht0⟩ (kX9_begin l D cy _ aM qM vM vM_st vM_trial vM_trial_30 hc30 _ rfl) (cwV 0 ht0 (gV wd948 wd949 wd950 wd744 wd951) rfl rfl rfl (by decide +kernel) ⟨Nat.le_of_ble_eq_true rfl, Nat.le_of_ble_eq_true rfl⟩) hK hN hP hD [0, 1, 2] rfl (by decide) 0 8 rfl rfl rfl hl.1 rfl (Nat.le_of_ble_eq_true rfl) dX9_dampWhy_30 ⟨Nat.zero_le _, Nat.zero_le _⟩) hP hD hS hA [0, 1, 2] [3] rfl rfl (by decide) (by decide) [1, 2, 3, 0] (by decide) rfl rfl (fun H locs hP hD hS => ?_)
        refine lv_aload_n hx hb dX9_dampWhy_33 rfl (lv_at hl 0 rfl) ?_
        refine lv_iconst (v := 0) hx hb dX9_dampWhy_34 (by decide) ?_
        refine va_put (D := D) (ci := 8) (v := .int 0) (ty := .int) (C := RX9) (T := TX9) (N := 29) hx hb ht0 niX9 tyX9 tyX9_ok nmX9 hown hK hP hD hS 0 rfl rfl 27 (by decide) (ht0 _ wd1013) (fun _ h9 => h9) rfl (by decide +kernel) rfl rfl (Nat.le_of_ble_eq_true rfl) dX9_dampWhy_35 (fun H locs hP hD hS => ?_)
        have hP : va_P D vwCl (wX9_dampWhy cy aM qM (upd vM 27 (0 : Int32)) vM_st vM_trial_30 vM_r) H := hP
        have hD : va_D A (wX9_dampWhy cy aM qM (upd vM 27 (0 : Int32)) vM_st vM_trial_30 vM_r) := hD
        refine lv_aload_n hx hb dX9_dampWhy_38 rfl (lv_at hl 0 rfl) ?_
        refine lv_iconst (v := 0) hx hb dX9_dampWhy_39 (by decide) ?_
        refine va_put (D := D) (ci := 8) (v := .int 0) (ty := .int) (C := RX9) (T := TX9) (N := 29) hx hb ht0 niX9 tyX9 tyX9_ok nmX9 hown hK hP hD hS 0 rfl rfl 28 (by decide) (ht0 _ wd1014) (fun _ h9 => h9) rfl (by decide +kernel) rfl rfl (Nat.le_of_ble_eq_true rfl) dX9_dampWhy_40 (fun H locs hP hD hS => ?_)
        have hP : va_P D vwCl (wX9_dampWhy cy aM qM (upd (upd vM 27 (0 : Int32)) 28 (0 : Int32)) vM_st vM_trial_30 vM_r) H := hP
        have hD : va_D A (wX9_dampWhy cy aM qM (upd (upd vM 27 (0 : Int32)) 28 (0 : Int32)) vM_st vM_trial_30 vM_r) := hD
        refine lv_iload_n hx hb dX9_dampWhy_43 rfl (lv_at hl 2 rfl) ?_
        refine lv_istore (lv' := [(6, .int x2), (0, .ref aM), (1, .int x1), (2, .int x2), (3, .int x3), (4, .int x4), (5, .int x5)]) hx hb dX9_dampWhy_44 hl (by decide) rfl (fun ls hl => ?_)
        refine lv_iconst (v := 1) hx hb dX9_dampWhy_46 (by decide) ?_
        refine lv_istore (lv' := [(7, .int 1), (6, .int x2), (0, .ref aM), (1, .int x1), (2, .int x2), (3, .int x3), (4, .int x4), (5, .int x5)]) hx hb dX9_dampWhy_47 hl (by decide) rfl (fun ls hl => ?_)
        exact L49 5000 x2 (1 : Int32) vM_trial_30 (upd (upd vM 27 (0 : Int32)) 28 (0 : Int32)) H locs ls hP hD hS (lv_sub hl [2, 5, 6, 7, 1, 0] rfl) hok
      · have hok := k_pos c24 hok
        exact J27  H locs ls hP hD hS (lv_sub hl [] rfl) hok
  · have hok := k_pos c1 hok
    refine lv_iconst (v := 1) hx hb dX9_dampWhy_4 (by decide) ?_
    cases hok
    subst hQe; exact W.iret hx hb hr (fun t ht hW => ⟨⟨_, (), rfl, rfl, by rw [ht]; exact hP, va_K.moved hW.alike hK, hD⟩, hS.F ht⟩) hS.2.2 dX9_dampWhy_5
def wsX9_damp : List Cond := .code yX9_damp cX9_damp 5 (some .int) :: W0
abbrev wX9_damp (cy : Nat → ClassId) (aM : Nat) (qM : Nat → Nat) (vM : Nat → Int32) (vM_r : Nat → Int32) (vM_st : Nat → Int32) (vM_trial : Nat → Int32) : va_W := [(aM, oX9 vM qM), (qM 15, rI cy 224 vM_r), (qM 17, rI cy 9 vM_st), (qM 22, rI cy 9 vM_trial)]
set_option maxHeartbeats 4000000 in
set_option maxRecDepth 100000 in
theorem kX9_damp (l : Launch) (D : va_G) (cy : Nat → ClassId) (sz : Nat) (aM : Nat) (qM : Nat → Nat) (vM : Nat → Int32) (vM_r : Nat → Int32) (vM_st : Nat → Int32) (vM_trial : Nat → Int32) (x1 : Int32) (x2 : Int32) (x3 : Int32) (zr : Int32) (z_vM : Nat → Int32) (z_vM_trial : Nat → Int32) (hok : fX9_damp vM vM_r vM_st vM_trial x1 x2 x3 = some (zr, z_vM, z_vM_trial)) (A : Nat → Prop) (hAe : va_A (wX9_damp cy aM qM vM vM_r vM_st vM_trial) sz = A) : Met l yX9_damp wsX9_damp ({ frames := 4, cells := 0, slots := 0, locals := 100 } : Room) (kPre D cy [.ref aM, .int x1, .int x2, .int x3] (wX9_damp cy aM qM vM vM_r vM_st vM_trial) sz) (kQi D cy zr A (wX9_damp cy aM qM z_vM vM_r vM_st z_vM_trial)) 0 0 A := by
  refine Met.ofW (cc := cX9_damp) (maxL := 5) (ret := (some .int)) (by decide) rfl ?_
  intro p e s m args below meth c s₁ B hml hv
  obtain ⟨rfl, hsz, hP, hK, hD0, hN⟩ := hv
  have hx := B.exec
  have hb := B.bytes
  have hr := B.returns
  have ht0 : ∀ w ∈ W0, w.before _ s = true := fun w h => atoms_spec (ws := wsX9_damp) B.pre w (List.mem_cons_of_mem _ h)
  have hown : s.vm.findClass RX9 = some m.cls := findClass_of_methodNamed B.named
  have hlocks := B.notSynchronized
  subst hsz
  have hD : va_D A (wX9_damp cy aM qM vM vM_r vM_st vM_trial) := by rw [← hAe]; exact hD0.self
  have hA : ∀ q : Nat, s.heap.size ≤ q → A q := fun q h => by rw [← hAe]; exact Or.inr h
  have hS : va_S A s.heap s.heap [] := va_S.rf
  have hl := lv_entry ([.ref aM, .int x1, .int x2, .int x3]) (n := 5) (Nat.le_of_ble_eq_true rfl)
  rw [lg_entry_eq]
  generalize (lg_sl ([.ref aM, .int x1, .int x2, .int x3]) ++ List.replicate (5 - (lg_sl ([.ref aM, .int x1, .int x2, .int x3])).length) Slot.unset).toArray = ls at hl ⊢
  have hl : lv_has ls 5 [(0, .ref aM), (1, .int x1), (2, .int x2), (3, .int x3)] := hl
  generalize hQe : MQ below (kQi D cy zr A (wX9_damp cy aM qM z_vM vM_r vM_st z_vM_trial)) ([.ref aM, .int x1, .int x2, .int x3] : List Value).toArray s 0 0 A = Q
  have J42 : ∀ (t0_42 : Int32) (vM_trial_42 : Nat → Int32) (vM_42 : Nat → Int32), ∀ (H : Heap) (locs : List Loc) (ls : Array Slot), va_P D vwCl (wX9_damp cy aM qM vM_42 vM_r vM_st vM_trial_42) H → va_D A (wX9_damp cy aM qM vM_42 vM_r vM_st vM_trial_42) → va_S A s.heap H locs → lv_has ls 5 [] → fX9_damp_J42 t0_42 vM_trial_42 vM_42 = some (zr, z_vM, z_vM_trial) → W p l e ({ frames := 4, cells := 0, slots := 0, locals := 100 } : Room) s m ([.ref aM, .int x1, .int x2, .int x3] : List Value).toArray below meth c H locs 0 0 Q (F0 m 42 ls [.int t0_42]) := by
    intro t0_42 vM_trial_42 vM_42 H locs ls hP hD hS hl hok
    unfold fX9_damp_J42 at hok
    cases hok
    subst hQe; exact W.iret hx hb hr (fun t ht hW => ⟨⟨_, (), rfl, rfl, by rw [ht]; exact hP, va_K.moved hW.alike hK, hD⟩, hS.F ht⟩) hS.2.2 dX9_damp_42
  unfold fX9_damp at hok
  obtain ⟨H, hH⟩ : ∃ H, H = s.heap := ⟨_, rfl⟩
  obtain ⟨locs, hlc⟩ : ∃ x : List Loc, x = [] := ⟨_, rfl⟩
  have hP : va_P D vwCl (wX9_damp cy aM qM vM vM_r vM_st vM_trial) H := by rw [hH]; exact hP
  have hS : va_S A s.heap H locs := by rw [hH, hlc]; exact hS
  rw [show W p l e _ s m _ below meth c s.heap [] = W p l e _ s m _ below meth c H locs from by rw [hH, hlc]]
  refine lv_aload_n hx hb dX9_damp_0 rfl (lv_at hl 0 rfl) ?_
  obtain ⟨vM_1, hc1, hok⟩ := k_bind hok
  refine kCv (wc := (wX9_good cy aM qM vM)) (wc2 := (wX9_good cy aM qM vM_1)) (wr := [(qM 15, rI cy 224 vM_r), (qM 17, rI cy 9 vM_st), (qM 22, rI cy 9 vM_trial)]) (ws2 := (wX9_damp cy aM qM vM_1 vM_r vM_st vM_trial)) (kRunV (As := []) (rest := []) ⟨hx, hb, hml, hown, ht0⟩ (kX9_good l D cy _ aM qM vM vM_1 hc1 _ rfl) (cwV 0 ht0 (gV wd870 wd871 wd872 wd744 wd873) rfl rfl rfl (by decide +kernel) ⟨Nat.le_of_ble_eq_true rfl, Nat.le_of_ble_eq_true rfl⟩) hK hN hP hD [0] rfl (by decide) 0 8 rfl rfl rfl hl.1 rfl (Nat.le_of_ble_eq_true rfl) dX9_damp_1 ⟨Nat.zero_le _, Nat.zero_le _⟩) hP hD hS hA [0] [1, 2, 3] rfl rfl (by decide) (by decide) [3, 0, 1, 2] (by decide) rfl rfl (fun H locs hP hD hS => ?_)
  refine lv_aload_n hx hb dX9_damp_4 rfl (lv_at hl 0 rfl) ?_
  refine lv_aload_n hx hb dX9_damp_5 rfl (lv_at hl 0 rfl) ?_
  refine lv_iload_n hx hb dX9_damp_6 rfl (lv_at hl 1 rfl) ?_
  obtain ⟨r7, hc7, hok⟩ := k_bind hok
  refine kCi (wc := (wX9_isThing cy aM qM vM_1 vM_r)) (wc2 := (wX9_isThing cy aM qM vM_1 vM_r)) (wr := [(qM 17, rI cy 9 vM_st), (qM 22, rI cy 9 vM_trial)]) (ws2 := (wX9_damp cy aM qM vM_1 vM_r vM_st vM_trial)) (kRunV (As := [.int x1]) (rest := [.ref aM]) ⟨hx, hb, hml, hown, ht0⟩ (kX9_isThing l D cy _ aM qM vM_1 vM_r x1 r7 hc7 _ rfl) (cwV 1 ht0 (gV wd925 wd926 wd927 wd744 wd928) rfl rfl rfl (by decide +kernel) ⟨Nat.le_of_ble_eq_true rfl, Nat.le_of_ble_eq_true rfl⟩) hK hN hP hD [0, 1] rfl (by decide) 0 8 rfl rfl rfl hl.1 rfl (Nat.le_of_ble_eq_true rfl) dX9_damp_7 ⟨Nat.zero_le _, Nat.zero_le _⟩) hP hD hS hA [0, 1] [2, 3] rfl rfl (by decide) (by decide) [2, 3, 0, 1] (by decide) rfl rfl (fun H locs hP hD hS => ?_)
  refine lv_iload_n hx hb dX9_damp_10 rfl (lv_at hl 2 rfl) ?_
  refine lv_iload_n hx hb dX9_damp_11 rfl (lv_at hl 3 rfl) ?_
  refine lv_iconst (v := -1) hx hb dX9_damp_12 (by decide) ?_
  refine lv_iconst (v := 0) hx hb dX9_damp_13 (by decide) ?_
  obtain ⟨⟨r14, vM_14, vM_trial_14⟩, hc14, hok⟩ := k_bind hok
  try dsimp only at hok
  refine kCi (wc := (wX9_dampWhy cy aM qM vM_1 vM_st vM_trial vM_r)) (wc2 := (wX9_dampWhy cy aM qM vM_14 vM_st vM_trial_14 vM_r)) (wr := []) (ws2 := (wX9_damp cy aM qM vM_14 vM_r vM_st vM_trial_14)) (kRunV (As := [.int r7, .int x2, .int x3, .int (-1), .int 0]) (rest := []) ⟨hx, hb, hml, hown, ht0⟩ (kX9_dampWhy l D cy _ aM qM vM_1 vM_st vM_trial vM_r r7 x2 x3 (-1 : Int32) (0 : Int32) r14 vM_14 vM_trial_14 hc14 _ rfl) (cwV 5 ht0 (gV wd1015 wd1016 wd1017 wd744 wd1018) rfl rfl rfl (by decide +kernel) ⟨Nat.le_of_ble_eq_true rfl, Nat.le_of_ble_eq_true rfl⟩) hK hN hP hD [0, 2, 3, 1] rfl (by decide) 0 8 rfl rfl rfl hl.1 rfl (Nat.le_of_ble_eq_true rfl) dX9_damp_14 ⟨Nat.zero_le _, Nat.zero_le _⟩) hP hD hS hA [0, 2, 3, 1] [] rfl rfl (by decide) (by decide) [0, 3, 1, 2] (by decide) rfl rfl (fun H locs hP hD hS => ?_)
  refine lv_istore (lv' := [(4, .int r14), (0, .ref aM), (1, .int x1), (2, .int x2), (3, .int x3)]) hx hb dX9_damp_17 hl (by decide) rfl (fun ls hl => ?_)
  refine lv_iload hx hb dX9_damp_19 (lv_at hl 0 rfl) ?_
  refine lv_if_eq (tgt := 33) hx hb dX9_damp_21 (by decide) (fun c21 => ?_) (fun c21 => ?_)
  · have hok := k_pos c21 hok
    refine lv_aload_n hx hb dX9_damp_33 rfl (lv_at hl 1 rfl) ?_
    refine va_get (D := D) (ci := 8) (v := .ref (qM 22)) (C := RX9) (T := TX9) (N := 29) hx hb ht0 niX9 hown hK hP 0 rfl rfl 22 (by decide) (ht0 _ wd921) (fun _ h9 => h9) rfl dX9_damp_34 ?_
    refine lv_iload_n hx hb dX9_damp_37 rfl (lv_at hl 2 rfl) ?_
    obtain ⟨g38, hok⟩ := gd_some hok
    refine va_iald hx hb hK hP 3 0 rfl rfl (okI_in g38) dX9_damp_38 ?_
    obtain ⟨r39, hc39, hok⟩ := k_bind hok
    refine kCi (wc := (wX9_coded cy )) (wc2 := (wX9_coded cy )) (wr := [(aM, oX9 vM_14 qM), (qM 15, rI cy 224 vM_r), (qM 17, rI cy 9 vM_st), (qM 22, rI cy 9 vM_trial_14)]) (ws2 := (wX9_damp cy aM qM vM_14 vM_r vM_st vM_trial_14)) (kRunS (As := [.int (vM_trial_14 x1.toNatClampNeg)]) (rest := []) ⟨hx, hb, hml, hown, ht0⟩ (kX9_coded l D cy _ (vM_trial_14 x1.toNatClampNeg) r39 hc39 _ rfl) (va_cwS 1 ht0 (gS wd937 wd938 wd744 wd939) rfl rfl rfl (by decide +kernel) ⟨Nat.le_of_ble_eq_true rfl, Nat.le_of_ble_eq_true rfl⟩) hK hN hP hD [] rfl (by decide) rfl hl.1 rfl (Nat.le_of_ble_eq_true rfl) dX9_damp_39 ⟨Nat.zero_le _, Nat.zero_le _⟩) hP hD hS hA [] [0, 1, 2, 3] rfl rfl (by decide) (by decide) [0, 1, 2, 3] (by decide) rfl rfl (fun H locs hP hD hS => ?_)
    exact J42 r39 vM_trial_14 vM_14 H locs ls hP hD hS (lv_sub hl [] rfl) hok
  · have hok := k_neg c21 hok
    refine lv_aload_n hx hb dX9_damp_24 rfl (lv_at hl 1 rfl) ?_
    refine lv_iload hx hb dX9_damp_25 (lv_at hl 0 rfl) ?_
    obtain ⟨⟨r27, vM_27⟩, hc27, hok⟩ := k_bind hok
    try dsimp only at hok
    refine kCi (wc := (wX9_no cy aM qM vM_14)) (wc2 := (wX9_no cy aM qM vM_27)) (wr := [(qM 15, rI cy 224 vM_r), (qM 17, rI cy 9 vM_st), (qM 22, rI cy 9 vM_trial_14)]) (ws2 := (wX9_damp cy aM qM vM_27 vM_r vM_st vM_trial_14)) (kRunV (As := [.int r14]) (rest := []) ⟨hx, hb, hml, hown, ht0⟩ (kX9_no l D cy _ aM qM vM_14 r14 r27 vM_27 hc27 _ rfl) (cwV 1 ht0 (gV wd862 wd863 wd864 wd744 wd865) rfl rfl rfl (by decide +kernel) ⟨Nat.le_of_ble_eq_true rfl, Nat.le_of_ble_eq_true rfl⟩) hK hN hP hD [0] rfl (by decide) 0 8 rfl rfl rfl hl.1 rfl (Nat.le_of_ble_eq_true rfl) dX9_damp_27 ⟨Nat.zero_le _, Nat.zero_le _⟩) hP hD hS hA [0] [1, 2, 3] rfl rfl (by decide) (by decide) [3, 0, 1, 2] (by decide) rfl rfl (fun H locs hP hD hS => ?_)
    refine lv_goto (tgt := 42) hx hb dX9_damp_30 (by decide) ?_
    exact J42 r27 vM_trial_14 vM_27 H locs ls hP hD hS (lv_sub hl [] rfl) hok
def wsX9_dampSteps : List Cond := .code yX9_dampSteps cX9_dampSteps 4 (some .int) :: W0
abbrev wX9_dampSteps (cy : Nat → ClassId) (aM : Nat) (qM : Nat → Nat) (vM : Nat → Int32) (vM_st : Nat → Int32) (vM_trial : Nat → Int32) (vM_r : Nat → Int32) : va_W := [(aM, oX9 vM qM), (qM 17, rI cy 9 vM_st), (qM 22, rI cy 9 vM_trial), (qM 15, rI cy 224 vM_r)]
set_option maxHeartbeats 4000000 in
set_option maxRecDepth 100000 in
theorem kX9_dampSteps (l : Launch) (D : va_G) (cy : Nat → ClassId) (sz : Nat) (aM : Nat) (qM : Nat → Nat) (vM : Nat → Int32) (vM_st : Nat → Int32) (vM_trial : Nat → Int32) (vM_r : Nat → Int32) (x1 : Int32) (x2 : Int32) (zr : Int32) (z_vM : Nat → Int32) (z_vM_trial : Nat → Int32) (hok : fX9_dampSteps vM vM_st vM_trial vM_r x1 x2 = some (zr, z_vM, z_vM_trial)) (A : Nat → Prop) (hAe : va_A (wX9_dampSteps cy aM qM vM vM_st vM_trial vM_r) sz = A) : Met l yX9_dampSteps wsX9_dampSteps ({ frames := 4, cells := 0, slots := 0, locals := 100 } : Room) (kPre D cy [.ref aM, .int x1, .int x2] (wX9_dampSteps cy aM qM vM vM_st vM_trial vM_r) sz) (kQi D cy zr A (wX9_dampSteps cy aM qM z_vM vM_st z_vM_trial vM_r)) 0 0 A := by
  refine Met.ofW (cc := cX9_dampSteps) (maxL := 4) (ret := (some .int)) (by decide) rfl ?_
  intro p e s m args below meth c s₁ B hml hv
  obtain ⟨rfl, hsz, hP, hK, hD0, hN⟩ := hv
  have hx := B.exec
  have hb := B.bytes
  have hr := B.returns
  have ht0 : ∀ w ∈ W0, w.before _ s = true := fun w h => atoms_spec (ws := wsX9_dampSteps) B.pre w (List.mem_cons_of_mem _ h)
  have hown : s.vm.findClass RX9 = some m.cls := findClass_of_methodNamed B.named
  have hlocks := B.notSynchronized
  subst hsz
  have hD : va_D A (wX9_dampSteps cy aM qM vM vM_st vM_trial vM_r) := by rw [← hAe]; exact hD0.self
  have hA : ∀ q : Nat, s.heap.size ≤ q → A q := fun q h => by rw [← hAe]; exact Or.inr h
  have hS : va_S A s.heap s.heap [] := va_S.rf
  have hl := lv_entry ([.ref aM, .int x1, .int x2]) (n := 4) (Nat.le_of_ble_eq_true rfl)
  rw [lg_entry_eq]
  generalize (lg_sl ([.ref aM, .int x1, .int x2]) ++ List.replicate (4 - (lg_sl ([.ref aM, .int x1, .int x2])).length) Slot.unset).toArray = ls at hl ⊢
  have hl : lv_has ls 4 [(0, .ref aM), (1, .int x1), (2, .int x2)] := hl
  generalize hQe : MQ below (kQi D cy zr A (wX9_dampSteps cy aM qM z_vM vM_st z_vM_trial vM_r)) ([.ref aM, .int x1, .int x2] : List Value).toArray s 0 0 A = Q
  have J33 : ∀ (t0_33 : Int32) (vM_trial_33 : Nat → Int32) (vM_33 : Nat → Int32), ∀ (H : Heap) (locs : List Loc) (ls : Array Slot), va_P D vwCl (wX9_dampSteps cy aM qM vM_33 vM_st vM_trial_33 vM_r) H → va_D A (wX9_dampSteps cy aM qM vM_33 vM_st vM_trial_33 vM_r) → va_S A s.heap H locs → lv_has ls 4 [] → fX9_dampSteps_J33 t0_33 vM_trial_33 vM_33 = some (zr, z_vM, z_vM_trial) → W p l e ({ frames := 4, cells := 0, slots := 0, locals := 100 } : Room) s m ([.ref aM, .int x1, .int x2] : List Value).toArray below meth c H locs 0 0 Q (F0 m 33 ls [.int t0_33]) := by
    intro t0_33 vM_trial_33 vM_33 H locs ls hP hD hS hl hok
    unfold fX9_dampSteps_J33 at hok
    cases hok
    subst hQe; exact W.iret hx hb hr (fun t ht hW => ⟨⟨_, (), rfl, rfl, by rw [ht]; exact hP, va_K.moved hW.alike hK, hD⟩, hS.F ht⟩) hS.2.2 dX9_dampSteps_33
  unfold fX9_dampSteps at hok
  obtain ⟨H, hH⟩ : ∃ H, H = s.heap := ⟨_, rfl⟩
  obtain ⟨locs, hlc⟩ : ∃ x : List Loc, x = [] := ⟨_, rfl⟩
  have hP : va_P D vwCl (wX9_dampSteps cy aM qM vM vM_st vM_trial vM_r) H := by rw [hH]; exact hP
  have hS : va_S A s.heap H locs := by rw [hH, hlc]; exact hS
  rw [show W p l e _ s m _ below meth c s.heap [] = W p l e _ s m _ below meth c H locs from by rw [hH, hlc]]
  refine lv_aload_n hx hb dX9_dampSteps_0 rfl (lv_at hl 0 rfl) ?_
  obtain ⟨vM_1, hc1, hok⟩ := k_bind hok
  refine kCv (wc := (wX9_good cy aM qM vM)) (wc2 := (wX9_good cy aM qM vM_1)) (wr := [(qM 17, rI cy 9 vM_st), (qM 22, rI cy 9 vM_trial), (qM 15, rI cy 224 vM_r)]) (ws2 := (wX9_dampSteps cy aM qM vM_1 vM_st vM_trial vM_r)) (kRunV (As := []) (rest := []) ⟨hx, hb, hml, hown, ht0⟩ (kX9_good l D cy _ aM qM vM vM_1 hc1 _ rfl) (cwV 0 ht0 (gV wd870 wd871 wd872 wd744 wd873) rfl rfl rfl (by decide +kernel) ⟨Nat.le_of_ble_eq_true rfl, Nat.le_of_ble_eq_true rfl⟩) hK hN hP hD [0] rfl (by decide) 0 8 rfl rfl rfl hl.1 rfl (Nat.le_of_ble_eq_true rfl) dX9_dampSteps_1 ⟨Nat.zero_le _, Nat.zero_le _⟩) hP hD hS hA [0] [1, 2, 3] rfl rfl (by decide) (by decide) [3, 0, 1, 2] (by decide) rfl rfl (fun H locs hP hD hS => ?_)
  refine lv_aload_n hx hb dX9_dampSteps_4 rfl (lv_at hl 0 rfl) ?_
  refine lv_aload_n hx hb dX9_dampSteps_5 rfl (lv_at hl 0 rfl) ?_
  refine va_get (D := D) (ci := 8) (v := .int (vM_1 14)) (C := RX9) (T := TX9) (N := 29) hx hb ht0 niX9 hown hK hP 0 rfl rfl 14 (by decide) (ht0 _ wd855) (fun _ h9 => h9) rfl dX9_dampSteps_6 ?_
  refine lv_iload_n hx hb dX9_dampSteps_9 rfl (lv_at hl 1 rfl) ?_
  refine lv_iload_n hx hb dX9_dampSteps_10 rfl (lv_at hl 2 rfl) ?_
  refine lv_iconst (v := -1) hx hb dX9_dampSteps_11 (by decide) ?_
  refine lv_iconst (v := 0) hx hb dX9_dampSteps_12 (by decide) ?_
  obtain ⟨⟨r13, vM_13, vM_trial_13⟩, hc13, hok⟩ := k_bind hok
  try dsimp only at hok
  refine kCi (wc := (wX9_dampWhy cy aM qM vM_1 vM_st vM_trial vM_r)) (wc2 := (wX9_dampWhy cy aM qM vM_13 vM_st vM_trial_13 vM_r)) (wr := []) (ws2 := (wX9_dampSteps cy aM qM vM_13 vM_st vM_trial_13 vM_r)) (kRunV (As := [.int (vM_1 14), .int x1, .int x2, .int (-1), .int 0]) (rest := []) ⟨hx, hb, hml, hown, ht0⟩ (kX9_dampWhy l D cy _ aM qM vM_1 vM_st vM_trial vM_r (vM_1 14) x1 x2 (-1 : Int32) (0 : Int32) r13 vM_13 vM_trial_13 hc13 _ rfl) (cwV 5 ht0 (gV wd1015 wd1016 wd1017 wd744 wd1018) rfl rfl rfl (by decide +kernel) ⟨Nat.le_of_ble_eq_true rfl, Nat.le_of_ble_eq_true rfl⟩) hK hN hP hD [0, 1, 2, 3] rfl (by decide) 0 8 rfl rfl rfl hl.1 rfl (Nat.le_of_ble_eq_true rfl) dX9_dampSteps_13 ⟨Nat.zero_le _, Nat.zero_le _⟩) hP hD hS hA [0, 1, 2, 3] [] rfl rfl (by decide) (by decide) [0, 1, 2, 3] (by decide) rfl rfl (fun H locs hP hD hS => ?_)
  refine lv_istore_n (lv' := [(3, .int r13), (0, .ref aM), (1, .int x1), (2, .int x2)]) hx hb dX9_dampSteps_16 rfl hl (by decide) rfl (fun ls hl => ?_)
  refine lv_iload_n hx hb dX9_dampSteps_17 rfl (lv_at hl 0 rfl) ?_
  refine lv_if_eq (tgt := 29) hx hb dX9_dampSteps_18 (by decide) (fun c18 => ?_) (fun c18 => ?_)
  · have hok := k_pos c18 hok
    refine lv_aload_n hx hb dX9_dampSteps_29 rfl (lv_at hl 1 rfl) ?_
    refine va_get (D := D) (ci := 8) (v := .int (vM_13 27)) (C := RX9) (T := TX9) (N := 29) hx hb ht0 niX9 hown hK hP 0 rfl rfl 27 (by decide) (ht0 _ wd1013) (fun _ h9 => h9) rfl dX9_dampSteps_30 ?_
    exact J33 (vM_13 27) vM_trial_13 vM_13 H locs ls hP hD hS (lv_sub hl [] rfl) hok
  · have hok := k_neg c18 hok
    refine lv_aload_n hx hb dX9_dampSteps_21 rfl (lv_at hl 1 rfl) ?_
    refine lv_iload_n hx hb dX9_dampSteps_22 rfl (lv_at hl 0 rfl) ?_
    obtain ⟨⟨r23, vM_23⟩, hc23, hok⟩ := k_bind hok
    try dsimp only at hok
    refine kCi (wc := (wX9_no cy aM qM vM_13)) (wc2 := (wX9_no cy aM qM vM_23)) (wr := [(qM 17, rI cy 9 vM_st), (qM 22, rI cy 9 vM_trial_13), (qM 15, rI cy 224 vM_r)]) (ws2 := (wX9_dampSteps cy aM qM vM_23 vM_st vM_trial_13 vM_r)) (kRunV (As := [.int r13]) (rest := []) ⟨hx, hb, hml, hown, ht0⟩ (kX9_no l D cy _ aM qM vM_13 r13 r23 vM_23 hc23 _ rfl) (cwV 1 ht0 (gV wd862 wd863 wd864 wd744 wd865) rfl rfl rfl (by decide +kernel) ⟨Nat.le_of_ble_eq_true rfl, Nat.le_of_ble_eq_true rfl⟩) hK hN hP hD [0] rfl (by decide) 0 8 rfl rfl rfl hl.1 rfl (Nat.le_of_ble_eq_true rfl) dX9_dampSteps_23 ⟨Nat.zero_le _, Nat.zero_le _⟩) hP hD hS hA [0] [1, 2, 3] rfl rfl (by decide) (by decide) [3, 0, 1, 2] (by decide) rfl rfl (fun H locs hP hD hS => ?_)
    refine lv_goto (tgt := 33) hx hb dX9_dampSteps_26 (by decide) ?_
    exact J33 r23 vM_trial_13 vM_23 H locs ls hP hD hS (lv_sub hl [] rfl) hok
def wsX9_dampWhen : List Cond := .code yX9_dampWhen cX9_dampWhen 6 (some .int) :: W0
abbrev wX9_dampWhen (cy : Nat → ClassId) (aM : Nat) (qM : Nat → Nat) (vM : Nat → Int32) (vM_r : Nat → Int32) (vM_st : Nat → Int32) (vM_trial : Nat → Int32) : va_W := [(aM, oX9 vM qM), (qM 15, rI cy 224 vM_r), (qM 17, rI cy 9 vM_st), (qM 22, rI cy 9 vM_trial)]
set_option maxHeartbeats 4000000 in
set_option maxRecDepth 100000 in
theorem kX9_dampWhen (l : Launch) (D : va_G) (cy : Nat → ClassId) (sz : Nat) (aM : Nat) (qM : Nat → Nat) (vM : Nat → Int32) (vM_r : Nat → Int32) (vM_st : Nat → Int32) (vM_trial : Nat → Int32) (x1 : Int32) (x2 : Int32) (x3 : Int32) (x4 : Int32) (zr : Int32) (z_vM : Nat → Int32) (z_vM_trial : Nat → Int32) (hok : fX9_dampWhen vM vM_r vM_st vM_trial x1 x2 x3 x4 = some (zr, z_vM, z_vM_trial)) (A : Nat → Prop) (hAe : va_A (wX9_dampWhen cy aM qM vM vM_r vM_st vM_trial) sz = A) : Met l yX9_dampWhen wsX9_dampWhen ({ frames := 4, cells := 0, slots := 0, locals := 100 } : Room) (kPre D cy [.ref aM, .int x1, .int x2, .int x3, .int x4] (wX9_dampWhen cy aM qM vM vM_r vM_st vM_trial) sz) (kQi D cy zr A (wX9_dampWhen cy aM qM z_vM vM_r vM_st z_vM_trial)) 0 0 A := by
  refine Met.ofW (cc := cX9_dampWhen) (maxL := 6) (ret := (some .int)) (by decide) rfl ?_
  intro p e s m args below meth c s₁ B hml hv
  obtain ⟨rfl, hsz, hP, hK, hD0, hN⟩ := hv
  have hx := B.exec
  have hb := B.bytes
  have hr := B.returns
  have ht0 : ∀ w ∈ W0, w.before _ s = true := fun w h => atoms_spec (ws := wsX9_dampWhen) B.pre w (List.mem_cons_of_mem _ h)
  have hown : s.vm.findClass RX9 = some m.cls := findClass_of_methodNamed B.named
  have hlocks := B.notSynchronized
  subst hsz
  have hD : va_D A (wX9_dampWhen cy aM qM vM vM_r vM_st vM_trial) := by rw [← hAe]; exact hD0.self
  have hA : ∀ q : Nat, s.heap.size ≤ q → A q := fun q h => by rw [← hAe]; exact Or.inr h
  have hS : va_S A s.heap s.heap [] := va_S.rf
  have hl := lv_entry ([.ref aM, .int x1, .int x2, .int x3, .int x4]) (n := 6) (Nat.le_of_ble_eq_true rfl)
  rw [lg_entry_eq]
  generalize (lg_sl ([.ref aM, .int x1, .int x2, .int x3, .int x4]) ++ List.replicate (6 - (lg_sl ([.ref aM, .int x1, .int x2, .int x3, .int x4])).length) Slot.unset).toArray = ls at hl ⊢
  have hl : lv_has ls 6 [(0, .ref aM), (1, .int x1), (2, .int x2), (3, .int x3), (4, .int x4)] := hl
  generalize hQe : MQ below (kQi D cy zr A (wX9_dampWhen cy aM qM z_vM vM_r vM_st z_vM_trial)) ([.ref aM, .int x1, .int x2, .int x3, .int x4] : List Value).toArray s 0 0 A = Q
  have J78 : ∀ (t0_78 : Int32) (vM_trial_78 : Nat → Int32) (vM_78 : Nat → Int32), ∀ (H : Heap) (locs : List Loc) (ls : Array Slot), va_P D vwCl (wX9_dampWhen cy aM qM vM_78 vM_r vM_st vM_trial_78) H → va_D A (wX9_dampWhen cy aM qM vM_78 vM_r vM_st vM_trial_78) → va_S A s.heap H locs → lv_has ls 6 [] → fX9_dampWhen_J78 t0_78 vM_trial_78 vM_78 = some (zr, z_vM, z_vM_trial) → W p l e ({ frames := 4, cells := 0, slots := 0, locals := 100 } : Room) s m ([.ref aM, .int x1, .int x2, .int x3, .int x4] : List Value).toArray below meth c H locs 0 0 Q (F0 m 78 ls [.int t0_78]) := by
    intro t0_78 vM_trial_78 vM_78 H locs ls hP hD hS hl hok
    unfold fX9_dampWhen_J78 at hok
    cases hok
    subst hQe; exact W.iret hx hb hr (fun t ht hW => ⟨⟨_, (), rfl, rfl, by rw [ht]; exact hP, va_K.moved hW.alike hK, hD⟩, hS.F ht⟩) hS.2.2 dX9_dampWhen_78
  have J29 : ∀ (vM_29 : Nat → Int32), ∀ (H : Heap) (locs : List Loc) (ls : Array Slot), va_P D vwCl (wX9_dampWhen cy aM qM vM_29 vM_r vM_st vM_trial) H → va_D A (wX9_dampWhen cy aM qM vM_29 vM_r vM_st vM_trial) → va_S A s.heap H locs → lv_has ls 6 [(0, .ref aM)] → fX9_dampWhen_J29 vM_trial vM_29 = some (zr, z_vM, z_vM_trial) → W p l e ({ frames := 4, cells := 0, slots := 0, locals := 100 } : Room) s m ([.ref aM, .int x1, .int x2, .int x3, .int x4] : List Value).toArray below meth c H locs 0 0 Q (F0 m 29 ls []) := by
    intro vM_29 H locs ls hP hD hS hl hok
    unfold fX9_dampWhen_J29 at hok
    refine lv_aload_n hx hb dX9_dampWhen_29 rfl (lv_at hl 0 rfl) ?_
    refine lv_iconst (v := 1) hx hb dX9_dampWhen_30 (by decide) ?_
    obtain ⟨⟨r31, vM_31⟩, hc31, hok⟩ := k_bind hok
    try dsimp only at hok
    refine kCi (wc := (wX9_no cy aM qM vM_29)) (wc2 := (wX9_no cy aM qM vM_31)) (wr := [(qM 15, rI cy 224 vM_r), (qM 17, rI cy 9 vM_st), (qM 22, rI cy 9 vM_trial)]) (ws2 := (wX9_dampWhen cy aM qM vM_31 vM_r vM_st vM_trial)) (kRunV (As := [.int 1]) (rest := []) ⟨hx, hb, hml, hown, ht0⟩ (kX9_no l D cy _ aM qM vM_29 (1 : Int32) r31 vM_31 hc31 _ rfl) (cwV 1 ht0 (gV wd862 wd863 wd864 wd744 wd865) rfl rfl rfl (by decide +kernel) ⟨Nat.le_of_ble_eq_true rfl, Nat.le_of_ble_eq_true rfl⟩) hK hN hP hD [0] rfl (by decide) 0 8 rfl rfl rfl hl.1 rfl (Nat.le_of_ble_eq_true rfl) dX9_dampWhen_31 ⟨Nat.zero_le _, Nat.zero_le _⟩) hP hD hS hA [0] [1, 2, 3] rfl rfl (by decide) (by decide) [3, 0, 1, 2] (by decide) rfl rfl (fun H locs hP hD hS => ?_)
    cases hok
    subst hQe; exact W.iret hx hb hr (fun t ht hW => ⟨⟨_, (), rfl, rfl, by rw [ht]; exact hP, va_K.moved hW.alike hK, hD⟩, hS.F ht⟩) hS.2.2 dX9_dampWhen_34
  unfold fX9_dampWhen at hok
  obtain ⟨H, hH⟩ : ∃ H, H = s.heap := ⟨_, rfl⟩
  obtain ⟨locs, hlc⟩ : ∃ x : List Loc, x = [] := ⟨_, rfl⟩
  have hP : va_P D vwCl (wX9_dampWhen cy aM qM vM vM_r vM_st vM_trial) H := by rw [hH]; exact hP
  have hS : va_S A s.heap H locs := by rw [hH, hlc]; exact hS
  rw [show W p l e _ s m _ below meth c s.heap [] = W p l e _ s m _ below meth c H locs from by rw [hH, hlc]]
  refine lv_aload_n hx hb dX9_dampWhen_0 rfl (lv_at hl 0 rfl) ?_
  obtain ⟨vM_1, hc1, hok⟩ := k_bind hok
  refine kCv (wc := (wX9_good cy aM qM vM)) (wc2 := (wX9_good cy aM qM vM_1)) (wr := [(qM 15, rI cy 224 vM_r), (qM 17, rI cy 9 vM_st), (qM 22, rI cy 9 vM_trial)]) (ws2 := (wX9_dampWhen cy aM qM vM_1 vM_r vM_st vM_trial)) (kRunV (As := []) (rest := []) ⟨hx, hb, hml, hown, ht0⟩ (kX9_good l D cy _ aM qM vM vM_1 hc1 _ rfl) (cwV 0 ht0 (gV wd870 wd871 wd872 wd744 wd873) rfl rfl rfl (by decide +kernel) ⟨Nat.le_of_ble_eq_true rfl, Nat.le_of_ble_eq_true rfl⟩) hK hN hP hD [0] rfl (by decide) 0 8 rfl rfl rfl hl.1 rfl (Nat.le_of_ble_eq_true rfl) dX9_dampWhen_1 ⟨Nat.zero_le _, Nat.zero_le _⟩) hP hD hS hA [0] [1, 2, 3] rfl rfl (by decide) (by decide) [3, 0, 1, 2] (by decide) rfl rfl (fun H locs hP hD hS => ?_)
  refine lv_aload_n hx hb dX9_dampWhen_4 rfl (lv_at hl 0 rfl) ?_
  refine lv_iload_n hx hb dX9_dampWhen_5 rfl (lv_at hl 1 rfl) ?_
  obtain ⟨r6, hc6, hok⟩ := k_bind hok
  refine kCi (wc := (wX9_isThing cy aM qM vM_1 vM_r)) (wc2 := (wX9_isThing cy aM qM vM_1 vM_r)) (wr := [(qM 17, rI cy 9 vM_st), (qM 22, rI cy 9 vM_trial)]) (ws2 := (wX9_dampWhen cy aM qM vM_1 vM_r vM_st vM_trial)) (kRunV (As := [.int x1]) (rest := []) ⟨hx, hb, hml, hown, ht0⟩ (kX9_isThing l D cy _ aM qM vM_1 vM_r x1 r6 hc6 _ rfl) (cwV 1 ht0 (gV wd925 wd926 wd927 wd744 wd928) rfl rfl rfl (by decide +kernel) ⟨Nat.le_of_ble_eq_true rfl, Nat.le_of_ble_eq_true rfl⟩) hK hN hP hD [0, 1] rfl (by decide) 0 8 rfl rfl rfl hl.1 rfl (Nat.le_of_ble_eq_true rfl) dX9_dampWhen_6 ⟨Nat.zero_le _, Nat.zero_le _⟩) hP hD hS hA [0, 1] [2, 3] rfl rfl (by decide) (by decide) [2, 3, 0, 1] (by decide) rfl rfl (fun H locs hP hD hS => ?_)
  refine lv_if_eq (tgt := 29) hx hb dX9_dampWhen_9 (by decide) (fun c9 => ?_) (fun c9 => ?_)
  · have hok := k_pos c9 hok
    exact J29 vM_1 H locs ls hP hD hS (lv_sub hl [0] rfl) hok
  · have hok := k_neg c9 hok
    refine lv_aload_n hx hb dX9_dampWhen_12 rfl (lv_at hl 0 rfl) ?_
    refine lv_aload_n hx hb dX9_dampWhen_13 rfl (lv_at hl 0 rfl) ?_
    refine va_get (D := D) (ci := 8) (v := .ref (qM 17)) (C := RX9) (T := TX9) (N := 29) hx hb ht0 niX9 hown hK hP 0 rfl rfl 17 (by decide) (ht0 _ wd858) (fun _ h9 => h9) rfl dX9_dampWhen_14 ?_
    refine lv_iload_n hx hb dX9_dampWhen_17 rfl (lv_at hl 1 rfl) ?_
    obtain ⟨g18, hok⟩ := gd_some hok
    refine va_iald hx hb hK hP 2 0 rfl rfl (okI_in g18) dX9_dampWhen_18 ?_
    refine lv_bipush (v := 9) hx hb dX9_dampWhen_19 (by decide) ?_
    refine lv_idiv hx hb dX9_dampWhen_21 (by decide) ?_
    refine lv_iload_n hx hb dX9_dampWhen_22 rfl (lv_at hl 2 rfl) ?_
    obtain ⟨r23, hc23, hok⟩ := k_bind hok
    refine kCi (wc := (wX9_isPlace cy aM qM vM_1 vM_r)) (wc2 := (wX9_isPlace cy aM qM vM_1 vM_r)) (wr := [(qM 17, rI cy 9 vM_st), (qM 22, rI cy 9 vM_trial)]) (ws2 := (wX9_dampWhen cy aM qM vM_1 vM_r vM_st vM_trial)) (kRunV (As := [.int ((vM_st x1.toNatClampNeg) / (9 : Int32)), .int x2]) (rest := []) ⟨hx, hb, hml, hown, ht0⟩ (kX9_isPlace l D cy _ aM qM vM_1 vM_r ((vM_st x1.toNatClampNeg) / (9 : Int32)) x2 r23 hc23 _ rfl) (cwV 2 ht0 (gV wd929 wd930 wd931 wd744 wd932) rfl rfl rfl (by decide +kernel) ⟨Nat.le_of_ble_eq_true rfl, Nat.le_of_ble_eq_true rfl⟩) hK hN hP hD [0, 1] rfl (by decide) 0 8 rfl rfl rfl hl.1 rfl (Nat.le_of_ble_eq_true rfl) dX9_dampWhen_23 ⟨Nat.zero_le _, Nat.zero_le _⟩) hP hD hS hA [0, 1] [2, 3] rfl rfl (by decide) (by decide) [2, 3, 0, 1] (by decide) rfl rfl (fun H locs hP hD hS => ?_)
    refine lv_if_ne (tgt := 35) hx hb dX9_dampWhen_26 (by decide) (fun c26 => ?_) (fun c26 => ?_)
    · have hok := k_neg c26 hok
      refine lv_aload_n hx hb dX9_dampWhen_35 rfl (lv_at hl 0 rfl) ?_
      refine lv_iconst (v := 1) hx hb dX9_dampWhen_36 (by decide) ?_
      refine lv_iload_n hx hb dX9_dampWhen_37 rfl (lv_at hl 3 rfl) ?_
      refine lv_iload hx hb dX9_dampWhen_38 (lv_at hl 4 rfl) ?_
      refine lv_iload_n hx hb dX9_dampWhen_40 rfl (lv_at hl 1 rfl) ?_
      refine lv_bipush (v := 9) hx hb dX9_dampWhen_41 (by decide) ?_
      refine lv_aload_n hx hb dX9_dampWhen_43 rfl (lv_at hl 0 rfl) ?_
      refine va_get (D := D) (ci := 8) (v := .ref (qM 17)) (C := RX9) (T := TX9) (N := 29) hx hb ht0 niX9 hown hK hP 0 rfl rfl 17 (by decide) (ht0 _ wd858) (fun _ h9 => h9) rfl dX9_dampWhen_44 ?_
      refine lv_iload_n hx hb dX9_dampWhen_47 rfl (lv_at hl 1 rfl) ?_
      obtain ⟨g48, hok⟩ := gd_some hok
      refine va_iald hx hb hK hP 2 0 rfl rfl (okI_in g48) dX9_dampWhen_48 ?_
      refine lv_bipush (v := 9) hx hb dX9_dampWhen_49 (by decide) ?_
      refine lv_idiv hx hb dX9_dampWhen_51 (by decide) ?_
      refine lv_imul hx hb dX9_dampWhen_52 ?_
      refine lv_iload_n hx hb dX9_dampWhen_53 rfl (lv_at hl 2 rfl) ?_
      refine lv_iadd hx hb dX9_dampWhen_54 ?_
      obtain ⟨⟨r55, vM_55, vM_trial_55⟩, hc55, hok⟩ := k_bind hok
      try dsimp only at hok
      refine kCi (wc := (wX9_dampWhy cy aM qM vM_1 vM_st vM_trial vM_r)) (wc2 := (wX9_dampWhy cy aM qM vM_55 vM_st vM_trial_55 vM_r)) (wr := []) (ws2 := (wX9_dampWhen cy aM qM vM_55 vM_r vM_st vM_trial_55)) (kRunV (As := [.int 1, .int x3, .int x4, .int x1, .int (((9 : Int32) * ((vM_st x1.toNatClampNeg) / (9 : Int32))) + x2)]) (rest := []) ⟨hx, hb, hml, hown, ht0⟩ (kX9_dampWhy l D cy _ aM qM vM_1 vM_st vM_trial vM_r (1 : Int32) x3 x4 x1 (((9 : Int32) * ((vM_st x1.toNatClampNeg) / (9 : Int32))) + x2) r55 vM_55 vM_trial_55 hc55 _ rfl) (cwV 5 ht0 (gV wd1015 wd1016 wd1017 wd744 wd1018) rfl rfl rfl (by decide +kernel) ⟨Nat.le_of_ble_eq_true rfl, Nat.le_of_ble_eq_true rfl⟩) hK hN hP hD [0, 2, 3, 1] rfl (by decide) 0 8 rfl rfl rfl hl.1 rfl (Nat.le_of_ble_eq_true rfl) dX9_dampWhen_55 ⟨Nat.zero_le _, Nat.zero_le _⟩) hP hD hS hA [0, 2, 3, 1] [] rfl rfl (by decide) (by decide) [0, 3, 1, 2] (by decide) rfl rfl (fun H locs hP hD hS => ?_)
      refine lv_istore (lv' := [(5, .int r55), (0, .ref aM), (1, .int x1), (2, .int x2), (3, .int x3), (4, .int x4)]) hx hb dX9_dampWhen_58 hl (by decide) rfl (fun ls hl => ?_)
      refine lv_iload hx hb dX9_dampWhen_60 (lv_at hl 0 rfl) ?_
      refine lv_if_eq (tgt := 74) hx hb dX9_dampWhen_62 (by decide) (fun c62 => ?_) (fun c62 => ?_)
      · have hok := k_pos c62 hok
        refine lv_aload_n hx hb dX9_dampWhen_74 rfl (lv_at hl 1 rfl) ?_
        refine va_get (D := D) (ci := 8) (v := .int (vM_55 28)) (C := RX9) (T := TX9) (N := 29) hx hb ht0 niX9 hown hK hP 0 rfl rfl 28 (by decide) (ht0 _ wd1014) (fun _ h9 => h9) rfl dX9_dampWhen_75 ?_
        exact J78 (vM_55 28) vM_trial_55 vM_55 H locs ls hP hD hS (lv_sub hl [] rfl) hok
      · have hok := k_neg c62 hok
        refine lv_aload_n hx hb dX9_dampWhen_65 rfl (lv_at hl 1 rfl) ?_
        refine lv_iload hx hb dX9_dampWhen_66 (lv_at hl 0 rfl) ?_
        obtain ⟨⟨r68, vM_68⟩, hc68, hok⟩ := k_bind hok
        try dsimp only at hok
        refine kCi (wc := (wX9_no cy aM qM vM_55)) (wc2 := (wX9_no cy aM qM vM_68)) (wr := [(qM 15, rI cy 224 vM_r), (qM 17, rI cy 9 vM_st), (qM 22, rI cy 9 vM_trial_55)]) (ws2 := (wX9_dampWhen cy aM qM vM_68 vM_r vM_st vM_trial_55)) (kRunV (As := [.int r55]) (rest := []) ⟨hx, hb, hml, hown, ht0⟩ (kX9_no l D cy _ aM qM vM_55 r55 r68 vM_68 hc68 _ rfl) (cwV 1 ht0 (gV wd862 wd863 wd864 wd744 wd865) rfl rfl rfl (by decide +kernel) ⟨Nat.le_of_ble_eq_true rfl, Nat.le_of_ble_eq_true rfl⟩) hK hN hP hD [0] rfl (by decide) 0 8 rfl rfl rfl hl.1 rfl (Nat.le_of_ble_eq_true rfl) dX9_dampWhen_68 ⟨Nat.zero_le _, Nat.zero_le _⟩) hP hD hS hA [0] [1, 2, 3] rfl rfl (by decide) (by decide) [3, 0, 1, 2] (by decide) rfl rfl (fun H locs hP hD hS => ?_)
        refine lv_goto (tgt := 78) hx hb dX9_dampWhen_71 (by decide) ?_
        exact J78 r68 vM_trial_55 vM_68 H locs ls hP hD hS (lv_sub hl [] rfl) hok
    · have hok := k_pos c26 hok
      exact J29 vM_1 H locs ls hP hD hS (lv_sub hl [0] rfl) hok
def wsX9_note : List Cond := .code yX9_note cX9_note 2 none :: W0
abbrev wX9_note (cy : Nat → ClassId) (aM : Nat) (qM : Nat → Nat) (vM : Nat → Int32) (vM_undone : Nat → Int32) (vM_st : Nat → Int32) : va_W := [(aM, oX9 vM qM), (qM 18, rI cy 144 vM_undone), (qM 17, rI cy 9 vM_st)]
set_option maxHeartbeats 4000000 in
set_option maxRecDepth 100000 in
theorem kX9_note (l : Launch) (D : va_G) (cy : Nat → ClassId) (sz : Nat) (aM : Nat) (qM : Nat → Nat) (vM : Nat → Int32) (vM_undone : Nat → Int32) (vM_st : Nat → Int32) (z_vM : Nat → Int32) (z_vM_undone : Nat → Int32) (hok : fX9_note vM vM_undone vM_st = some (z_vM, z_vM_undone)) (A : Nat → Prop) (hAe : va_A (wX9_note cy aM qM vM vM_undone vM_st) sz = A) : Met l yX9_note wsX9_note ({ frames := 1, cells := 0, slots := 0, locals := 25 } : Room) (kPre D cy [.ref aM] (wX9_note cy aM qM vM vM_undone vM_st) sz) (kQv D cy A (wX9_note cy aM qM z_vM z_vM_undone vM_st)) 0 0 A := by
  refine Met.ofW (cc := cX9_note) (maxL := 2) (ret := none) (by decide) rfl ?_
  intro p e s m args below meth c s₁ B hml hv
  obtain ⟨rfl, hsz, hP, hK, hD0, hN⟩ := hv
  have hx := B.exec
  have hb := B.bytes
  have hr := B.returns
  have ht0 : ∀ w ∈ W0, w.before _ s = true := fun w h => atoms_spec (ws := wsX9_note) B.pre w (List.mem_cons_of_mem _ h)
  have hown : s.vm.findClass RX9 = some m.cls := findClass_of_methodNamed B.named
  have hlocks := B.notSynchronized
  subst hsz
  have hD : va_D A (wX9_note cy aM qM vM vM_undone vM_st) := by rw [← hAe]; exact hD0.self
  have hA : ∀ q : Nat, s.heap.size ≤ q → A q := fun q h => by rw [← hAe]; exact Or.inr h
  have hS : va_S A s.heap s.heap [] := va_S.rf
  have hl := lv_entry ([.ref aM]) (n := 2) (Nat.le_of_ble_eq_true rfl)
  rw [lg_entry_eq]
  generalize (lg_sl ([.ref aM]) ++ List.replicate (2 - (lg_sl ([.ref aM])).length) Slot.unset).toArray = ls at hl ⊢
  have hl : lv_has ls 2 [(0, .ref aM)] := hl
  generalize hQe : MQ below (kQv D cy A (wX9_note cy aM qM z_vM z_vM_undone vM_st)) ([.ref aM] : List Value).toArray s 0 0 A = Q
  have J49 : ∀ (vM_undone_49 : Nat → Int32) (vM_49 : Nat → Int32), ∀ (H : Heap) (locs : List Loc) (ls : Array Slot), va_P D vwCl (wX9_note cy aM qM vM_49 vM_undone_49 vM_st) H → va_D A (wX9_note cy aM qM vM_49 vM_undone_49 vM_st) → va_S A s.heap H locs → lv_has ls 2 [(0, .ref aM)] → fX9_note_J49 vM_st vM_undone_49 vM_49 = some (z_vM, z_vM_undone) → W p l e ({ frames := 1, cells := 0, slots := 0, locals := 25 } : Room) s m ([.ref aM] : List Value).toArray below meth c H locs 0 0 Q (F0 m 49 ls []) := by
    intro vM_undone_49 vM_49 H locs ls hP hD hS hl hok
    unfold fX9_note_J49 at hok
    refine lv_aload_n hx hb dX9_note_49 rfl (lv_at hl 0 rfl) ?_
    refine va_get (D := D) (ci := 8) (v := .ref (qM 17)) (C := RX9) (T := TX9) (N := 29) hx hb ht0 niX9 hown hK hP 0 rfl rfl 17 (by decide) (ht0 _ wd858) (fun _ h9 => h9) rfl dX9_note_50 ?_
    refine lv_iconst (v := 0) hx hb dX9_note_53 (by decide) ?_
    refine lv_aload_n hx hb dX9_note_54 rfl (lv_at hl 0 rfl) ?_
    refine va_get (D := D) (ci := 8) (v := .ref (qM 18)) (C := RX9) (T := TX9) (N := 29) hx hb ht0 niX9 hown hK hP 0 rfl rfl 18 (by decide) (ht0 _ wd1019) (fun _ h9 => h9) rfl dX9_note_55 ?_
    refine lv_bipush (v := 9) hx hb dX9_note_58 (by decide) ?_
    refine lv_aload_n hx hb dX9_note_60 rfl (lv_at hl 0 rfl) ?_
    refine va_get (D := D) (ci := 8) (v := .int (vM_49 20)) (C := RX9) (T := TX9) (N := 29) hx hb ht0 niX9 hown hK hP 0 rfl rfl 20 (by decide) (ht0 _ wd856) (fun _ h9 => h9) rfl dX9_note_61 ?_
    refine lv_imul hx hb dX9_note_64 ?_
    refine lv_bipush (v := 9) hx hb dX9_note_65 (by decide) ?_
    obtain ⟨p2_67, hc67, hok⟩ := k_bind hok
    refine kCv (wc := (wX9_copy cy (qM 17) (qM 18) 9 vM_st 144 vM_undone_49)) (wc2 := (wX9_copy cy (qM 17) (qM 18) 9 vM_st 144 p2_67)) (wr := [(aM, oX9 vM_49 qM)]) (ws2 := (wX9_note cy aM qM vM_49 p2_67 vM_st)) (kRunS (As := [.ref (qM 17), .int 0, .ref (qM 18), .int ((9 : Int32) * (vM_49 20)), .int 9]) (rest := []) ⟨hx, hb, hml, hown, ht0⟩ (kX9_copy l D cy _ (qM 17) (qM 18) 9 vM_st 144 vM_undone_49 (0 : Int32) ((9 : Int32) * (vM_49 20)) (9 : Int32) p2_67 hc67 _ rfl) (va_cwS 5 ht0 (gS wd859 wd860 wd744 wd861) rfl rfl rfl (by decide +kernel) ⟨Nat.le_of_ble_eq_true rfl, Nat.le_of_ble_eq_true rfl⟩) hK hN hP hD [2, 1] rfl (by decide) rfl hl.1 rfl (Nat.le_of_ble_eq_true rfl) dX9_note_67 ⟨Nat.zero_le _, Nat.zero_le _⟩) hP hD hS hA [2, 1] [0] rfl rfl (by decide) (by decide) [0, 2, 1] (by decide) rfl rfl (fun H locs hP hD hS => ?_)
    refine lv_aload_n hx hb dX9_note_70 rfl (lv_at hl 0 rfl) ?_
    refine lv_dup hx hb dX9_note_71 rfl ?_
    refine va_get (D := D) (ci := 8) (v := .int (vM_49 20)) (C := RX9) (T := TX9) (N := 29) hx hb ht0 niX9 hown hK hP 0 rfl rfl 20 (by decide) (ht0 _ wd856) (fun _ h9 => h9) rfl dX9_note_72 ?_
    refine lv_iconst (v := 1) hx hb dX9_note_75 (by decide) ?_
    refine lv_iadd hx hb dX9_note_76 ?_
    refine va_put (D := D) (ci := 8) (v := .int ((vM_49 20) + (1 : Int32))) (ty := .int) (C := RX9) (T := TX9) (N := 29) hx hb ht0 niX9 tyX9 tyX9_ok nmX9 hown hK hP hD hS 0 rfl rfl 20 (by decide) (ht0 _ wd856) (fun _ h9 => h9) rfl (by decide +kernel) rfl rfl (Nat.le_of_ble_eq_true rfl) dX9_note_77 (fun H locs hP hD hS => ?_)
    have hP : va_P D vwCl (wX9_note cy aM qM (upd vM_49 20 ((vM_49 20) + (1 : Int32))) p2_67 vM_st) H := hP
    have hD : va_D A (wX9_note cy aM qM (upd vM_49 20 ((vM_49 20) + (1 : Int32))) p2_67 vM_st) := hD
    cases hok
    subst hQe; exact W.vret hx hb hr (fun t ht hW => ⟨⟨(), rfl, trivial, by rw [ht]; exact hP, va_K.moved hW.alike hK, hD⟩, hS.F ht⟩) hS.2.2 dX9_note_80
  have L11 : ∀ (fuel : Nat) (y1_11 : Int32) (vM_undone_11 : Nat → Int32), ∀ (H : Heap) (locs : List Loc) (ls : Array Slot), va_P D vwCl (wX9_note cy aM qM vM vM_undone_11 vM_st) H → va_D A (wX9_note cy aM qM vM vM_undone_11 vM_st) → va_S A s.heap H locs → lv_has ls 2 [(0, .ref aM), (1, .int y1_11)] → lp (fX9_note_B11 vM vM_st) fuel (y1_11, vM_undone_11) = some (z_vM, z_vM_undone) → W p l e ({ frames := 1, cells := 0, slots := 0, locals := 25 } : Room) s m ([.ref aM] : List Value).toArray below meth c H locs 0 0 Q (F0 m 11 ls []) := by
    intro fuel
    induction fuel with
    | zero => intro y1_11 vM_undone_11 H locs ls hP hD hS hl hok; exact (lp_0 hok).elim
    | succ fuel ih11 =>
      intro y1_11 vM_undone_11 H locs ls hP hD hS hl hok
      obtain ⟨y11, hok, hL11, hR11⟩ := lp_step hok
      unfold fX9_note_B11 at hok
      try dsimp only at hok
      refine lv_iload_n hx hb dX9_note_11 rfl (lv_at hl 1 rfl) ?_
      refine lv_sipush (v := 135) hx hb dX9_note_12 (by decide) ?_
      refine lv_icmp_ge (tgt := 39) hx hb dX9_note_15 (by decide) (fun c15 => ?_) (fun c15 => ?_)
      · have hok := k_pos c15 hok
        obtain ⟨e11, hok, he11⟩ := ex_some hok
        have hok := hok.trans (congrArg some (hL11 _ he11))
        refine lv_aload_n hx hb dX9_note_39 rfl (lv_at hl 0 rfl) ?_
        refine lv_dup hx hb dX9_note_40 rfl ?_
        refine va_get (D := D) (ci := 8) (v := .int (vM 20)) (C := RX9) (T := TX9) (N := 29) hx hb ht0 niX9 hown hK hP 0 rfl rfl 20 (by decide) (ht0 _ wd856) (fun _ h9 => h9) rfl dX9_note_41 ?_
        refine lv_iconst (v := 1) hx hb dX9_note_44 (by decide) ?_
        refine lv_isub hx hb dX9_note_45 ?_
        refine va_put (D := D) (ci := 8) (v := .int ((vM 20) - (1 : Int32))) (ty := .int) (C := RX9) (T := TX9) (N := 29) hx hb ht0 niX9 tyX9 tyX9_ok nmX9 hown hK hP hD hS 0 rfl rfl 20 (by decide) (ht0 _ wd856) (fun _ h9 => h9) rfl (by decide +kernel) rfl rfl (Nat.le_of_ble_eq_true rfl) dX9_note_46 (fun H locs hP hD hS => ?_)
        have hP : va_P D vwCl (wX9_note cy aM qM (upd vM 20 ((vM 20) - (1 : Int32))) vM_undone_11 vM_st) H := hP
        have hD : va_D A (wX9_note cy aM qM (upd vM 20 ((vM 20) - (1 : Int32))) vM_undone_11 vM_st) := hD
        exact J49 vM_undone_11 (upd vM 20 ((vM 20) - (1 : Int32))) H locs ls hP hD hS (lv_sub hl [0] rfl) hok
      · have hok := k_neg c15 hok
        refine lv_aload_n hx hb dX9_note_18 rfl (lv_at hl 0 rfl) ?_
        refine va_get (D := D) (ci := 8) (v := .ref (qM 18)) (C := RX9) (T := TX9) (N := 29) hx hb ht0 niX9 hown hK hP 0 rfl rfl 18 (by decide) (ht0 _ wd1019) (fun _ h9 => h9) rfl dX9_note_19 ?_
        refine lv_iload_n hx hb dX9_note_22 rfl (lv_at hl 1 rfl) ?_
        refine lv_aload_n hx hb dX9_note_23 rfl (lv_at hl 0 rfl) ?_
        refine va_get (D := D) (ci := 8) (v := .ref (qM 18)) (C := RX9) (T := TX9) (N := 29) hx hb ht0 niX9 hown hK hP 0 rfl rfl 18 (by decide) (ht0 _ wd1019) (fun _ h9 => h9) rfl dX9_note_24 ?_
        refine lv_iload_n hx hb dX9_note_27 rfl (lv_at hl 1 rfl) ?_
        refine lv_bipush (v := 9) hx hb dX9_note_28 (by decide) ?_
        refine lv_iadd hx hb dX9_note_30 ?_
        obtain ⟨g31, hok⟩ := gd_some hok
        refine va_iald hx hb hK hP 1 0 rfl rfl (okI_in g31) dX9_note_31 ?_
        obtain ⟨g32, hok⟩ := gd_some hok
        refine va_iast hx hb hK hP hD hS 1 0 rfl rfl (okI_in g32) dX9_note_32 (fun H locs hP hD hS => ?_)
        have hP : va_P D vwCl (wX9_note cy aM qM vM (upd vM_undone_11 y1_11.toNatClampNeg (vM_undone_11 (y1_11 + (9 : Int32)).toNatClampNeg)) vM_st) H := hP
        have hD : va_D A (wX9_note cy aM qM vM (upd vM_undone_11 y1_11.toNatClampNeg (vM_undone_11 (y1_11 + (9 : Int32)).toNatClampNeg)) vM_st) := hD
        refine lv_iinc (v := (y1_11 + 1)) (lv' := [(1, .int (y1_11 + 1)), (0, .ref aM)]) hx hb dX9_note_33 hl (k := 1) rfl (by first | rfl | decide) (by decide) rfl (fun ls hl => ?_)
        refine lv_goto (tgt := 11) hx hb dX9_note_36 (by decide) ?_
        exact ih11 (y1_11 + 1) (upd vM_undone_11 y1_11.toNatClampNeg (vM_undone_11 (y1_11 + (9 : Int32)).toNatClampNeg)) H locs ls hP hD hS (lv_sub hl [1, 0] rfl) (hR11 _ (Option.some.inj hok).symm)
  unfold fX9_note at hok
  obtain ⟨H, hH⟩ : ∃ H, H = s.heap := ⟨_, rfl⟩
  obtain ⟨locs, hlc⟩ : ∃ x : List Loc, x = [] := ⟨_, rfl⟩
  have hP : va_P D vwCl (wX9_note cy aM qM vM vM_undone vM_st) H := by rw [hH]; exact hP
  have hS : va_S A s.heap H locs := by rw [hH, hlc]; exact hS
  rw [show W p l e _ s m _ below meth c s.heap [] = W p l e _ s m _ below meth c H locs from by rw [hH, hlc]]
  refine lv_aload_n hx hb dX9_note_0 rfl (lv_at hl 0 rfl) ?_
  refine va_get (D := D) (ci := 8) (v := .int (vM 20)) (C := RX9) (T := TX9) (N := 29) hx hb ht0 niX9 hown hK hP 0 rfl rfl 20 (by decide) (ht0 _ wd856) (fun _ h9 => h9) rfl dX9_note_1 ?_
  refine lv_bipush (v := 16) hx hb dX9_note_4 (by decide) ?_
  refine lv_icmp_ne (tgt := 49) hx hb dX9_note_6 (by decide) (fun c6 => ?_) (fun c6 => ?_)
  · have hok := k_neg c6 hok
    exact J49 vM_undone vM H locs ls hP hD hS (lv_sub hl [0] rfl) hok
  · have hok := k_pos c6 hok
    refine lv_iconst (v := 0) hx hb dX9_note_9 (by decide) ?_
    refine lv_istore_n (lv' := [(1, .int 0), (0, .ref aM)]) hx hb dX9_note_10 rfl hl (by decide) rfl (fun ls hl => ?_)
    exact L11 5000 (0 : Int32) vM_undone H locs ls hP hD hS (lv_sub hl [1, 0] rfl) hok
def wsX9_turnsTo : List Cond := .code yX9_turnsTo cX9_turnsTo 3 (some .boolean) :: W0
abbrev wX9_turnsTo (cy : Nat → ClassId) (aM : Nat) (qM : Nat → Nat) (vM : Nat → Int32) (vM_r : Nat → Int32) (vM_st : Nat → Int32) (vM_undone : Nat → Int32) : va_W := [(aM, oX9 vM qM), (qM 15, rI cy 224 vM_r), (qM 17, rI cy 9 vM_st), (qM 18, rI cy 144 vM_undone)]
set_option maxHeartbeats 4000000 in
set_option maxRecDepth 100000 in
theorem kX9_turnsTo (l : Launch) (D : va_G) (cy : Nat → ClassId) (sz : Nat) (aM : Nat) (qM : Nat → Nat) (vM : Nat → Int32) (vM_r : Nat → Int32) (vM_st : Nat → Int32) (vM_undone : Nat → Int32) (x1 : Int32) (x2 : Int32) (zr : Int32) (z_vM : Nat → Int32) (z_vM_st : Nat → Int32) (z_vM_undone : Nat → Int32) (hok : fX9_turnsTo vM vM_r vM_st vM_undone x1 x2 = some (zr, z_vM, z_vM_st, z_vM_undone)) (A : Nat → Prop) (hAe : va_A (wX9_turnsTo cy aM qM vM vM_r vM_st vM_undone) sz = A) : Met l yX9_turnsTo wsX9_turnsTo ({ frames := 2, cells := 0, slots := 0, locals := 46 } : Room) (kPre D cy [.ref aM, .int x1, .int x2] (wX9_turnsTo cy aM qM vM vM_r vM_st vM_undone) sz) (kQi D cy zr A (wX9_turnsTo cy aM qM z_vM vM_r z_vM_st z_vM_undone)) 0 0 A := by
  refine Met.ofW (cc := cX9_turnsTo) (maxL := 3) (ret := (some .boolean)) (by decide) rfl ?_
  intro p e s m args below meth c s₁ B hml hv
  obtain ⟨rfl, hsz, hP, hK, hD0, hN⟩ := hv
  have hx := B.exec
  have hb := B.bytes
  have hr := B.returns
  have ht0 : ∀ w ∈ W0, w.before _ s = true := fun w h => atoms_spec (ws := wsX9_turnsTo) B.pre w (List.mem_cons_of_mem _ h)
  have hown : s.vm.findClass RX9 = some m.cls := findClass_of_methodNamed B.named
  have hlocks := B.notSynchronized
  subst hsz
  have hD : va_D A (wX9_turnsTo cy aM qM vM vM_r vM_st vM_undone) := by rw [← hAe]; exact hD0.self
  have hA : ∀ q : Nat, s.heap.size ≤ q → A q := fun q h => by rw [← hAe]; exact Or.inr h
  have hS : va_S A s.heap s.heap [] := va_S.rf
  have hl := lv_entry ([.ref aM, .int x1, .int x2]) (n := 3) (Nat.le_of_ble_eq_true rfl)
  rw [lg_entry_eq]
  generalize (lg_sl ([.ref aM, .int x1, .int x2]) ++ List.replicate (3 - (lg_sl ([.ref aM, .int x1, .int x2])).length) Slot.unset).toArray = ls at hl ⊢
  have hl : lv_has ls 3 [(0, .ref aM), (1, .int x1), (2, .int x2)] := hl
  unfold fX9_turnsTo at hok
  obtain ⟨H, hH⟩ : ∃ H, H = s.heap := ⟨_, rfl⟩
  obtain ⟨locs, hlc⟩ : ∃ x : List Loc, x = [] := ⟨_, rfl⟩
  have hP : va_P D vwCl (wX9_turnsTo cy aM qM vM vM_r vM_st vM_undone) H := by rw [hH]; exact hP
  have hS : va_S A s.heap H locs := by rw [hH, hlc]; exact hS
  rw [show W p l e _ s m _ below meth c s.heap [] = W p l e _ s m _ below meth c H locs from by rw [hH, hlc]]
  refine lv_aload_n hx hb dX9_turnsTo_0 rfl (lv_at hl 0 rfl) ?_
  refine lv_iload_n hx hb dX9_turnsTo_1 rfl (lv_at hl 1 rfl) ?_
  obtain ⟨r2, hc2, hok⟩ := k_bind hok
  refine kCi (wc := (wX9_isThing cy aM qM vM vM_r)) (wc2 := (wX9_isThing cy aM qM vM vM_r)) (wr := [(qM 17, rI cy 9 vM_st), (qM 18, rI cy 144 vM_undone)]) (ws2 := (wX9_turnsTo cy aM qM vM vM_r vM_st vM_undone)) (kRunV (As := [.int x1]) (rest := []) ⟨hx, hb, hml, hown, ht0⟩ (kX9_isThing l D cy _ aM qM vM vM_r x1 r2 hc2 _ rfl) (cwV 1 ht0 (gV wd925 wd926 wd927 wd744 wd928) rfl rfl rfl (by decide +kernel) ⟨Nat.le_of_ble_eq_true rfl, Nat.le_of_ble_eq_true rfl⟩) hK hN hP hD [0, 1] rfl (by decide) 0 8 rfl rfl rfl hl.1 rfl (Nat.le_of_ble_eq_true rfl) dX9_turnsTo_2 ⟨Nat.zero_le _, Nat.zero_le _⟩) hP hD hS hA [0, 1] [2, 3] rfl rfl (by decide) (by decide) [2, 3, 0, 1] (by decide) rfl rfl (fun H locs hP hD hS => ?_)
  refine lv_if_ne (tgt := 14) hx hb dX9_turnsTo_5 (by decide) (fun c5 => ?_) (fun c5 => ?_)
  · have hok := k_neg c5 hok
    refine lv_aload_n hx hb dX9_turnsTo_14 rfl (lv_at hl 0 rfl) ?_
    refine va_get (D := D) (ci := 8) (v := .ref (qM 17)) (C := RX9) (T := TX9) (N := 29) hx hb ht0 niX9 hown hK hP 0 rfl rfl 17 (by decide) (ht0 _ wd858) (fun _ h9 => h9) rfl dX9_turnsTo_15 ?_
    refine lv_bipush (v := 7) hx hb dX9_turnsTo_18 (by decide) ?_
    obtain ⟨g20, hok⟩ := gd_some hok
    refine va_iald hx hb hK hP 2 0 rfl rfl (okI_in g20) dX9_turnsTo_20 ?_
    refine lv_iload_n hx hb dX9_turnsTo_21 rfl (lv_at hl 1 rfl) ?_
    obtain ⟨r22, hc22, hok⟩ := k_bind hok
    refine kCi (wc := (wX9_hasBit cy )) (wc2 := (wX9_hasBit cy )) (wr := [(aM, oX9 vM qM), (qM 15, rI cy 224 vM_r), (qM 17, rI cy 9 vM_st), (qM 18, rI cy 144 vM_undone)]) (ws2 := (wX9_turnsTo cy aM qM vM vM_r vM_st vM_undone)) (kRunS (As := [.int (vM_st (7 : Int32).toNatClampNeg), .int x1]) (rest := []) ⟨hx, hb, hml, hown, ht0⟩ (kX9_hasBit l D cy _ (vM_st (7 : Int32).toNatClampNeg) x1 r22 hc22 _ rfl) (va_cwS 2 ht0 (gS wd894 wd895 wd744 wd896) rfl rfl rfl (by decide +kernel) ⟨Nat.le_of_ble_eq_true rfl, Nat.le_of_ble_eq_true rfl⟩) hK hN hP hD [] rfl (by decide) rfl hl.1 rfl (Nat.le_of_ble_eq_true rfl) dX9_turnsTo_22 ⟨Nat.zero_le _, Nat.zero_le _⟩) hP hD hS hA [] [0, 1, 2, 3] rfl rfl (by decide) (by decide) [0, 1, 2, 3] (by decide) rfl rfl (fun H locs hP hD hS => ?_)
    refine lv_iload_n hx hb dX9_turnsTo_25 rfl (lv_at hl 2 rfl) ?_
    refine lv_icmp_ne (tgt := 35) hx hb dX9_turnsTo_26 (by decide) (fun c26 => ?_) (fun c26 => ?_)
    · have hok := k_neg c26 hok
      refine lv_aload_n hx hb dX9_turnsTo_35 rfl (lv_at hl 0 rfl) ?_
      obtain ⟨⟨vM_36, vM_undone_36⟩, hc36, hok⟩ := k_bind hok
      try dsimp only at hok
      refine kCv (wc := (wX9_note cy aM qM vM vM_undone vM_st)) (wc2 := (wX9_note cy aM qM vM_36 vM_undone_36 vM_st)) (wr := [(qM 15, rI cy 224 vM_r)]) (ws2 := (wX9_turnsTo cy aM qM vM_36 vM_r vM_st vM_undone_36)) (kRunV (As := []) (rest := []) ⟨hx, hb, hml, hown, ht0⟩ (kX9_note l D cy _ aM qM vM vM_undone vM_st vM_36 vM_undone_36 hc36 _ rfl) (cwV 0 ht0 (gV wd1020 wd1021 wd1022 wd744 wd1023) rfl rfl rfl (by decide +kernel) ⟨Nat.le_of_ble_eq_true rfl, Nat.le_of_ble_eq_true rfl⟩) hK hN hP hD [0, 3, 2] rfl (by decide) 0 8 rfl rfl rfl hl.1 rfl (Nat.le_of_ble_eq_true rfl) dX9_turnsTo_36 ⟨Nat.zero_le _, Nat.zero_le _⟩) hP hD hS hA [0, 3, 2] [1] rfl rfl (by decide) (by decide) [1, 0, 3, 2] (by decide) rfl rfl (fun H locs hP hD hS => ?_)
      refine lv_aload_n hx hb dX9_turnsTo_39 rfl (lv_at hl 0 rfl) ?_
      refine va_get (D := D) (ci := 8) (v := .ref (qM 17)) (C := RX9) (T := TX9) (N := 29) hx hb ht0 niX9 hown hK hP 0 rfl rfl 17 (by decide) (ht0 _ wd858) (fun _ h9 => h9) rfl dX9_turnsTo_40 ?_
      refine lv_bipush (v := 7) hx hb dX9_turnsTo_43 (by decide) ?_
      refine lv_dup2_11 hx hb dX9_turnsTo_45 rfl rfl ?_
      obtain ⟨g46, hok⟩ := gd_some hok
      refine va_iald hx hb hK hP 2 0 rfl rfl (okI_in g46) dX9_turnsTo_46 ?_
      refine lv_iconst (v := 1) hx hb dX9_turnsTo_47 (by decide) ?_
      refine lv_iload_n hx hb dX9_turnsTo_48 rfl (lv_at hl 1 rfl) ?_
      refine lv_ishl hx hb dX9_turnsTo_49 ?_
      refine lv_ixor hx hb dX9_turnsTo_50 ?_
      obtain ⟨g51, hok⟩ := gd_some hok
      refine va_iast hx hb hK hP hD hS 2 0 rfl rfl (okI_in g51) dX9_turnsTo_51 (fun H locs hP hD hS => ?_)
      have hP : va_P D vwCl (wX9_turnsTo cy aM qM vM_36 vM_r (upd vM_st (7 : Int32).toNatClampNeg ((vM_st (7 : Int32).toNatClampNeg) ^^^ (isl (1 : Int32) x1))) vM_undone_36) H := hP
      have hD : va_D A (wX9_turnsTo cy aM qM vM_36 vM_r (upd vM_st (7 : Int32).toNatClampNeg ((vM_st (7 : Int32).toNatClampNeg) ^^^ (isl (1 : Int32) x1))) vM_undone_36) := hD
      refine lv_iconst (v := 1) hx hb dX9_turnsTo_52 (by decide) ?_
      cases hok
      exact W.zret hx hb hr rfl (fun t ht hW => ⟨⟨_, (), rfl, rfl, by rw [ht]; exact hP, va_K.moved hW.alike hK, hD⟩, hS.F ht⟩) hS.2.2 dX9_turnsTo_53
    · have hok := k_pos c26 hok
      refine lv_aload_n hx hb dX9_turnsTo_29 rfl (lv_at hl 0 rfl) ?_
      refine lv_iconst (v := 5) hx hb dX9_turnsTo_30 (by decide) ?_
      obtain ⟨⟨r31, vM_31⟩, hc31, hok⟩ := k_bind hok
      try dsimp only at hok
      refine kCi (wc := (wX9_isNot cy aM qM vM)) (wc2 := (wX9_isNot cy aM qM vM_31)) (wr := [(qM 15, rI cy 224 vM_r), (qM 17, rI cy 9 vM_st), (qM 18, rI cy 144 vM_undone)]) (ws2 := (wX9_turnsTo cy aM qM vM_31 vM_r vM_st vM_undone)) (kRunV (As := [.int 5]) (rest := []) ⟨hx, hb, hml, hown, ht0⟩ (kX9_isNot l D cy _ aM qM vM (5 : Int32) r31 vM_31 hc31 _ rfl) (cwV 1 ht0 (gV wd1024 wd1025 wd1026 wd744 wd1027) rfl rfl rfl (by decide +kernel) ⟨Nat.le_of_ble_eq_true rfl, Nat.le_of_ble_eq_true rfl⟩) hK hN hP hD [0] rfl (by decide) 0 8 rfl rfl rfl hl.1 rfl (Nat.le_of_ble_eq_true rfl) dX9_turnsTo_31 ⟨Nat.zero_le _, Nat.zero_le _⟩) hP hD hS hA [0] [1, 2, 3] rfl rfl (by decide) (by decide) [3, 0, 1, 2] (by decide) rfl rfl (fun H locs hP hD hS => ?_)
      obtain ⟨g34, hok⟩ := gd_some hok
      cases hok
      exact W.zret hx hb hr (isB_nar g34) (fun t ht hW => ⟨⟨_, (), rfl, rfl, by rw [ht]; exact hP, va_K.moved hW.alike hK, hD⟩, hS.F ht⟩) hS.2.2 dX9_turnsTo_34
  · have hok := k_pos c5 hok
    refine lv_aload_n hx hb dX9_turnsTo_8 rfl (lv_at hl 0 rfl) ?_
    refine lv_iconst (v := 1) hx hb dX9_turnsTo_9 (by decide) ?_
    obtain ⟨⟨r10, vM_10⟩, hc10, hok⟩ := k_bind hok
    try dsimp only at hok
    refine kCi (wc := (wX9_isNot cy aM qM vM)) (wc2 := (wX9_isNot cy aM qM vM_10)) (wr := [(qM 15, rI cy 224 vM_r), (qM 17, rI cy 9 vM_st), (qM 18, rI cy 144 vM_undone)]) (ws2 := (wX9_turnsTo cy aM qM vM_10 vM_r vM_st vM_undone)) (kRunV (As := [.int 1]) (rest := []) ⟨hx, hb, hml, hown, ht0⟩ (kX9_isNot l D cy _ aM qM vM (1 : Int32) r10 vM_10 hc10 _ rfl) (cwV 1 ht0 (gV wd1024 wd1025 wd1026 wd744 wd1027) rfl rfl rfl (by decide +kernel) ⟨Nat.le_of_ble_eq_true rfl, Nat.le_of_ble_eq_true rfl⟩) hK hN hP hD [0] rfl (by decide) 0 8 rfl rfl rfl hl.1 rfl (Nat.le_of_ble_eq_true rfl) dX9_turnsTo_10 ⟨Nat.zero_le _, Nat.zero_le _⟩) hP hD hS hA [0] [1, 2, 3] rfl rfl (by decide) (by decide) [3, 0, 1, 2] (by decide) rfl rfl (fun H locs hP hD hS => ?_)
    obtain ⟨g13, hok⟩ := gd_some hok
    cases hok
    exact W.zret hx hb hr (isB_nar g13) (fun t ht hW => ⟨⟨_, (), rfl, rfl, by rw [ht]; exact hP, va_K.moved hW.alike hK, hD⟩, hS.F ht⟩) hS.2.2 dX9_turnsTo_13
def wsX9_hold : List Cond := .code yX9_hold cX9_hold 2 (some .boolean) :: W0
abbrev wX9_hold (cy : Nat → ClassId) (aM : Nat) (qM : Nat → Nat) (vM : Nat → Int32) (vM_r : Nat → Int32) (vM_st : Nat → Int32) (vM_undone : Nat → Int32) : va_W := [(aM, oX9 vM qM), (qM 15, rI cy 224 vM_r), (qM 17, rI cy 9 vM_st), (qM 18, rI cy 144 vM_undone)]
set_option maxHeartbeats 4000000 in
set_option maxRecDepth 100000 in
theorem kX9_hold (l : Launch) (D : va_G) (cy : Nat → ClassId) (sz : Nat) (aM : Nat) (qM : Nat → Nat) (vM : Nat → Int32) (vM_r : Nat → Int32) (vM_st : Nat → Int32) (vM_undone : Nat → Int32) (x1 : Int32) (zr : Int32) (z_vM : Nat → Int32) (z_vM_st : Nat → Int32) (z_vM_undone : Nat → Int32) (hok : fX9_hold vM vM_r vM_st vM_undone x1 = some (zr, z_vM, z_vM_st, z_vM_undone)) (A : Nat → Prop) (hAe : va_A (wX9_hold cy aM qM vM vM_r vM_st vM_undone) sz = A) : Met l yX9_hold wsX9_hold ({ frames := 3, cells := 0, slots := 0, locals := 68 } : Room) (kPre D cy [.ref aM, .int x1] (wX9_hold cy aM qM vM vM_r vM_st vM_undone) sz) (kQi D cy zr A (wX9_hold cy aM qM z_vM vM_r z_vM_st z_vM_undone)) 0 0 A := by
  refine Met.ofW (cc := cX9_hold) (maxL := 2) (ret := (some .boolean)) (by decide) rfl ?_
  intro p e s m args below meth c s₁ B hml hv
  obtain ⟨rfl, hsz, hP, hK, hD0, hN⟩ := hv
  have hx := B.exec
  have hb := B.bytes
  have hr := B.returns
  have ht0 : ∀ w ∈ W0, w.before _ s = true := fun w h => atoms_spec (ws := wsX9_hold) B.pre w (List.mem_cons_of_mem _ h)
  have hown : s.vm.findClass RX9 = some m.cls := findClass_of_methodNamed B.named
  have hlocks := B.notSynchronized
  subst hsz
  have hD : va_D A (wX9_hold cy aM qM vM vM_r vM_st vM_undone) := by rw [← hAe]; exact hD0.self
  have hA : ∀ q : Nat, s.heap.size ≤ q → A q := fun q h => by rw [← hAe]; exact Or.inr h
  have hS : va_S A s.heap s.heap [] := va_S.rf
  have hl := lv_entry ([.ref aM, .int x1]) (n := 2) (Nat.le_of_ble_eq_true rfl)
  rw [lg_entry_eq]
  generalize (lg_sl ([.ref aM, .int x1]) ++ List.replicate (2 - (lg_sl ([.ref aM, .int x1])).length) Slot.unset).toArray = ls at hl ⊢
  have hl : lv_has ls 2 [(0, .ref aM), (1, .int x1)] := hl
  unfold fX9_hold at hok
  obtain ⟨H, hH⟩ : ∃ H, H = s.heap := ⟨_, rfl⟩
  obtain ⟨locs, hlc⟩ : ∃ x : List Loc, x = [] := ⟨_, rfl⟩
  have hP : va_P D vwCl (wX9_hold cy aM qM vM vM_r vM_st vM_undone) H := by rw [hH]; exact hP
  have hS : va_S A s.heap H locs := by rw [hH, hlc]; exact hS
  rw [show W p l e _ s m _ below meth c s.heap [] = W p l e _ s m _ below meth c H locs from by rw [hH, hlc]]
  refine lv_aload_n hx hb dX9_hold_0 rfl (lv_at hl 0 rfl) ?_
  obtain ⟨vM_1, hc1, hok⟩ := k_bind hok
  refine kCv (wc := (wX9_good cy aM qM vM)) (wc2 := (wX9_good cy aM qM vM_1)) (wr := [(qM 15, rI cy 224 vM_r), (qM 17, rI cy 9 vM_st), (qM 18, rI cy 144 vM_undone)]) (ws2 := (wX9_hold cy aM qM vM_1 vM_r vM_st vM_undone)) (kRunV (As := []) (rest := []) ⟨hx, hb, hml, hown, ht0⟩ (kX9_good l D cy _ aM qM vM vM_1 hc1 _ rfl) (cwV 0 ht0 (gV wd870 wd871 wd872 wd744 wd873) rfl rfl rfl (by decide +kernel) ⟨Nat.le_of_ble_eq_true rfl, Nat.le_of_ble_eq_true rfl⟩) hK hN hP hD [0] rfl (by decide) 0 8 rfl rfl rfl hl.1 rfl (Nat.le_of_ble_eq_true rfl) dX9_hold_1 ⟨Nat.zero_le _, Nat.zero_le _⟩) hP hD hS hA [0] [1, 2, 3] rfl rfl (by decide) (by decide) [3, 0, 1, 2] (by decide) rfl rfl (fun H locs hP hD hS => ?_)
  refine lv_aload_n hx hb dX9_hold_4 rfl (lv_at hl 0 rfl) ?_
  refine lv_iload_n hx hb dX9_hold_5 rfl (lv_at hl 1 rfl) ?_
  refine lv_iconst (v := 1) hx hb dX9_hold_6 (by decide) ?_
  obtain ⟨⟨r7, vM_7, vM_st_7, vM_undone_7⟩, hc7, hok⟩ := k_bind hok
  try dsimp only at hok
  refine kCi (wc := (wX9_turnsTo cy aM qM vM_1 vM_r vM_st vM_undone)) (wc2 := (wX9_turnsTo cy aM qM vM_7 vM_r vM_st_7 vM_undone_7)) (wr := []) (ws2 := (wX9_hold cy aM qM vM_7 vM_r vM_st_7 vM_undone_7)) (kRunV (As := [.int x1, .int 1]) (rest := []) ⟨hx, hb, hml, hown, ht0⟩ (kX9_turnsTo l D cy _ aM qM vM_1 vM_r vM_st vM_undone x1 (1 : Int32) r7 vM_7 vM_st_7 vM_undone_7 hc7 _ rfl) (cwV 2 ht0 (gV wd1028 wd1029 wd1030 wd744 wd1031) rfl rfl rfl (by decide +kernel) ⟨Nat.le_of_ble_eq_true rfl, Nat.le_of_ble_eq_true rfl⟩) hK hN hP hD [0, 1, 2, 3] rfl (by decide) 0 8 rfl rfl rfl hl.1 rfl (Nat.le_of_ble_eq_true rfl) dX9_hold_7 ⟨Nat.zero_le _, Nat.zero_le _⟩) hP hD hS hA [0, 1, 2, 3] [] rfl rfl (by decide) (by decide) [0, 1, 2, 3] (by decide) rfl rfl (fun H locs hP hD hS => ?_)
  obtain ⟨g10, hok⟩ := gd_some hok
  cases hok
  exact W.zret hx hb hr (isB_nar g10) (fun t ht hW => ⟨⟨_, (), rfl, rfl, by rw [ht]; exact hP, va_K.moved hW.alike hK, hD⟩, hS.F ht⟩) hS.2.2 dX9_hold_10
def wsX9_let : List Cond := .code yX9_let cX9_let 2 (some .boolean) :: W0
abbrev wX9_let (cy : Nat → ClassId) (aM : Nat) (qM : Nat → Nat) (vM : Nat → Int32) (vM_r : Nat → Int32) (vM_st : Nat → Int32) (vM_undone : Nat → Int32) : va_W := [(aM, oX9 vM qM), (qM 15, rI cy 224 vM_r), (qM 17, rI cy 9 vM_st), (qM 18, rI cy 144 vM_undone)]
set_option maxHeartbeats 4000000 in
set_option maxRecDepth 100000 in
theorem kX9_let (l : Launch) (D : va_G) (cy : Nat → ClassId) (sz : Nat) (aM : Nat) (qM : Nat → Nat) (vM : Nat → Int32) (vM_r : Nat → Int32) (vM_st : Nat → Int32) (vM_undone : Nat → Int32) (x1 : Int32) (zr : Int32) (z_vM : Nat → Int32) (z_vM_st : Nat → Int32) (z_vM_undone : Nat → Int32) (hok : fX9_let vM vM_r vM_st vM_undone x1 = some (zr, z_vM, z_vM_st, z_vM_undone)) (A : Nat → Prop) (hAe : va_A (wX9_let cy aM qM vM vM_r vM_st vM_undone) sz = A) : Met l yX9_let wsX9_let ({ frames := 3, cells := 0, slots := 0, locals := 68 } : Room) (kPre D cy [.ref aM, .int x1] (wX9_let cy aM qM vM vM_r vM_st vM_undone) sz) (kQi D cy zr A (wX9_let cy aM qM z_vM vM_r z_vM_st z_vM_undone)) 0 0 A := by
  refine Met.ofW (cc := cX9_let) (maxL := 2) (ret := (some .boolean)) (by decide) rfl ?_
  intro p e s m args below meth c s₁ B hml hv
  obtain ⟨rfl, hsz, hP, hK, hD0, hN⟩ := hv
  have hx := B.exec
  have hb := B.bytes
  have hr := B.returns
  have ht0 : ∀ w ∈ W0, w.before _ s = true := fun w h => atoms_spec (ws := wsX9_let) B.pre w (List.mem_cons_of_mem _ h)
  have hown : s.vm.findClass RX9 = some m.cls := findClass_of_methodNamed B.named
  have hlocks := B.notSynchronized
  subst hsz
  have hD : va_D A (wX9_let cy aM qM vM vM_r vM_st vM_undone) := by rw [← hAe]; exact hD0.self
  have hA : ∀ q : Nat, s.heap.size ≤ q → A q := fun q h => by rw [← hAe]; exact Or.inr h
  have hS : va_S A s.heap s.heap [] := va_S.rf
  have hl := lv_entry ([.ref aM, .int x1]) (n := 2) (Nat.le_of_ble_eq_true rfl)
  rw [lg_entry_eq]
  generalize (lg_sl ([.ref aM, .int x1]) ++ List.replicate (2 - (lg_sl ([.ref aM, .int x1])).length) Slot.unset).toArray = ls at hl ⊢
  have hl : lv_has ls 2 [(0, .ref aM), (1, .int x1)] := hl
  unfold fX9_let at hok
  obtain ⟨H, hH⟩ : ∃ H, H = s.heap := ⟨_, rfl⟩
  obtain ⟨locs, hlc⟩ : ∃ x : List Loc, x = [] := ⟨_, rfl⟩
  have hP : va_P D vwCl (wX9_let cy aM qM vM vM_r vM_st vM_undone) H := by rw [hH]; exact hP
  have hS : va_S A s.heap H locs := by rw [hH, hlc]; exact hS
  rw [show W p l e _ s m _ below meth c s.heap [] = W p l e _ s m _ below meth c H locs from by rw [hH, hlc]]
  refine lv_aload_n hx hb dX9_let_0 rfl (lv_at hl 0 rfl) ?_
  obtain ⟨vM_1, hc1, hok⟩ := k_bind hok
  refine kCv (wc := (wX9_good cy aM qM vM)) (wc2 := (wX9_good cy aM qM vM_1)) (wr := [(qM 15, rI cy 224 vM_r), (qM 17, rI cy 9 vM_st), (qM 18, rI cy 144 vM_undone)]) (ws2 := (wX9_let cy aM qM vM_1 vM_r vM_st vM_undone)) (kRunV (As := []) (rest := []) ⟨hx, hb, hml, hown, ht0⟩ (kX9_good l D cy _ aM qM vM vM_1 hc1 _ rfl) (cwV 0 ht0 (gV wd870 wd871 wd872 wd744 wd873) rfl rfl rfl (by decide +kernel) ⟨Nat.le_of_ble_eq_true rfl, Nat.le_of_ble_eq_true rfl⟩) hK hN hP hD [0] rfl (by decide) 0 8 rfl rfl rfl hl.1 rfl (Nat.le_of_ble_eq_true rfl) dX9_let_1 ⟨Nat.zero_le _, Nat.zero_le _⟩) hP hD hS hA [0] [1, 2, 3] rfl rfl (by decide) (by decide) [3, 0, 1, 2] (by decide) rfl rfl (fun H locs hP hD hS => ?_)
  refine lv_aload_n hx hb dX9_let_4 rfl (lv_at hl 0 rfl) ?_
  refine lv_iload_n hx hb dX9_let_5 rfl (lv_at hl 1 rfl) ?_
  refine lv_iconst (v := 0) hx hb dX9_let_6 (by decide) ?_
  obtain ⟨⟨r7, vM_7, vM_st_7, vM_undone_7⟩, hc7, hok⟩ := k_bind hok
  try dsimp only at hok
  refine kCi (wc := (wX9_turnsTo cy aM qM vM_1 vM_r vM_st vM_undone)) (wc2 := (wX9_turnsTo cy aM qM vM_7 vM_r vM_st_7 vM_undone_7)) (wr := []) (ws2 := (wX9_let cy aM qM vM_7 vM_r vM_st_7 vM_undone_7)) (kRunV (As := [.int x1, .int 0]) (rest := []) ⟨hx, hb, hml, hown, ht0⟩ (kX9_turnsTo l D cy _ aM qM vM_1 vM_r vM_st vM_undone x1 (0 : Int32) r7 vM_7 vM_st_7 vM_undone_7 hc7 _ rfl) (cwV 2 ht0 (gV wd1028 wd1029 wd1030 wd744 wd1031) rfl rfl rfl (by decide +kernel) ⟨Nat.le_of_ble_eq_true rfl, Nat.le_of_ble_eq_true rfl⟩) hK hN hP hD [0, 1, 2, 3] rfl (by decide) 0 8 rfl rfl rfl hl.1 rfl (Nat.le_of_ble_eq_true rfl) dX9_let_7 ⟨Nat.zero_le _, Nat.zero_le _⟩) hP hD hS hA [0, 1, 2, 3] [] rfl rfl (by decide) (by decide) [0, 1, 2, 3] (by decide) rfl rfl (fun H locs hP hD hS => ?_)
  obtain ⟨g10, hok⟩ := gd_some hok
  cases hok
  exact W.zret hx hb hr (isB_nar g10) (fun t ht hW => ⟨⟨_, (), rfl, rfl, by rw [ht]; exact hP, va_K.moved hW.alike hK, hD⟩, hS.F ht⟩) hS.2.2 dX9_let_10
def wsX9_put : List Cond := .code yX9_put cX9_put 4 (some .boolean) :: W0
abbrev wX9_put (cy : Nat → ClassId) (aM : Nat) (qM : Nat → Nat) (vM : Nat → Int32) (vM_r : Nat → Int32) (vM_st : Nat → Int32) (vM_undone : Nat → Int32) : va_W := [(aM, oX9 vM qM), (qM 15, rI cy 224 vM_r), (qM 17, rI cy 9 vM_st), (qM 18, rI cy 144 vM_undone)]
set_option maxHeartbeats 4000000 in
set_option maxRecDepth 100000 in
theorem kX9_put (l : Launch) (D : va_G) (cy : Nat → ClassId) (sz : Nat) (aM : Nat) (qM : Nat → Nat) (vM : Nat → Int32) (vM_r : Nat → Int32) (vM_st : Nat → Int32) (vM_undone : Nat → Int32) (x1 : Int32) (x2 : Int32) (x3 : Int32) (zr : Int32) (z_vM : Nat → Int32) (z_vM_st : Nat → Int32) (z_vM_undone : Nat → Int32) (hok : fX9_put vM vM_r vM_st vM_undone x1 x2 x3 = some (zr, z_vM, z_vM_st, z_vM_undone)) (A : Nat → Prop) (hAe : va_A (wX9_put cy aM qM vM vM_r vM_st vM_undone) sz = A) : Met l yX9_put wsX9_put ({ frames := 3, cells := 0, slots := 0, locals := 65 } : Room) (kPre D cy [.ref aM, .int x1, .int x2, .int x3] (wX9_put cy aM qM vM vM_r vM_st vM_undone) sz) (kQi D cy zr A (wX9_put cy aM qM z_vM vM_r z_vM_st z_vM_undone)) 0 0 A := by
  refine Met.ofW (cc := cX9_put) (maxL := 4) (ret := (some .boolean)) (by decide) rfl ?_
  intro p e s m args below meth c s₁ B hml hv
  obtain ⟨rfl, hsz, hP, hK, hD0, hN⟩ := hv
  have hx := B.exec
  have hb := B.bytes
  have hr := B.returns
  have ht0 : ∀ w ∈ W0, w.before _ s = true := fun w h => atoms_spec (ws := wsX9_put) B.pre w (List.mem_cons_of_mem _ h)
  have hown : s.vm.findClass RX9 = some m.cls := findClass_of_methodNamed B.named
  have hlocks := B.notSynchronized
  subst hsz
  have hD : va_D A (wX9_put cy aM qM vM vM_r vM_st vM_undone) := by rw [← hAe]; exact hD0.self
  have hA : ∀ q : Nat, s.heap.size ≤ q → A q := fun q h => by rw [← hAe]; exact Or.inr h
  have hS : va_S A s.heap s.heap [] := va_S.rf
  have hl := lv_entry ([.ref aM, .int x1, .int x2, .int x3]) (n := 4) (Nat.le_of_ble_eq_true rfl)
  rw [lg_entry_eq]
  generalize (lg_sl ([.ref aM, .int x1, .int x2, .int x3]) ++ List.replicate (4 - (lg_sl ([.ref aM, .int x1, .int x2, .int x3])).length) Slot.unset).toArray = ls at hl ⊢
  have hl : lv_has ls 4 [(0, .ref aM), (1, .int x1), (2, .int x2), (3, .int x3)] := hl
  generalize hQe : MQ below (kQi D cy zr A (wX9_put cy aM qM z_vM vM_r z_vM_st z_vM_undone)) ([.ref aM, .int x1, .int x2, .int x3] : List Value).toArray s 0 0 A = Q
  have J58 : ∀ (vM_58 : Nat → Int32), ∀ (H : Heap) (locs : List Loc) (ls : Array Slot), va_P D vwCl (wX9_put cy aM qM vM_58 vM_r vM_st vM_undone) H → va_D A (wX9_put cy aM qM vM_58 vM_r vM_st vM_undone) → va_S A s.heap H locs → lv_has ls 4 [(0, .ref aM)] → fX9_put_J58 vM_st vM_undone vM_58 = some (zr, z_vM, z_vM_st, z_vM_undone) → W p l e ({ frames := 3, cells := 0, slots := 0, locals := 65 } : Room) s m ([.ref aM, .int x1, .int x2, .int x3] : List Value).toArray below meth c H locs 0 0 Q (F0 m 58 ls []) := by
    intro vM_58 H locs ls hP hD hS hl hok
    unfold fX9_put_J58 at hok
    refine lv_aload_n hx hb dX9_put_58 rfl (lv_at hl 0 rfl) ?_
    refine lv_iconst (v := 5) hx hb dX9_put_59 (by decide) ?_
    obtain ⟨⟨r60, vM_60⟩, hc60, hok⟩ := k_bind hok
    try dsimp only at hok
    refine kCi (wc := (wX9_isNot cy aM qM vM_58)) (wc2 := (wX9_isNot cy aM qM vM_60)) (wr := [(qM 15, rI cy 224 vM_r), (qM 17, rI cy 9 vM_st), (qM 18, rI cy 144 vM_undone)]) (ws2 := (wX9_put cy aM qM vM_60 vM_r vM_st vM_undone)) (kRunV (As := [.int 5]) (rest := []) ⟨hx, hb, hml, hown, ht0⟩ (kX9_isNot l D cy _ aM qM vM_58 (5 : Int32) r60 vM_60 hc60 _ rfl) (cwV 1 ht0 (gV wd1024 wd1025 wd1026 wd744 wd1027) rfl rfl rfl (by decide +kernel) ⟨Nat.le_of_ble_eq_true rfl, Nat.le_of_ble_eq_true rfl⟩) hK hN hP hD [0] rfl (by decide) 0 8 rfl rfl rfl hl.1 rfl (Nat.le_of_ble_eq_true rfl) dX9_put_60 ⟨Nat.zero_le _, Nat.zero_le _⟩) hP hD hS hA [0] [1, 2, 3] rfl rfl (by decide) (by decide) [3, 0, 1, 2] (by decide) rfl rfl (fun H locs hP hD hS => ?_)
    obtain ⟨g63, hok⟩ := gd_some hok
    cases hok
    subst hQe; exact W.zret hx hb hr (isB_nar g63) (fun t ht hW => ⟨⟨_, (), rfl, rfl, by rw [ht]; exact hP, va_K.moved hW.alike hK, hD⟩, hS.F ht⟩) hS.2.2 dX9_put_63
  have J21 : ∀ (vM_21 : Nat → Int32), ∀ (H : Heap) (locs : List Loc) (ls : Array Slot), va_P D vwCl (wX9_put cy aM qM vM_21 vM_r vM_st vM_undone) H → va_D A (wX9_put cy aM qM vM_21 vM_r vM_st vM_undone) → va_S A s.heap H locs → lv_has ls 4 [(0, .ref aM)] → fX9_put_J21 vM_st vM_undone vM_21 = some (zr, z_vM, z_vM_st, z_vM_undone) → W p l e ({ frames := 3, cells := 0, slots := 0, locals := 65 } : Room) s m ([.ref aM, .int x1, .int x2, .int x3] : List Value).toArray below meth c H locs 0 0 Q (F0 m 21 ls []) := by
    intro vM_21 H locs ls hP hD hS hl hok
    unfold fX9_put_J21 at hok
    refine lv_aload_n hx hb dX9_put_21 rfl (lv_at hl 0 rfl) ?_
    refine lv_iconst (v := 1) hx hb dX9_put_22 (by decide) ?_
    obtain ⟨⟨r23, vM_23⟩, hc23, hok⟩ := k_bind hok
    try dsimp only at hok
    refine kCi (wc := (wX9_isNot cy aM qM vM_21)) (wc2 := (wX9_isNot cy aM qM vM_23)) (wr := [(qM 15, rI cy 224 vM_r), (qM 17, rI cy 9 vM_st), (qM 18, rI cy 144 vM_undone)]) (ws2 := (wX9_put cy aM qM vM_23 vM_r vM_st vM_undone)) (kRunV (As := [.int 1]) (rest := []) ⟨hx, hb, hml, hown, ht0⟩ (kX9_isNot l D cy _ aM qM vM_21 (1 : Int32) r23 vM_23 hc23 _ rfl) (cwV 1 ht0 (gV wd1024 wd1025 wd1026 wd744 wd1027) rfl rfl rfl (by decide +kernel) ⟨Nat.le_of_ble_eq_true rfl, Nat.le_of_ble_eq_true rfl⟩) hK hN hP hD [0] rfl (by decide) 0 8 rfl rfl rfl hl.1 rfl (Nat.le_of_ble_eq_true rfl) dX9_put_23 ⟨Nat.zero_le _, Nat.zero_le _⟩) hP hD hS hA [0] [1, 2, 3] rfl rfl (by decide) (by decide) [3, 0, 1, 2] (by decide) rfl rfl (fun H locs hP hD hS => ?_)
    obtain ⟨g26, hok⟩ := gd_some hok
    cases hok
    subst hQe; exact W.zret hx hb hr (isB_nar g26) (fun t ht hW => ⟨⟨_, (), rfl, rfl, by rw [ht]; exact hP, va_K.moved hW.alike hK, hD⟩, hS.F ht⟩) hS.2.2 dX9_put_26
  unfold fX9_put at hok
  obtain ⟨H, hH⟩ : ∃ H, H = s.heap := ⟨_, rfl⟩
  obtain ⟨locs, hlc⟩ : ∃ x : List Loc, x = [] := ⟨_, rfl⟩
  have hP : va_P D vwCl (wX9_put cy aM qM vM vM_r vM_st vM_undone) H := by rw [hH]; exact hP
  have hS : va_S A s.heap H locs := by rw [hH, hlc]; exact hS
  rw [show W p l e _ s m _ below meth c s.heap [] = W p l e _ s m _ below meth c H locs from by rw [hH, hlc]]
  refine lv_aload_n hx hb dX9_put_0 rfl (lv_at hl 0 rfl) ?_
  obtain ⟨vM_1, hc1, hok⟩ := k_bind hok
  refine kCv (wc := (wX9_good cy aM qM vM)) (wc2 := (wX9_good cy aM qM vM_1)) (wr := [(qM 15, rI cy 224 vM_r), (qM 17, rI cy 9 vM_st), (qM 18, rI cy 144 vM_undone)]) (ws2 := (wX9_put cy aM qM vM_1 vM_r vM_st vM_undone)) (kRunV (As := []) (rest := []) ⟨hx, hb, hml, hown, ht0⟩ (kX9_good l D cy _ aM qM vM vM_1 hc1 _ rfl) (cwV 0 ht0 (gV wd870 wd871 wd872 wd744 wd873) rfl rfl rfl (by decide +kernel) ⟨Nat.le_of_ble_eq_true rfl, Nat.le_of_ble_eq_true rfl⟩) hK hN hP hD [0] rfl (by decide) 0 8 rfl rfl rfl hl.1 rfl (Nat.le_of_ble_eq_true rfl) dX9_put_1 ⟨Nat.zero_le _, Nat.zero_le _⟩) hP hD hS hA [0] [1, 2, 3] rfl rfl (by decide) (by decide) [3, 0, 1, 2] (by decide) rfl rfl (fun H locs hP hD hS => ?_)
  refine lv_aload_n hx hb dX9_put_4 rfl (lv_at hl 0 rfl) ?_
  refine lv_iload_n hx hb dX9_put_5 rfl (lv_at hl 1 rfl) ?_
  obtain ⟨r6, hc6, hok⟩ := k_bind hok
  refine kCi (wc := (wX9_isThing cy aM qM vM_1 vM_r)) (wc2 := (wX9_isThing cy aM qM vM_1 vM_r)) (wr := [(qM 17, rI cy 9 vM_st), (qM 18, rI cy 144 vM_undone)]) (ws2 := (wX9_put cy aM qM vM_1 vM_r vM_st vM_undone)) (kRunV (As := [.int x1]) (rest := []) ⟨hx, hb, hml, hown, ht0⟩ (kX9_isThing l D cy _ aM qM vM_1 vM_r x1 r6 hc6 _ rfl) (cwV 1 ht0 (gV wd925 wd926 wd927 wd744 wd928) rfl rfl rfl (by decide +kernel) ⟨Nat.le_of_ble_eq_true rfl, Nat.le_of_ble_eq_true rfl⟩) hK hN hP hD [0, 1] rfl (by decide) 0 8 rfl rfl rfl hl.1 rfl (Nat.le_of_ble_eq_true rfl) dX9_put_6 ⟨Nat.zero_le _, Nat.zero_le _⟩) hP hD hS hA [0, 1] [2, 3] rfl rfl (by decide) (by decide) [2, 3, 0, 1] (by decide) rfl rfl (fun H locs hP hD hS => ?_)
  refine lv_if_eq (tgt := 21) hx hb dX9_put_9 (by decide) (fun c9 => ?_) (fun c9 => ?_)
  · have hok := k_pos c9 hok
    exact J21 vM_1 H locs ls hP hD hS (lv_sub hl [0] rfl) hok
  · have hok := k_neg c9 hok
    refine lv_aload_n hx hb dX9_put_12 rfl (lv_at hl 0 rfl) ?_
    refine lv_iload_n hx hb dX9_put_13 rfl (lv_at hl 2 rfl) ?_
    refine lv_iload_n hx hb dX9_put_14 rfl (lv_at hl 3 rfl) ?_
    obtain ⟨r15, hc15, hok⟩ := k_bind hok
    refine kCi (wc := (wX9_isPlace cy aM qM vM_1 vM_r)) (wc2 := (wX9_isPlace cy aM qM vM_1 vM_r)) (wr := [(qM 17, rI cy 9 vM_st), (qM 18, rI cy 144 vM_undone)]) (ws2 := (wX9_put cy aM qM vM_1 vM_r vM_st vM_undone)) (kRunV (As := [.int x2, .int x3]) (rest := []) ⟨hx, hb, hml, hown, ht0⟩ (kX9_isPlace l D cy _ aM qM vM_1 vM_r x2 x3 r15 hc15 _ rfl) (cwV 2 ht0 (gV wd929 wd930 wd931 wd744 wd932) rfl rfl rfl (by decide +kernel) ⟨Nat.le_of_ble_eq_true rfl, Nat.le_of_ble_eq_true rfl⟩) hK hN hP hD [0, 1] rfl (by decide) 0 8 rfl rfl rfl hl.1 rfl (Nat.le_of_ble_eq_true rfl) dX9_put_15 ⟨Nat.zero_le _, Nat.zero_le _⟩) hP hD hS hA [0, 1] [2, 3] rfl rfl (by decide) (by decide) [2, 3, 0, 1] (by decide) rfl rfl (fun H locs hP hD hS => ?_)
    refine lv_if_ne (tgt := 27) hx hb dX9_put_18 (by decide) (fun c18 => ?_) (fun c18 => ?_)
    · have hok := k_neg c18 hok
      refine lv_aload_n hx hb dX9_put_27 rfl (lv_at hl 0 rfl) ?_
      refine va_get (D := D) (ci := 8) (v := .ref (qM 17)) (C := RX9) (T := TX9) (N := 29) hx hb ht0 niX9 hown hK hP 0 rfl rfl 17 (by decide) (ht0 _ wd858) (fun _ h9 => h9) rfl dX9_put_28 ?_
      refine lv_bipush (v := 7) hx hb dX9_put_31 (by decide) ?_
      obtain ⟨g33, hok⟩ := gd_some hok
      refine va_iald hx hb hK hP 2 0 rfl rfl (okI_in g33) dX9_put_33 ?_
      refine lv_iload_n hx hb dX9_put_34 rfl (lv_at hl 1 rfl) ?_
      obtain ⟨r35, hc35, hok⟩ := k_bind hok
      refine kCi (wc := (wX9_hasBit cy )) (wc2 := (wX9_hasBit cy )) (wr := [(aM, oX9 vM_1 qM), (qM 15, rI cy 224 vM_r), (qM 17, rI cy 9 vM_st), (qM 18, rI cy 144 vM_undone)]) (ws2 := (wX9_put cy aM qM vM_1 vM_r vM_st vM_undone)) (kRunS (As := [.int (vM_st (7 : Int32).toNatClampNeg), .int x1]) (rest := []) ⟨hx, hb, hml, hown, ht0⟩ (kX9_hasBit l D cy _ (vM_st (7 : Int32).toNatClampNeg) x1 r35 hc35 _ rfl) (va_cwS 2 ht0 (gS wd894 wd895 wd744 wd896) rfl rfl rfl (by decide +kernel) ⟨Nat.le_of_ble_eq_true rfl, Nat.le_of_ble_eq_true rfl⟩) hK hN hP hD [] rfl (by decide) rfl hl.1 rfl (Nat.le_of_ble_eq_true rfl) dX9_put_35 ⟨Nat.zero_le _, Nat.zero_le _⟩) hP hD hS hA [] [0, 1, 2, 3] rfl rfl (by decide) (by decide) [0, 1, 2, 3] (by decide) rfl rfl (fun H locs hP hD hS => ?_)
      refine lv_if_ne (tgt := 58) hx hb dX9_put_38 (by decide) (fun c38 => ?_) (fun c38 => ?_)
      · have hok := k_neg c38 hok
        exact J58 vM_1 H locs ls hP hD hS (lv_sub hl [0] rfl) hok
      · have hok := k_pos c38 hok
        refine lv_aload_n hx hb dX9_put_41 rfl (lv_at hl 0 rfl) ?_
        refine lv_aload_n hx hb dX9_put_42 rfl (lv_at hl 0 rfl) ?_
        refine va_get (D := D) (ci := 8) (v := .ref (qM 17)) (C := RX9) (T := TX9) (N := 29) hx hb ht0 niX9 hown hK hP 0 rfl rfl 17 (by decide) (ht0 _ wd858) (fun _ h9 => h9) rfl dX9_put_43 ?_
        refine lv_bipush (v := 9) hx hb dX9_put_46 (by decide) ?_
        refine lv_iload_n hx hb dX9_put_48 rfl (lv_at hl 2 rfl) ?_
        refine lv_imul hx hb dX9_put_49 ?_
        refine lv_iload_n hx hb dX9_put_50 rfl (lv_at hl 3 rfl) ?_
        refine lv_iadd hx hb dX9_put_51 ?_
        obtain ⟨r52, hc52, hok⟩ := k_bind hok
        refine kCi (wc := (wX9_thingAt cy aM (qM 17) qM vM_1 vM_r 9 vM_st)) (wc2 := (wX9_thingAt cy aM (qM 17) qM vM_1 vM_r 9 vM_st)) (wr := [(qM 18, rI cy 144 vM_undone)]) (ws2 := (wX9_put cy aM qM vM_1 vM_r vM_st vM_undone)) (kRunV (As := [.ref (qM 17), .int (((9 : Int32) * x2) + x3)]) (rest := []) ⟨hx, hb, hml, hown, ht0⟩ (kX9_thingAt l D cy _ aM (qM 17) qM vM_1 vM_r 9 vM_st (((9 : Int32) * x2) + x3) r52 hc52 _ rfl) (cwV 2 ht0 (gV wd901 wd902 wd903 wd744 wd904) rfl rfl rfl (by decide +kernel) ⟨Nat.le_of_ble_eq_true rfl, Nat.le_of_ble_eq_true rfl⟩) hK hN hP hD [0, 1, 2] rfl (by decide) 0 8 rfl rfl rfl hl.1 rfl (Nat.le_of_ble_eq_true rfl) dX9_put_52 ⟨Nat.zero_le _, Nat.zero_le _⟩) hP hD hS hA [0, 1, 2] [3] rfl rfl (by decide) (by decide) [1, 2, 3, 0] (by decide) rfl rfl (fun H locs hP hD hS => ?_)
        refine lv_if_lt (tgt := 64) hx hb dX9_put_55 (by decide) (fun c55 => ?_) (fun c55 => ?_)
        · have hok := k_pos c55 hok
          refine lv_aload_n hx hb dX9_put_64 rfl (lv_at hl 0 rfl) ?_
          obtain ⟨⟨vM_65, vM_undone_65⟩, hc65, hok⟩ := k_bind hok
          try dsimp only at hok
          refine kCv (wc := (wX9_note cy aM qM vM_1 vM_undone vM_st)) (wc2 := (wX9_note cy aM qM vM_65 vM_undone_65 vM_st)) (wr := [(qM 15, rI cy 224 vM_r)]) (ws2 := (wX9_put cy aM qM vM_65 vM_r vM_st vM_undone_65)) (kRunV (As := []) (rest := []) ⟨hx, hb, hml, hown, ht0⟩ (kX9_note l D cy _ aM qM vM_1 vM_undone vM_st vM_65 vM_undone_65 hc65 _ rfl) (cwV 0 ht0 (gV wd1020 wd1021 wd1022 wd744 wd1023) rfl rfl rfl (by decide +kernel) ⟨Nat.le_of_ble_eq_true rfl, Nat.le_of_ble_eq_true rfl⟩) hK hN hP hD [0, 3, 2] rfl (by decide) 0 8 rfl rfl rfl hl.1 rfl (Nat.le_of_ble_eq_true rfl) dX9_put_65 ⟨Nat.zero_le _, Nat.zero_le _⟩) hP hD hS hA [0, 3, 2] [1] rfl rfl (by decide) (by decide) [1, 0, 3, 2] (by decide) rfl rfl (fun H locs hP hD hS => ?_)
          refine lv_aload_n hx hb dX9_put_68 rfl (lv_at hl 0 rfl) ?_
          refine va_get (D := D) (ci := 8) (v := .ref (qM 17)) (C := RX9) (T := TX9) (N := 29) hx hb ht0 niX9 hown hK hP 0 rfl rfl 17 (by decide) (ht0 _ wd858) (fun _ h9 => h9) rfl dX9_put_69 ?_
          refine lv_iload_n hx hb dX9_put_72 rfl (lv_at hl 1 rfl) ?_
          refine lv_bipush (v := 9) hx hb dX9_put_73 (by decide) ?_
          refine lv_iload_n hx hb dX9_put_75 rfl (lv_at hl 2 rfl) ?_
          refine lv_imul hx hb dX9_put_76 ?_
          refine lv_iload_n hx hb dX9_put_77 rfl (lv_at hl 3 rfl) ?_
          refine lv_iadd hx hb dX9_put_78 ?_
          obtain ⟨g79, hok⟩ := gd_some hok
          refine va_iast hx hb hK hP hD hS 2 0 rfl rfl (okI_in g79) dX9_put_79 (fun H locs hP hD hS => ?_)
          have hP : va_P D vwCl (wX9_put cy aM qM vM_65 vM_r (upd vM_st x1.toNatClampNeg (((9 : Int32) * x2) + x3)) vM_undone_65) H := hP
          have hD : va_D A (wX9_put cy aM qM vM_65 vM_r (upd vM_st x1.toNatClampNeg (((9 : Int32) * x2) + x3)) vM_undone_65) := hD
          refine lv_iconst (v := 1) hx hb dX9_put_80 (by decide) ?_
          cases hok
          subst hQe; exact W.zret hx hb hr rfl (fun t ht hW => ⟨⟨_, (), rfl, rfl, by rw [ht]; exact hP, va_K.moved hW.alike hK, hD⟩, hS.F ht⟩) hS.2.2 dX9_put_81
        · have hok := k_neg c55 hok
          exact J58 vM_1 H locs ls hP hD hS (lv_sub hl [0] rfl) hok
    · have hok := k_pos c18 hok
      exact J21 vM_1 H locs ls hP hD hS (lv_sub hl [0] rfl) hok
def wsX9_night : List Cond := .code yX9_night cX9_night 1 (some .int) :: W0
abbrev wX9_night (cy : Nat → ClassId) (aM : Nat) (qM : Nat → Nat) (vM : Nat → Int32) (vM_st : Nat → Int32) (vM_undone : Nat → Int32) (vM_r : Nat → Int32) : va_W := [(aM, oX9 vM qM), (qM 17, rI cy 9 vM_st), (qM 18, rI cy 144 vM_undone), (qM 15, rI cy 224 vM_r)]
set_option maxHeartbeats 4000000 in
set_option maxRecDepth 100000 in
theorem kX9_night (l : Launch) (D : va_G) (cy : Nat → ClassId) (sz : Nat) (aM : Nat) (qM : Nat → Nat) (vM : Nat → Int32) (vM_st : Nat → Int32) (vM_undone : Nat → Int32) (vM_r : Nat → Int32) (zr : Int32) (z_vM : Nat → Int32) (z_vM_st : Nat → Int32) (z_vM_undone : Nat → Int32) (hok : fX9_night vM vM_st vM_undone vM_r = some (zr, z_vM, z_vM_st, z_vM_undone)) (A : Nat → Prop) (hAe : va_A (wX9_night cy aM qM vM vM_st vM_undone vM_r) sz = A) : Met l yX9_night wsX9_night ({ frames := 5, cells := 0, slots := 0, locals := 114 } : Room) (kPre D cy [.ref aM] (wX9_night cy aM qM vM vM_st vM_undone vM_r) sz) (kQi D cy zr A (wX9_night cy aM qM z_vM z_vM_st z_vM_undone vM_r)) 0 0 A := by
  refine Met.ofW (cc := cX9_night) (maxL := 1) (ret := (some .int)) (by decide) rfl ?_
  intro p e s m args below meth c s₁ B hml hv
  obtain ⟨rfl, hsz, hP, hK, hD0, hN⟩ := hv
  have hx := B.exec
  have hb := B.bytes
  have hr := B.returns
  have ht0 : ∀ w ∈ W0, w.before _ s = true := fun w h => atoms_spec (ws := wsX9_night) B.pre w (List.mem_cons_of_mem _ h)
  have hown : s.vm.findClass RX9 = some m.cls := findClass_of_methodNamed B.named
  have hlocks := B.notSynchronized
  subst hsz
  have hD : va_D A (wX9_night cy aM qM vM vM_st vM_undone vM_r) := by rw [← hAe]; exact hD0.self
  have hA : ∀ q : Nat, s.heap.size ≤ q → A q := fun q h => by rw [← hAe]; exact Or.inr h
  have hS : va_S A s.heap s.heap [] := va_S.rf
  have hl := lv_entry ([.ref aM]) (n := 1) (Nat.le_of_ble_eq_true rfl)
  rw [lg_entry_eq]
  generalize (lg_sl ([.ref aM]) ++ List.replicate (1 - (lg_sl ([.ref aM])).length) Slot.unset).toArray = ls at hl ⊢
  have hl : lv_has ls 1 [(0, .ref aM)] := hl
  unfold fX9_night at hok
  obtain ⟨H, hH⟩ : ∃ H, H = s.heap := ⟨_, rfl⟩
  obtain ⟨locs, hlc⟩ : ∃ x : List Loc, x = [] := ⟨_, rfl⟩
  have hP : va_P D vwCl (wX9_night cy aM qM vM vM_st vM_undone vM_r) H := by rw [hH]; exact hP
  have hS : va_S A s.heap H locs := by rw [hH, hlc]; exact hS
  rw [show W p l e _ s m _ below meth c s.heap [] = W p l e _ s m _ below meth c H locs from by rw [hH, hlc]]
  refine lv_aload_n hx hb dX9_night_0 rfl (lv_at hl 0 rfl) ?_
  obtain ⟨vM_1, hc1, hok⟩ := k_bind hok
  refine kCv (wc := (wX9_good cy aM qM vM)) (wc2 := (wX9_good cy aM qM vM_1)) (wr := [(qM 17, rI cy 9 vM_st), (qM 18, rI cy 144 vM_undone), (qM 15, rI cy 224 vM_r)]) (ws2 := (wX9_night cy aM qM vM_1 vM_st vM_undone vM_r)) (kRunV (As := []) (rest := []) ⟨hx, hb, hml, hown, ht0⟩ (kX9_good l D cy _ aM qM vM vM_1 hc1 _ rfl) (cwV 0 ht0 (gV wd870 wd871 wd872 wd744 wd873) rfl rfl rfl (by decide +kernel) ⟨Nat.le_of_ble_eq_true rfl, Nat.le_of_ble_eq_true rfl⟩) hK hN hP hD [0] rfl (by decide) 0 8 rfl rfl rfl hl.1 rfl (Nat.le_of_ble_eq_true rfl) dX9_night_1 ⟨Nat.zero_le _, Nat.zero_le _⟩) hP hD hS hA [0] [1, 2, 3] rfl rfl (by decide) (by decide) [3, 0, 1, 2] (by decide) rfl rfl (fun H locs hP hD hS => ?_)
  refine lv_aload_n hx hb dX9_night_4 rfl (lv_at hl 0 rfl) ?_
  refine va_get (D := D) (ci := 8) (v := .int (vM_1 14)) (C := RX9) (T := TX9) (N := 29) hx hb ht0 niX9 hown hK hP 0 rfl rfl 14 (by decide) (ht0 _ wd855) (fun _ h9 => h9) rfl dX9_night_5 ?_
  refine lv_if_ne (tgt := 17) hx hb dX9_night_8 (by decide) (fun c8 => ?_) (fun c8 => ?_)
  · have hok := k_neg c8 hok
    refine lv_aload_n hx hb dX9_night_17 rfl (lv_at hl 0 rfl) ?_
    refine va_get (D := D) (ci := 8) (v := .ref (qM 17)) (C := RX9) (T := TX9) (N := 29) hx hb ht0 niX9 hown hK hP 0 rfl rfl 17 (by decide) (ht0 _ wd858) (fun _ h9 => h9) rfl dX9_night_18 ?_
    refine lv_bipush (v := 8) hx hb dX9_night_21 (by decide) ?_
    obtain ⟨g23, hok⟩ := gd_some hok
    refine va_iald hx hb hK hP 1 0 rfl rfl (okI_in g23) dX9_night_23 ?_
    refine lv_sipush (v := 999) hx hb dX9_night_24 (by decide) ?_
    refine lv_icmp_ne (tgt := 36) hx hb dX9_night_27 (by decide) (fun c27 => ?_) (fun c27 => ?_)
    · have hok := k_neg c27 hok
      refine lv_aload_n hx hb dX9_night_36 rfl (lv_at hl 0 rfl) ?_
      obtain ⟨⟨vM_37, vM_undone_37⟩, hc37, hok⟩ := k_bind hok
      try dsimp only at hok
      refine kCv (wc := (wX9_note cy aM qM vM_1 vM_undone vM_st)) (wc2 := (wX9_note cy aM qM vM_37 vM_undone_37 vM_st)) (wr := [(qM 15, rI cy 224 vM_r)]) (ws2 := (wX9_night cy aM qM vM_37 vM_st vM_undone_37 vM_r)) (kRunV (As := []) (rest := []) ⟨hx, hb, hml, hown, ht0⟩ (kX9_note l D cy _ aM qM vM_1 vM_undone vM_st vM_37 vM_undone_37 hc37 _ rfl) (cwV 0 ht0 (gV wd1020 wd1021 wd1022 wd744 wd1023) rfl rfl rfl (by decide +kernel) ⟨Nat.le_of_ble_eq_true rfl, Nat.le_of_ble_eq_true rfl⟩) hK hN hP hD [0, 2, 1] rfl (by decide) 0 8 rfl rfl rfl hl.1 rfl (Nat.le_of_ble_eq_true rfl) dX9_night_37 ⟨Nat.zero_le _, Nat.zero_le _⟩) hP hD hS hA [0, 2, 1] [3] rfl rfl (by decide) (by decide) [1, 3, 2, 0] (by decide) rfl rfl (fun H locs hP hD hS => ?_)
      refine lv_aload_n hx hb dX9_night_40 rfl (lv_at hl 0 rfl) ?_
      refine lv_aload_n hx hb dX9_night_41 rfl (lv_at hl 0 rfl) ?_
      refine va_get (D := D) (ci := 8) (v := .ref (qM 17)) (C := RX9) (T := TX9) (N := 29) hx hb ht0 niX9 hown hK hP 0 rfl rfl 17 (by decide) (ht0 _ wd858) (fun _ h9 => h9) rfl dX9_night_42 ?_
      obtain ⟨⟨r45, p1_45⟩, hc45, hok⟩ := k_bind hok
      try dsimp only at hok
      refine kCi (wc := (wX9_nightOf cy aM (qM 17) qM vM_37 vM_r 9 vM_st)) (wc2 := (wX9_nightOf cy aM (qM 17) qM vM_37 vM_r 9 p1_45)) (wr := [(qM 18, rI cy 144 vM_undone_37)]) (ws2 := (wX9_night cy aM qM vM_37 p1_45 vM_undone_37 vM_r)) (kRunV (As := [.ref (qM 17)]) (rest := []) ⟨hx, hb, hml, hown, ht0⟩ (kX9_nightOf l D cy _ aM (qM 17) qM vM_37 vM_r 9 vM_st r45 p1_45 hc45 _ rfl) (cwV 1 ht0 (gV wd940 wd941 wd942 wd744 wd943) rfl rfl rfl (by decide +kernel) ⟨Nat.le_of_ble_eq_true rfl, Nat.le_of_ble_eq_true rfl⟩) hK hN hP hD [0, 3, 1] rfl (by decide) 0 8 rfl rfl rfl hl.1 rfl (Nat.le_of_ble_eq_true rfl) dX9_night_45 ⟨Nat.zero_le _, Nat.zero_le _⟩) hP hD hS hA [0, 3, 1] [2] rfl rfl (by decide) (by decide) [1, 3, 0, 2] (by decide) rfl rfl (fun H locs hP hD hS => ?_)
      cases hok
      exact W.iret hx hb hr (fun t ht hW => ⟨⟨_, (), rfl, rfl, by rw [ht]; exact hP, va_K.moved hW.alike hK, hD⟩, hS.F ht⟩) hS.2.2 dX9_night_48
    · have hok := k_pos c27 hok
      refine lv_aload_n hx hb dX9_night_30 rfl (lv_at hl 0 rfl) ?_
      refine lv_iconst (v := 3) hx hb dX9_night_31 (by decide) ?_
      obtain ⟨⟨r32, vM_32⟩, hc32, hok⟩ := k_bind hok
      try dsimp only at hok
      refine kCi (wc := (wX9_no cy aM qM vM_1)) (wc2 := (wX9_no cy aM qM vM_32)) (wr := [(qM 17, rI cy 9 vM_st), (qM 18, rI cy 144 vM_undone), (qM 15, rI cy 224 vM_r)]) (ws2 := (wX9_night cy aM qM vM_32 vM_st vM_undone vM_r)) (kRunV (As := [.int 3]) (rest := []) ⟨hx, hb, hml, hown, ht0⟩ (kX9_no l D cy _ aM qM vM_1 (3 : Int32) r32 vM_32 hc32 _ rfl) (cwV 1 ht0 (gV wd862 wd863 wd864 wd744 wd865) rfl rfl rfl (by decide +kernel) ⟨Nat.le_of_ble_eq_true rfl, Nat.le_of_ble_eq_true rfl⟩) hK hN hP hD [0] rfl (by decide) 0 8 rfl rfl rfl hl.1 rfl (Nat.le_of_ble_eq_true rfl) dX9_night_32 ⟨Nat.zero_le _, Nat.zero_le _⟩) hP hD hS hA [0] [1, 2, 3] rfl rfl (by decide) (by decide) [3, 0, 1, 2] (by decide) rfl rfl (fun H locs hP hD hS => ?_)
      cases hok
      exact W.iret hx hb hr (fun t ht hW => ⟨⟨_, (), rfl, rfl, by rw [ht]; exact hP, va_K.moved hW.alike hK, hD⟩, hS.F ht⟩) hS.2.2 dX9_night_35
  · have hok := k_pos c8 hok
    refine lv_aload_n hx hb dX9_night_11 rfl (lv_at hl 0 rfl) ?_
    refine lv_iconst (v := 1) hx hb dX9_night_12 (by decide) ?_
    obtain ⟨⟨r13, vM_13⟩, hc13, hok⟩ := k_bind hok
    try dsimp only at hok
    refine kCi (wc := (wX9_no cy aM qM vM_1)) (wc2 := (wX9_no cy aM qM vM_13)) (wr := [(qM 17, rI cy 9 vM_st), (qM 18, rI cy 144 vM_undone), (qM 15, rI cy 224 vM_r)]) (ws2 := (wX9_night cy aM qM vM_13 vM_st vM_undone vM_r)) (kRunV (As := [.int 1]) (rest := []) ⟨hx, hb, hml, hown, ht0⟩ (kX9_no l D cy _ aM qM vM_1 (1 : Int32) r13 vM_13 hc13 _ rfl) (cwV 1 ht0 (gV wd862 wd863 wd864 wd744 wd865) rfl rfl rfl (by decide +kernel) ⟨Nat.le_of_ble_eq_true rfl, Nat.le_of_ble_eq_true rfl⟩) hK hN hP hD [0] rfl (by decide) 0 8 rfl rfl rfl hl.1 rfl (Nat.le_of_ble_eq_true rfl) dX9_night_13 ⟨Nat.zero_le _, Nat.zero_le _⟩) hP hD hS hA [0] [1, 2, 3] rfl rfl (by decide) (by decide) [3, 0, 1, 2] (by decide) rfl rfl (fun H locs hP hD hS => ?_)
    cases hok
    exact W.iret hx hb hr (fun t ht hW => ⟨⟨_, (), rfl, rfl, by rw [ht]; exact hP, va_K.moved hW.alike hK, hD⟩, hS.F ht⟩) hS.2.2 dX9_night_16
def wsX9_undo : List Cond := .code yX9_undo cX9_undo 1 (some .boolean) :: W0
abbrev wX9_undo (cy : Nat → ClassId) (aM : Nat) (qM : Nat → Nat) (vM : Nat → Int32) (vM_undone : Nat → Int32) (vM_st : Nat → Int32) : va_W := [(aM, oX9 vM qM), (qM 18, rI cy 144 vM_undone), (qM 17, rI cy 9 vM_st)]
set_option maxHeartbeats 4000000 in
set_option maxRecDepth 100000 in
theorem kX9_undo (l : Launch) (D : va_G) (cy : Nat → ClassId) (sz : Nat) (aM : Nat) (qM : Nat → Nat) (vM : Nat → Int32) (vM_undone : Nat → Int32) (vM_st : Nat → Int32) (zr : Int32) (z_vM : Nat → Int32) (z_vM_st : Nat → Int32) (hok : fX9_undo vM vM_undone vM_st = some (zr, z_vM, z_vM_st)) (A : Nat → Prop) (hAe : va_A (wX9_undo cy aM qM vM vM_undone vM_st) sz = A) : Met l yX9_undo wsX9_undo ({ frames := 1, cells := 0, slots := 0, locals := 25 } : Room) (kPre D cy [.ref aM] (wX9_undo cy aM qM vM vM_undone vM_st) sz) (kQi D cy zr A (wX9_undo cy aM qM z_vM vM_undone z_vM_st)) 0 0 A := by
  refine Met.ofW (cc := cX9_undo) (maxL := 1) (ret := (some .boolean)) (by decide) rfl ?_
  intro p e s m args below meth c s₁ B hml hv
  obtain ⟨rfl, hsz, hP, hK, hD0, hN⟩ := hv
  have hx := B.exec
  have hb := B.bytes
  have hr := B.returns
  have ht0 : ∀ w ∈ W0, w.before _ s = true := fun w h => atoms_spec (ws := wsX9_undo) B.pre w (List.mem_cons_of_mem _ h)
  have hown : s.vm.findClass RX9 = some m.cls := findClass_of_methodNamed B.named
  have hlocks := B.notSynchronized
  subst hsz
  have hD : va_D A (wX9_undo cy aM qM vM vM_undone vM_st) := by rw [← hAe]; exact hD0.self
  have hA : ∀ q : Nat, s.heap.size ≤ q → A q := fun q h => by rw [← hAe]; exact Or.inr h
  have hS : va_S A s.heap s.heap [] := va_S.rf
  have hl := lv_entry ([.ref aM]) (n := 1) (Nat.le_of_ble_eq_true rfl)
  rw [lg_entry_eq]
  generalize (lg_sl ([.ref aM]) ++ List.replicate (1 - (lg_sl ([.ref aM])).length) Slot.unset).toArray = ls at hl ⊢
  have hl : lv_has ls 1 [(0, .ref aM)] := hl
  unfold fX9_undo at hok
  obtain ⟨H, hH⟩ : ∃ H, H = s.heap := ⟨_, rfl⟩
  obtain ⟨locs, hlc⟩ : ∃ x : List Loc, x = [] := ⟨_, rfl⟩
  have hP : va_P D vwCl (wX9_undo cy aM qM vM vM_undone vM_st) H := by rw [hH]; exact hP
  have hS : va_S A s.heap H locs := by rw [hH, hlc]; exact hS
  rw [show W p l e _ s m _ below meth c s.heap [] = W p l e _ s m _ below meth c H locs from by rw [hH, hlc]]
  refine lv_aload_n hx hb dX9_undo_0 rfl (lv_at hl 0 rfl) ?_
  obtain ⟨vM_1, hc1, hok⟩ := k_bind hok
  refine kCv (wc := (wX9_good cy aM qM vM)) (wc2 := (wX9_good cy aM qM vM_1)) (wr := [(qM 18, rI cy 144 vM_undone), (qM 17, rI cy 9 vM_st)]) (ws2 := (wX9_undo cy aM qM vM_1 vM_undone vM_st)) (kRunV (As := []) (rest := []) ⟨hx, hb, hml, hown, ht0⟩ (kX9_good l D cy _ aM qM vM vM_1 hc1 _ rfl) (cwV 0 ht0 (gV wd870 wd871 wd872 wd744 wd873) rfl rfl rfl (by decide +kernel) ⟨Nat.le_of_ble_eq_true rfl, Nat.le_of_ble_eq_true rfl⟩) hK hN hP hD [0] rfl (by decide) 0 8 rfl rfl rfl hl.1 rfl (Nat.le_of_ble_eq_true rfl) dX9_undo_1 ⟨Nat.zero_le _, Nat.zero_le _⟩) hP hD hS hA [0] [1, 2] rfl rfl (by decide) (by decide) [2, 0, 1] (by decide) rfl rfl (fun H locs hP hD hS => ?_)
  refine lv_aload_n hx hb dX9_undo_4 rfl (lv_at hl 0 rfl) ?_
  refine va_get (D := D) (ci := 8) (v := .int (vM_1 20)) (C := RX9) (T := TX9) (N := 29) hx hb ht0 niX9 hown hK hP 0 rfl rfl 20 (by decide) (ht0 _ wd856) (fun _ h9 => h9) rfl dX9_undo_5 ?_
  refine lv_if_ne (tgt := 18) hx hb dX9_undo_8 (by decide) (fun c8 => ?_) (fun c8 => ?_)
  · have hok := k_neg c8 hok
    refine lv_aload_n hx hb dX9_undo_18 rfl (lv_at hl 0 rfl) ?_
    refine lv_dup hx hb dX9_undo_19 rfl ?_
    refine va_get (D := D) (ci := 8) (v := .int (vM_1 20)) (C := RX9) (T := TX9) (N := 29) hx hb ht0 niX9 hown hK hP 0 rfl rfl 20 (by decide) (ht0 _ wd856) (fun _ h9 => h9) rfl dX9_undo_20 ?_
    refine lv_iconst (v := 1) hx hb dX9_undo_23 (by decide) ?_
    refine lv_isub hx hb dX9_undo_24 ?_
    refine va_put (D := D) (ci := 8) (v := .int ((vM_1 20) - (1 : Int32))) (ty := .int) (C := RX9) (T := TX9) (N := 29) hx hb ht0 niX9 tyX9 tyX9_ok nmX9 hown hK hP hD hS 0 rfl rfl 20 (by decide) (ht0 _ wd856) (fun _ h9 => h9) rfl (by decide +kernel) rfl rfl (Nat.le_of_ble_eq_true rfl) dX9_undo_25 (fun H locs hP hD hS => ?_)
    have hP : va_P D vwCl (wX9_undo cy aM qM (upd vM_1 20 ((vM_1 20) - (1 : Int32))) vM_undone vM_st) H := hP
    have hD : va_D A (wX9_undo cy aM qM (upd vM_1 20 ((vM_1 20) - (1 : Int32))) vM_undone vM_st) := hD
    refine lv_aload_n hx hb dX9_undo_28 rfl (lv_at hl 0 rfl) ?_
    refine va_get (D := D) (ci := 8) (v := .ref (qM 18)) (C := RX9) (T := TX9) (N := 29) hx hb ht0 niX9 hown hK hP 0 rfl rfl 18 (by decide) (ht0 _ wd1019) (fun _ h9 => h9) rfl dX9_undo_29 ?_
    refine lv_bipush (v := 9) hx hb dX9_undo_32 (by decide) ?_
    refine lv_aload_n hx hb dX9_undo_34 rfl (lv_at hl 0 rfl) ?_
    refine va_get (D := D) (ci := 8) (v := .int ((vM_1 20) - (1 : Int32))) (C := RX9) (T := TX9) (N := 29) hx hb ht0 niX9 hown hK hP 0 rfl rfl 20 (by decide) (ht0 _ wd856) (fun _ h9 => h9) rfl dX9_undo_35 ?_
    refine lv_imul hx hb dX9_undo_38 ?_
    refine lv_aload_n hx hb dX9_undo_39 rfl (lv_at hl 0 rfl) ?_
    refine va_get (D := D) (ci := 8) (v := .ref (qM 17)) (C := RX9) (T := TX9) (N := 29) hx hb ht0 niX9 hown hK hP 0 rfl rfl 17 (by decide) (ht0 _ wd858) (fun _ h9 => h9) rfl dX9_undo_40 ?_
    refine lv_iconst (v := 0) hx hb dX9_undo_43 (by decide) ?_
    refine lv_bipush (v := 9) hx hb dX9_undo_44 (by decide) ?_
    obtain ⟨p2_46, hc46, hok⟩ := k_bind hok
    refine kCv (wc := (wX9_copy cy (qM 18) (qM 17) 144 vM_undone 9 vM_st)) (wc2 := (wX9_copy cy (qM 18) (qM 17) 144 vM_undone 9 p2_46)) (wr := [(aM, oX9 (upd vM_1 20 ((vM_1 20) - (1 : Int32))) qM)]) (ws2 := (wX9_undo cy aM qM (upd vM_1 20 ((vM_1 20) - (1 : Int32))) vM_undone p2_46)) (kRunS (As := [.ref (qM 18), .int ((9 : Int32) * ((vM_1 20) - (1 : Int32))), .ref (qM 17), .int 0, .int 9]) (rest := []) ⟨hx, hb, hml, hown, ht0⟩ (kX9_copy l D cy _ (qM 18) (qM 17) 144 vM_undone 9 vM_st ((9 : Int32) * ((vM_1 20) - (1 : Int32))) (0 : Int32) (9 : Int32) p2_46 hc46 _ rfl) (va_cwS 5 ht0 (gS wd859 wd860 wd744 wd861) rfl rfl rfl (by decide +kernel) ⟨Nat.le_of_ble_eq_true rfl, Nat.le_of_ble_eq_true rfl⟩) hK hN hP hD [1, 2] rfl (by decide) rfl hl.1 rfl (Nat.le_of_ble_eq_true rfl) dX9_undo_46 ⟨Nat.zero_le _, Nat.zero_le _⟩) hP hD hS hA [1, 2] [0] rfl rfl (by decide) (by decide) [0, 1, 2] (by decide) rfl rfl (fun H locs hP hD hS => ?_)
    refine lv_iconst (v := 1) hx hb dX9_undo_49 (by decide) ?_
    cases hok
    exact W.zret hx hb hr rfl (fun t ht hW => ⟨⟨_, (), rfl, rfl, by rw [ht]; exact hP, va_K.moved hW.alike hK, hD⟩, hS.F ht⟩) hS.2.2 dX9_undo_50
  · have hok := k_pos c8 hok
    refine lv_aload_n hx hb dX9_undo_11 rfl (lv_at hl 0 rfl) ?_
    refine lv_bipush (v := 6) hx hb dX9_undo_12 (by decide) ?_
    obtain ⟨⟨r14, vM_14⟩, hc14, hok⟩ := k_bind hok
    try dsimp only at hok
    refine kCi (wc := (wX9_isNot cy aM qM vM_1)) (wc2 := (wX9_isNot cy aM qM vM_14)) (wr := [(qM 18, rI cy 144 vM_undone), (qM 17, rI cy 9 vM_st)]) (ws2 := (wX9_undo cy aM qM vM_14 vM_undone vM_st)) (kRunV (As := [.int 6]) (rest := []) ⟨hx, hb, hml, hown, ht0⟩ (kX9_isNot l D cy _ aM qM vM_1 (6 : Int32) r14 vM_14 hc14 _ rfl) (cwV 1 ht0 (gV wd1024 wd1025 wd1026 wd744 wd1027) rfl rfl rfl (by decide +kernel) ⟨Nat.le_of_ble_eq_true rfl, Nat.le_of_ble_eq_true rfl⟩) hK hN hP hD [0] rfl (by decide) 0 8 rfl rfl rfl hl.1 rfl (Nat.le_of_ble_eq_true rfl) dX9_undo_14 ⟨Nat.zero_le _, Nat.zero_le _⟩) hP hD hS hA [0] [1, 2] rfl rfl (by decide) (by decide) [2, 0, 1] (by decide) rfl rfl (fun H locs hP hD hS => ?_)
    obtain ⟨g17, hok⟩ := gd_some hok
    cases hok
    exact W.zret hx hb hr (isB_nar g17) (fun t ht hW => ⟨⟨_, (), rfl, rfl, by rw [ht]; exact hP, va_K.moved hW.alike hK, hD⟩, hS.F ht⟩) hS.2.2 dX9_undo_17
def wsX9_image : List Cond := .code yX9_image cX9_image 1 (some .int) :: W0
abbrev wX9_image (cy : Nat → ClassId) (aM : Nat) (qM : Nat → Nat) (vM : Nat → Int32) (vM_st : Nat → Int32) (vM_kept : Nat → Int32) : va_W := [(aM, oX9 vM qM), (qM 17, rI cy 9 vM_st), (qM 19, rI cy 27 vM_kept)]
set_option maxHeartbeats 4000000 in
set_option maxRecDepth 100000 in
theorem kX9_image (l : Launch) (D : va_G) (cy : Nat → ClassId) (sz : Nat) (aM : Nat) (qM : Nat → Nat) (vM : Nat → Int32) (vM_st : Nat → Int32) (vM_kept : Nat → Int32) (zr : Int32) (z_vM : Nat → Int32) (z_vM_kept : Nat → Int32) (hok : fX9_image vM vM_st vM_kept = some (zr, z_vM, z_vM_kept)) (A : Nat → Prop) (hAe : va_A (wX9_image cy aM qM vM vM_st vM_kept) sz = A) : Met l yX9_image wsX9_image ({ frames := 1, cells := 0, slots := 0, locals := 25 } : Room) (kPre D cy [.ref aM] (wX9_image cy aM qM vM vM_st vM_kept) sz) (kQi D cy zr A (wX9_image cy aM qM z_vM vM_st z_vM_kept)) 0 0 A := by
  refine Met.ofW (cc := cX9_image) (maxL := 1) (ret := (some .int)) (by decide) rfl ?_
  intro p e s m args below meth c s₁ B hml hv
  obtain ⟨rfl, hsz, hP, hK, hD0, hN⟩ := hv
  have hx := B.exec
  have hb := B.bytes
  have hr := B.returns
  have ht0 : ∀ w ∈ W0, w.before _ s = true := fun w h => atoms_spec (ws := wsX9_image) B.pre w (List.mem_cons_of_mem _ h)
  have hown : s.vm.findClass RX9 = some m.cls := findClass_of_methodNamed B.named
  have hlocks := B.notSynchronized
  subst hsz
  have hD : va_D A (wX9_image cy aM qM vM vM_st vM_kept) := by rw [← hAe]; exact hD0.self
  have hA : ∀ q : Nat, s.heap.size ≤ q → A q := fun q h => by rw [← hAe]; exact Or.inr h
  have hS : va_S A s.heap s.heap [] := va_S.rf
  have hl := lv_entry ([.ref aM]) (n := 1) (Nat.le_of_ble_eq_true rfl)
  rw [lg_entry_eq]
  generalize (lg_sl ([.ref aM]) ++ List.replicate (1 - (lg_sl ([.ref aM])).length) Slot.unset).toArray = ls at hl ⊢
  have hl : lv_has ls 1 [(0, .ref aM)] := hl
  unfold fX9_image at hok
  obtain ⟨H, hH⟩ : ∃ H, H = s.heap := ⟨_, rfl⟩
  obtain ⟨locs, hlc⟩ : ∃ x : List Loc, x = [] := ⟨_, rfl⟩
  have hP : va_P D vwCl (wX9_image cy aM qM vM vM_st vM_kept) H := by rw [hH]; exact hP
  have hS : va_S A s.heap H locs := by rw [hH, hlc]; exact hS
  rw [show W p l e _ s m _ below meth c s.heap [] = W p l e _ s m _ below meth c H locs from by rw [hH, hlc]]
  refine lv_aload_n hx hb dX9_image_0 rfl (lv_at hl 0 rfl) ?_
  obtain ⟨vM_1, hc1, hok⟩ := k_bind hok
  refine kCv (wc := (wX9_good cy aM qM vM)) (wc2 := (wX9_good cy aM qM vM_1)) (wr := [(qM 17, rI cy 9 vM_st), (qM 19, rI cy 27 vM_kept)]) (ws2 := (wX9_image cy aM qM vM_1 vM_st vM_kept)) (kRunV (As := []) (rest := []) ⟨hx, hb, hml, hown, ht0⟩ (kX9_good l D cy _ aM qM vM vM_1 hc1 _ rfl) (cwV 0 ht0 (gV wd870 wd871 wd872 wd744 wd873) rfl rfl rfl (by decide +kernel) ⟨Nat.le_of_ble_eq_true rfl, Nat.le_of_ble_eq_true rfl⟩) hK hN hP hD [0] rfl (by decide) 0 8 rfl rfl rfl hl.1 rfl (Nat.le_of_ble_eq_true rfl) dX9_image_1 ⟨Nat.zero_le _, Nat.zero_le _⟩) hP hD hS hA [0] [1, 2] rfl rfl (by decide) (by decide) [2, 0, 1] (by decide) rfl rfl (fun H locs hP hD hS => ?_)
  refine lv_aload_n hx hb dX9_image_4 rfl (lv_at hl 0 rfl) ?_
  refine va_get (D := D) (ci := 8) (v := .int (vM_1 14)) (C := RX9) (T := TX9) (N := 29) hx hb ht0 niX9 hown hK hP 0 rfl rfl 14 (by decide) (ht0 _ wd855) (fun _ h9 => h9) rfl dX9_image_5 ?_
  refine lv_if_ne (tgt := 17) hx hb dX9_image_8 (by decide) (fun c8 => ?_) (fun c8 => ?_)
  · have hok := k_neg c8 hok
    refine lv_aload_n hx hb dX9_image_17 rfl (lv_at hl 0 rfl) ?_
    refine va_get (D := D) (ci := 8) (v := .int (vM_1 21)) (C := RX9) (T := TX9) (N := 29) hx hb ht0 niX9 hown hK hP 0 rfl rfl 21 (by decide) (ht0 _ wd857) (fun _ h9 => h9) rfl dX9_image_18 ?_
    refine lv_iconst (v := 3) hx hb dX9_image_21 (by decide) ?_
    refine lv_icmp_ne (tgt := 31) hx hb dX9_image_22 (by decide) (fun c22 => ?_) (fun c22 => ?_)
    · have hok := k_neg c22 hok
      refine lv_aload_n hx hb dX9_image_31 rfl (lv_at hl 0 rfl) ?_
      refine va_get (D := D) (ci := 8) (v := .ref (qM 17)) (C := RX9) (T := TX9) (N := 29) hx hb ht0 niX9 hown hK hP 0 rfl rfl 17 (by decide) (ht0 _ wd858) (fun _ h9 => h9) rfl dX9_image_32 ?_
      refine lv_iconst (v := 0) hx hb dX9_image_35 (by decide) ?_
      refine lv_aload_n hx hb dX9_image_36 rfl (lv_at hl 0 rfl) ?_
      refine va_get (D := D) (ci := 8) (v := .ref (qM 19)) (C := RX9) (T := TX9) (N := 29) hx hb ht0 niX9 hown hK hP 0 rfl rfl 19 (by decide) (ht0 _ wd1032) (fun _ h9 => h9) rfl dX9_image_37 ?_
      refine lv_bipush (v := 9) hx hb dX9_image_40 (by decide) ?_
      refine lv_aload_n hx hb dX9_image_42 rfl (lv_at hl 0 rfl) ?_
      refine va_get (D := D) (ci := 8) (v := .int (vM_1 21)) (C := RX9) (T := TX9) (N := 29) hx hb ht0 niX9 hown hK hP 0 rfl rfl 21 (by decide) (ht0 _ wd857) (fun _ h9 => h9) rfl dX9_image_43 ?_
      refine lv_imul hx hb dX9_image_46 ?_
      refine lv_bipush (v := 9) hx hb dX9_image_47 (by decide) ?_
      obtain ⟨p2_49, hc49, hok⟩ := k_bind hok
      refine kCv (wc := (wX9_copy cy (qM 17) (qM 19) 9 vM_st 27 vM_kept)) (wc2 := (wX9_copy cy (qM 17) (qM 19) 9 vM_st 27 p2_49)) (wr := [(aM, oX9 vM_1 qM)]) (ws2 := (wX9_image cy aM qM vM_1 vM_st p2_49)) (kRunS (As := [.ref (qM 17), .int 0, .ref (qM 19), .int ((9 : Int32) * (vM_1 21)), .int 9]) (rest := []) ⟨hx, hb, hml, hown, ht0⟩ (kX9_copy l D cy _ (qM 17) (qM 19) 9 vM_st 27 vM_kept (0 : Int32) ((9 : Int32) * (vM_1 21)) (9 : Int32) p2_49 hc49 _ rfl) (va_cwS 5 ht0 (gS wd859 wd860 wd744 wd861) rfl rfl rfl (by decide +kernel) ⟨Nat.le_of_ble_eq_true rfl, Nat.le_of_ble_eq_true rfl⟩) hK hN hP hD [1, 2] rfl (by decide) rfl hl.1 rfl (Nat.le_of_ble_eq_true rfl) dX9_image_49 ⟨Nat.zero_le _, Nat.zero_le _⟩) hP hD hS hA [1, 2] [0] rfl rfl (by decide) (by decide) [0, 1, 2] (by decide) rfl rfl (fun H locs hP hD hS => ?_)
      refine lv_aload_n hx hb dX9_image_52 rfl (lv_at hl 0 rfl) ?_
      refine lv_dup hx hb dX9_image_53 rfl ?_
      refine va_get (D := D) (ci := 8) (v := .int (vM_1 21)) (C := RX9) (T := TX9) (N := 29) hx hb ht0 niX9 hown hK hP 0 rfl rfl 21 (by decide) (ht0 _ wd857) (fun _ h9 => h9) rfl dX9_image_54 ?_
      refine lv_iconst (v := 1) hx hb dX9_image_57 (by decide) ?_
      refine lv_iadd hx hb dX9_image_58 ?_
      refine va_put (D := D) (ci := 8) (v := .int ((vM_1 21) + (1 : Int32))) (ty := .int) (C := RX9) (T := TX9) (N := 29) hx hb ht0 niX9 tyX9 tyX9_ok nmX9 hown hK hP hD hS 0 rfl rfl 21 (by decide) (ht0 _ wd857) (fun _ h9 => h9) rfl (by decide +kernel) rfl rfl (Nat.le_of_ble_eq_true rfl) dX9_image_59 (fun H locs hP hD hS => ?_)
      have hP : va_P D vwCl (wX9_image cy aM qM (upd vM_1 21 ((vM_1 21) + (1 : Int32))) vM_st p2_49) H := hP
      have hD : va_D A (wX9_image cy aM qM (upd vM_1 21 ((vM_1 21) + (1 : Int32))) vM_st p2_49) := hD
      refine lv_aload_n hx hb dX9_image_62 rfl (lv_at hl 0 rfl) ?_
      refine va_get (D := D) (ci := 8) (v := .int ((vM_1 21) + (1 : Int32))) (C := RX9) (T := TX9) (N := 29) hx hb ht0 niX9 hown hK hP 0 rfl rfl 21 (by decide) (ht0 _ wd857) (fun _ h9 => h9) rfl dX9_image_63 ?_
      refine lv_iconst (v := 1) hx hb dX9_image_66 (by decide) ?_
      refine lv_isub hx hb dX9_image_67 ?_
      cases hok
      exact W.iret hx hb hr (fun t ht hW => ⟨⟨_, (), rfl, rfl, by rw [ht]; exact hP, va_K.moved hW.alike hK, hD⟩, hS.F ht⟩) hS.2.2 dX9_image_68
    · have hok := k_pos c22 hok
      refine lv_aload_n hx hb dX9_image_25 rfl (lv_at hl 0 rfl) ?_
      refine lv_iconst (v := 3) hx hb dX9_image_26 (by decide) ?_
      obtain ⟨⟨r27, vM_27⟩, hc27, hok⟩ := k_bind hok
      try dsimp only at hok
      refine kCi (wc := (wX9_no cy aM qM vM_1)) (wc2 := (wX9_no cy aM qM vM_27)) (wr := [(qM 17, rI cy 9 vM_st), (qM 19, rI cy 27 vM_kept)]) (ws2 := (wX9_image cy aM qM vM_27 vM_st vM_kept)) (kRunV (As := [.int 3]) (rest := []) ⟨hx, hb, hml, hown, ht0⟩ (kX9_no l D cy _ aM qM vM_1 (3 : Int32) r27 vM_27 hc27 _ rfl) (cwV 1 ht0 (gV wd862 wd863 wd864 wd744 wd865) rfl rfl rfl (by decide +kernel) ⟨Nat.le_of_ble_eq_true rfl, Nat.le_of_ble_eq_true rfl⟩) hK hN hP hD [0] rfl (by decide) 0 8 rfl rfl rfl hl.1 rfl (Nat.le_of_ble_eq_true rfl) dX9_image_27 ⟨Nat.zero_le _, Nat.zero_le _⟩) hP hD hS hA [0] [1, 2] rfl rfl (by decide) (by decide) [2, 0, 1] (by decide) rfl rfl (fun H locs hP hD hS => ?_)
      cases hok
      exact W.iret hx hb hr (fun t ht hW => ⟨⟨_, (), rfl, rfl, by rw [ht]; exact hP, va_K.moved hW.alike hK, hD⟩, hS.F ht⟩) hS.2.2 dX9_image_30
  · have hok := k_pos c8 hok
    refine lv_aload_n hx hb dX9_image_11 rfl (lv_at hl 0 rfl) ?_
    refine lv_iconst (v := 1) hx hb dX9_image_12 (by decide) ?_
    obtain ⟨⟨r13, vM_13⟩, hc13, hok⟩ := k_bind hok
    try dsimp only at hok
    refine kCi (wc := (wX9_no cy aM qM vM_1)) (wc2 := (wX9_no cy aM qM vM_13)) (wr := [(qM 17, rI cy 9 vM_st), (qM 19, rI cy 27 vM_kept)]) (ws2 := (wX9_image cy aM qM vM_13 vM_st vM_kept)) (kRunV (As := [.int 1]) (rest := []) ⟨hx, hb, hml, hown, ht0⟩ (kX9_no l D cy _ aM qM vM_1 (1 : Int32) r13 vM_13 hc13 _ rfl) (cwV 1 ht0 (gV wd862 wd863 wd864 wd744 wd865) rfl rfl rfl (by decide +kernel) ⟨Nat.le_of_ble_eq_true rfl, Nat.le_of_ble_eq_true rfl⟩) hK hN hP hD [0] rfl (by decide) 0 8 rfl rfl rfl hl.1 rfl (Nat.le_of_ble_eq_true rfl) dX9_image_13 ⟨Nat.zero_le _, Nat.zero_le _⟩) hP hD hS hA [0] [1, 2] rfl rfl (by decide) (by decide) [2, 0, 1] (by decide) rfl rfl (fun H locs hP hD hS => ?_)
    cases hok
    exact W.iret hx hb hr (fun t ht hW => ⟨⟨_, (), rfl, rfl, by rw [ht]; exact hP, va_K.moved hW.alike hK, hD⟩, hS.F ht⟩) hS.2.2 dX9_image_16
