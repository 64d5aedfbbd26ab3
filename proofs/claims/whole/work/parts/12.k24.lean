def wsX9_back : List Cond := .code yX9_back cX9_back 2 (some .boolean) :: W0
abbrev wX9_back (cy : Nat → ClassId) (aM : Nat) (qM : Nat → Nat) (vM : Nat → Int32) (vM_kept : Nat → Int32) (vM_st : Nat → Int32) : va_W := [(aM, oX9 vM qM), (qM 19, rI cy 27 vM_kept), (qM 17, rI cy 9 vM_st)]
set_option maxHeartbeats 4000000 in
set_option maxRecDepth 100000 in
theorem kX9_back (l : Launch) (D : va_G) (cy : Nat → ClassId) (sz : Nat) (aM : Nat) (qM : Nat → Nat) (vM : Nat → Int32) (vM_kept : Nat → Int32) (vM_st : Nat → Int32) (x1 : Int32) (zr : Int32) (z_vM : Nat → Int32) (z_vM_st : Nat → Int32) (hok : fX9_back vM vM_kept vM_st x1 = some (zr, z_vM, z_vM_st)) (A : Nat → Prop) (hAe : va_A (wX9_back cy aM qM vM vM_kept vM_st) sz = A) : Met l yX9_back wsX9_back ({ frames := 1, cells := 0, slots := 0, locals := 25 } : Room) (kPre D cy [.ref aM, .int x1] (wX9_back cy aM qM vM vM_kept vM_st) sz) (kQi D cy zr A (wX9_back cy aM qM z_vM vM_kept z_vM_st)) 0 0 A := by
  refine Met.ofW (cc := cX9_back) (maxL := 2) (ret := (some .boolean)) (by decide) rfl ?_
  intro p e s m args below meth c s₁ B hml hv
  obtain ⟨rfl, hsz, hP, hK, hD0, hN⟩ := hv
  have hx := B.exec
  have hb := B.bytes
  have hr := B.returns
  have ht0 : ∀ w ∈ W0, w.before _ s = true := fun w h => atoms_spec (ws := wsX9_back) B.pre w (List.mem_cons_of_mem _ h)
  have hown : s.vm.findClass RX9 = some m.cls := findClass_of_methodNamed B.named
  have hlocks := B.notSynchronized
  subst hsz
  have hD : va_D A (wX9_back cy aM qM vM vM_kept vM_st) := by rw [← hAe]; exact hD0.self
  have hA : ∀ q : Nat, s.heap.size ≤ q → A q := fun q h => by rw [← hAe]; exact Or.inr h
  have hS : va_S A s.heap s.heap [] := va_S.rf
  have hl := lv_entry ([.ref aM, .int x1]) (n := 2) (Nat.le_of_ble_eq_true rfl)
  rw [lg_entry_eq]
  generalize (lg_sl ([.ref aM, .int x1]) ++ List.replicate (2 - (lg_sl ([.ref aM, .int x1])).length) Slot.unset).toArray = ls at hl ⊢
  have hl : lv_has ls 2 [(0, .ref aM), (1, .int x1)] := hl
  unfold fX9_back at hok
  obtain ⟨H, hH⟩ : ∃ H, H = s.heap := ⟨_, rfl⟩
  obtain ⟨locs, hlc⟩ : ∃ x : List Loc, x = [] := ⟨_, rfl⟩
  have hP : va_P D vwCl (wX9_back cy aM qM vM vM_kept vM_st) H := by rw [hH]; exact hP
  have hS : va_S A s.heap H locs := by rw [hH, hlc]; exact hS
  rw [show W p l e _ s m _ below meth c s.heap [] = W p l e _ s m _ below meth c H locs from by rw [hH, hlc]]
  refine lv_aload_n hx hb dX9_back_0 rfl (lv_at hl 0 rfl) ?_
  obtain ⟨vM_1, hc1, hok⟩ := k_bind hok
  refine kCv (wc := (wX9_good cy aM qM vM)) (wc2 := (wX9_good cy aM qM vM_1)) (wr := [(qM 19, rI cy 27 vM_kept), (qM 17, rI cy 9 vM_st)]) (ws2 := (wX9_back cy aM qM vM_1 vM_kept vM_st)) (kRunV (As := []) (rest := []) ⟨hx, hb, hml, hown, ht0⟩ (kX9_good l D cy _ aM qM vM vM_1 hc1 _ rfl) (cwV 0 ht0 (gV wd870 wd871 wd872 wd744 wd873) rfl rfl rfl (by decide +kernel) ⟨Nat.le_of_ble_eq_true rfl, Nat.le_of_ble_eq_true rfl⟩) hK hN hP hD [0] rfl (by decide) 0 8 rfl rfl rfl hl.1 rfl (Nat.le_of_ble_eq_true rfl) dX9_back_1 ⟨Nat.zero_le _, Nat.zero_le _⟩) hP hD hS hA [0] [1, 2] rfl rfl (by decide) (by decide) [2, 0, 1] (by decide) rfl rfl (fun H locs hP hD hS => ?_)
  refine lv_iload_n hx hb dX9_back_4 rfl (lv_at hl 1 rfl) ?_
  refine lv_iconst (v := 0) hx hb dX9_back_5 (by decide) ?_
  refine lv_aload_n hx hb dX9_back_6 rfl (lv_at hl 0 rfl) ?_
  refine va_get (D := D) (ci := 8) (v := .int (vM_1 21)) (C := RX9) (T := TX9) (N := 29) hx hb ht0 niX9 hown hK hP 0 rfl rfl 21 (by decide) (ht0 _ wd857) (fun _ h9 => h9) rfl dX9_back_7 ?_
  refine lv_iconst (v := 1) hx hb dX9_back_10 (by decide) ?_
  refine lv_isub hx hb dX9_back_11 ?_
  obtain ⟨r12, hc12, hok⟩ := k_bind hok
  refine kCi (wc := (wX9_in cy )) (wc2 := (wX9_in cy )) (wr := [(aM, oX9 vM_1 qM), (qM 19, rI cy 27 vM_kept), (qM 17, rI cy 9 vM_st)]) (ws2 := (wX9_back cy aM qM vM_1 vM_kept vM_st)) (kRunS (As := [.int x1, .int 0, .int ((vM_1 21) - (1 : Int32))]) (rest := []) ⟨hx, hb, hml, hown, ht0⟩ (kX9_in l D cy _ x1 (0 : Int32) ((vM_1 21) - (1 : Int32)) r12 hc12 _ rfl) (va_cwS 3 ht0 (gS wd787 wd788 wd744 wd789) rfl rfl rfl (by decide +kernel) ⟨Nat.le_of_ble_eq_true rfl, Nat.le_of_ble_eq_true rfl⟩) hK hN hP hD [] rfl (by decide) rfl hl.1 rfl (Nat.le_of_ble_eq_true rfl) dX9_back_12 ⟨Nat.zero_le _, Nat.zero_le _⟩) hP hD hS hA [] [0, 1, 2] rfl rfl (by decide) (by decide) [0, 1, 2] (by decide) rfl rfl (fun H locs hP hD hS => ?_)
  refine lv_if_ne (tgt := 24) hx hb dX9_back_15 (by decide) (fun c15 => ?_) (fun c15 => ?_)
  · have hok := k_neg c15 hok
    refine lv_aload_n hx hb dX9_back_24 rfl (lv_at hl 0 rfl) ?_
    refine va_get (D := D) (ci := 8) (v := .ref (qM 19)) (C := RX9) (T := TX9) (N := 29) hx hb ht0 niX9 hown hK hP 0 rfl rfl 19 (by decide) (ht0 _ wd1032) (fun _ h9 => h9) rfl dX9_back_25 ?_
    refine lv_bipush (v := 9) hx hb dX9_back_28 (by decide) ?_
    refine lv_iload_n hx hb dX9_back_30 rfl (lv_at hl 1 rfl) ?_
    refine lv_imul hx hb dX9_back_31 ?_
    refine lv_aload_n hx hb dX9_back_32 rfl (lv_at hl 0 rfl) ?_
    refine va_get (D := D) (ci := 8) (v := .ref (qM 17)) (C := RX9) (T := TX9) (N := 29) hx hb ht0 niX9 hown hK hP 0 rfl rfl 17 (by decide) (ht0 _ wd858) (fun _ h9 => h9) rfl dX9_back_33 ?_
    refine lv_iconst (v := 0) hx hb dX9_back_36 (by decide) ?_
    refine lv_bipush (v := 9) hx hb dX9_back_37 (by decide) ?_
    obtain ⟨p2_39, hc39, hok⟩ := k_bind hok
    refine kCv (wc := (wX9_copy cy (qM 19) (qM 17) 27 vM_kept 9 vM_st)) (wc2 := (wX9_copy cy (qM 19) (qM 17) 27 vM_kept 9 p2_39)) (wr := [(aM, oX9 vM_1 qM)]) (ws2 := (wX9_back cy aM qM vM_1 vM_kept p2_39)) (kRunS (As := [.ref (qM 19), .int ((9 : Int32) * x1), .ref (qM 17), .int 0, .int 9]) (rest := []) ⟨hx, hb, hml, hown, ht0⟩ (kX9_copy l D cy _ (qM 19) (qM 17) 27 vM_kept 9 vM_st ((9 : Int32) * x1) (0 : Int32) (9 : Int32) p2_39 hc39 _ rfl) (va_cwS 5 ht0 (gS wd859 wd860 wd744 wd861) rfl rfl rfl (by decide +kernel) ⟨Nat.le_of_ble_eq_true rfl, Nat.le_of_ble_eq_true rfl⟩) hK hN hP hD [1, 2] rfl (by decide) rfl hl.1 rfl (Nat.le_of_ble_eq_true rfl) dX9_back_39 ⟨Nat.zero_le _, Nat.zero_le _⟩) hP hD hS hA [1, 2] [0] rfl rfl (by decide) (by decide) [0, 1, 2] (by decide) rfl rfl (fun H locs hP hD hS => ?_)
    refine lv_aload_n hx hb dX9_back_42 rfl (lv_at hl 0 rfl) ?_
    refine lv_iconst (v := 0) hx hb dX9_back_43 (by decide) ?_
    refine va_put (D := D) (ci := 8) (v := .int 0) (ty := .int) (C := RX9) (T := TX9) (N := 29) hx hb ht0 niX9 tyX9 tyX9_ok nmX9 hown hK hP hD hS 0 rfl rfl 20 (by decide) (ht0 _ wd856) (fun _ h9 => h9) rfl (by decide +kernel) rfl rfl (Nat.le_of_ble_eq_true rfl) dX9_back_44 (fun H locs hP hD hS => ?_)
    have hP : va_P D vwCl (wX9_back cy aM qM (upd vM_1 20 (0 : Int32)) vM_kept p2_39) H := hP
    have hD : va_D A (wX9_back cy aM qM (upd vM_1 20 (0 : Int32)) vM_kept p2_39) := hD
    refine lv_iconst (v := 1) hx hb dX9_back_47 (by decide) ?_
    cases hok
    exact W.zret hx hb hr rfl (fun t ht hW => ⟨⟨_, (), rfl, rfl, by rw [ht]; exact hP, va_K.moved hW.alike hK, hD⟩, hS.F ht⟩) hS.2.2 dX9_back_48
  · have hok := k_pos c15 hok
    refine lv_aload_n hx hb dX9_back_18 rfl (lv_at hl 0 rfl) ?_
    refine lv_iconst (v := 1) hx hb dX9_back_19 (by decide) ?_
    obtain ⟨⟨r20, vM_20⟩, hc20, hok⟩ := k_bind hok
    try dsimp only at hok
    refine kCi (wc := (wX9_isNot cy aM qM vM_1)) (wc2 := (wX9_isNot cy aM qM vM_20)) (wr := [(qM 19, rI cy 27 vM_kept), (qM 17, rI cy 9 vM_st)]) (ws2 := (wX9_back cy aM qM vM_20 vM_kept vM_st)) (kRunV (As := [.int 1]) (rest := []) ⟨hx, hb, hml, hown, ht0⟩ (kX9_isNot l D cy _ aM qM vM_1 (1 : Int32) r20 vM_20 hc20 _ rfl) (cwV 1 ht0 (gV wd1024 wd1025 wd1026 wd744 wd1027) rfl rfl rfl (by decide +kernel) ⟨Nat.le_of_ble_eq_true rfl, Nat.le_of_ble_eq_true rfl⟩) hK hN hP hD [0] rfl (by decide) 0 8 rfl rfl rfl hl.1 rfl (Nat.le_of_ble_eq_true rfl) dX9_back_20 ⟨Nat.zero_le _, Nat.zero_le _⟩) hP hD hS hA [0] [1, 2] rfl rfl (by decide) (by decide) [2, 0, 1] (by decide) rfl rfl (fun H locs hP hD hS => ?_)
    obtain ⟨g23, hok⟩ := gd_some hok
    cases hok
    exact W.zret hx hb hr (isB_nar g23) (fun t ht hW => ⟨⟨_, (), rfl, rfl, by rw [ht]; exact hP, va_K.moved hW.alike hK, hD⟩, hS.F ht⟩) hS.2.2 dX9_back_23
def wsX9_led : List Cond := .code yX9_led cX9_led 4 (some .int) :: W0
abbrev wX9_led (cy : Nat → ClassId) (aM : Nat) (qM : Nat → Nat) (vM : Nat → Int32) (vM_r : Nat → Int32) (vM_st : Nat → Int32) : va_W := [(aM, oX9 vM qM), (qM 15, rI cy 224 vM_r), (qM 17, rI cy 9 vM_st)]
set_option maxHeartbeats 4000000 in
set_option maxRecDepth 100000 in
theorem kX9_led (l : Launch) (D : va_G) (cy : Nat → ClassId) (sz : Nat) (aM : Nat) (qM : Nat → Nat) (vM : Nat → Int32) (vM_r : Nat → Int32) (vM_st : Nat → Int32) (x1 : Int32) (zr : Int32) (z_vM : Nat → Int32) (hok : fX9_led vM vM_r vM_st x1 = some (zr, z_vM)) (A : Nat → Prop) (hAe : va_A (wX9_led cy aM qM vM vM_r vM_st) sz = A) : Met l yX9_led wsX9_led ({ frames := 1, cells := 0, slots := 0, locals := 21 } : Room) (kPre D cy [.ref aM, .int x1] (wX9_led cy aM qM vM vM_r vM_st) sz) (kQi D cy zr A (wX9_led cy aM qM z_vM vM_r vM_st)) 0 0 A := by
  refine Met.ofW (cc := cX9_led) (maxL := 4) (ret := (some .int)) (by decide) rfl ?_
  intro p e s m args below meth c s₁ B hml hv
  obtain ⟨rfl, hsz, hP, hK, hD0, hN⟩ := hv
  have hx := B.exec
  have hb := B.bytes
  have hr := B.returns
  have ht0 : ∀ w ∈ W0, w.before _ s = true := fun w h => atoms_spec (ws := wsX9_led) B.pre w (List.mem_cons_of_mem _ h)
  have hown : s.vm.findClass RX9 = some m.cls := findClass_of_methodNamed B.named
  have hlocks := B.notSynchronized
  subst hsz
  have hD : va_D A (wX9_led cy aM qM vM vM_r vM_st) := by rw [← hAe]; exact hD0.self
  have hA : ∀ q : Nat, s.heap.size ≤ q → A q := fun q h => by rw [← hAe]; exact Or.inr h
  have hS : va_S A s.heap s.heap [] := va_S.rf
  have hl := lv_entry ([.ref aM, .int x1]) (n := 4) (Nat.le_of_ble_eq_true rfl)
  rw [lg_entry_eq]
  generalize (lg_sl ([.ref aM, .int x1]) ++ List.replicate (4 - (lg_sl ([.ref aM, .int x1])).length) Slot.unset).toArray = ls at hl ⊢
  have hl : lv_has ls 4 [(0, .ref aM), (1, .int x1)] := hl
  generalize hQe : MQ below (kQi D cy zr A (wX9_led cy aM qM z_vM vM_r vM_st)) ([.ref aM, .int x1] : List Value).toArray s 0 0 A = Q
  have J59 : ∀ (H : Heap) (locs : List Loc) (ls : Array Slot), va_P D vwCl (wX9_led cy aM qM vM vM_r vM_st) H → va_D A (wX9_led cy aM qM vM vM_r vM_st) → va_S A s.heap H locs → lv_has ls 4 [(0, .ref aM)] → fX9_led_J59 vM = some (zr, z_vM) → W p l e ({ frames := 1, cells := 0, slots := 0, locals := 21 } : Room) s m ([.ref aM, .int x1] : List Value).toArray below meth c H locs 0 0 Q (F0 m 59 ls []) := by
    intro  H locs ls hP hD hS hl hok
    unfold fX9_led_J59 at hok
    refine lv_aload_n hx hb dX9_led_59 rfl (lv_at hl 0 rfl) ?_
    refine lv_iconst (v := 1) hx hb dX9_led_60 (by decide) ?_
    refine va_put (D := D) (ci := 8) (v := .int 1) (ty := .int) (C := RX9) (T := TX9) (N := 29) hx hb ht0 niX9 tyX9 tyX9_ok nmX9 hown hK hP hD hS 0 rfl rfl 0 (by decide) (ht0 _ wd735) (fun _ h9 => h9) rfl (by decide +kernel) rfl rfl (Nat.le_of_ble_eq_true rfl) dX9_led_61 (fun H locs hP hD hS => ?_)
    have hP : va_P D vwCl (wX9_led cy aM qM (upd vM 0 (1 : Int32)) vM_r vM_st) H := hP
    have hD : va_D A (wX9_led cy aM qM (upd vM 0 (1 : Int32)) vM_r vM_st) := hD
    refine lv_iconst (v := 0) hx hb dX9_led_64 (by decide) ?_
    cases hok
    subst hQe; exact W.iret hx hb hr (fun t ht hW => ⟨⟨_, (), rfl, rfl, by rw [ht]; exact hP, va_K.moved hW.alike hK, hD⟩, hS.F ht⟩) hS.2.2 dX9_led_65
  have L4 : ∀ (fuel : Nat) (y2_4 : Int32) (y3_4 : Int32), ∀ (H : Heap) (locs : List Loc) (ls : Array Slot), va_P D vwCl (wX9_led cy aM qM vM vM_r vM_st) H → va_D A (wX9_led cy aM qM vM vM_r vM_st) → va_S A s.heap H locs → lv_has ls 4 [(0, .ref aM), (1, .int x1), (2, .int y2_4), (3, .int y3_4)] → lp (fX9_led_B4 vM vM_r vM_st x1) fuel (y2_4, y3_4) = some (zr, z_vM) → W p l e ({ frames := 1, cells := 0, slots := 0, locals := 21 } : Room) s m ([.ref aM, .int x1] : List Value).toArray below meth c H locs 0 0 Q (F0 m 4 ls []) := by
    intro fuel
    induction fuel with
    | zero => intro y2_4 y3_4 H locs ls hP hD hS hl hok; exact (lp_0 hok).elim
    | succ fuel ih4 =>
      intro y2_4 y3_4 H locs ls hP hD hS hl hok
      obtain ⟨y4, hok, hL4, hR4⟩ := lp_step hok
      have J53 : ∀ (y2_53 : Int32), ∀ (H : Heap) (locs : List Loc) (ls : Array Slot), va_P D vwCl (wX9_led cy aM qM vM vM_r vM_st) H → va_D A (wX9_led cy aM qM vM vM_r vM_st) → va_S A s.heap H locs → lv_has ls 4 [(0, .ref aM), (1, .int x1), (2, .int y2_53), (3, .int y3_4)] → fX9_led_J53 y3_4 y2_53 = some y4 → W p l e ({ frames := 1, cells := 0, slots := 0, locals := 21 } : Room) s m ([.ref aM, .int x1] : List Value).toArray below meth c H locs 0 0 Q (F0 m 53 ls []) := by
        intro y2_53 H locs ls hP hD hS hl hok
        unfold fX9_led_J53 at hok
        refine lv_iinc (v := (y3_4 + 1)) (lv' := [(3, .int (y3_4 + 1)), (0, .ref aM), (1, .int x1), (2, .int y2_53)]) hx hb dX9_led_53 hl (k := 3) rfl (by first | rfl | decide) (by decide) rfl (fun ls hl => ?_)
        refine lv_goto (tgt := 4) hx hb dX9_led_56 (by decide) ?_
        exact ih4 y2_53 (y3_4 + 1) H locs ls hP hD hS (lv_sub hl [1, 2, 3, 0] rfl) (hR4 _ (Option.some.inj hok).symm)
      unfold fX9_led_B4 at hok
      try dsimp only at hok
      refine lv_aload_n hx hb dX9_led_4 rfl (lv_at hl 0 rfl) ?_
      refine va_get (D := D) (ci := 8) (v := .int (vM 14)) (C := RX9) (T := TX9) (N := 29) hx hb ht0 niX9 hown hK hP 0 rfl rfl 14 (by decide) (ht0 _ wd855) (fun _ h9 => h9) rfl dX9_led_5 ?_
      refine lv_if_eq (tgt := 59) hx hb dX9_led_8 (by decide) (fun c8 => ?_) (fun c8 => ?_)
      · have hok := k_pos c8 hok
        obtain ⟨e4, hok, he4⟩ := ex_some hok
        have hok := hok.trans (congrArg some (hL4 _ he4))
        exact J59  H locs ls hP hD hS (lv_sub hl [0] rfl) hok
      · have hok := k_neg c8 hok
        refine lv_iload_n hx hb dX9_led_11 rfl (lv_at hl 3 rfl) ?_
        refine lv_aload_n hx hb dX9_led_12 rfl (lv_at hl 0 rfl) ?_
        refine va_get (D := D) (ci := 8) (v := .ref (qM 15)) (C := RX9) (T := TX9) (N := 29) hx hb ht0 niX9 hown hK hP 0 rfl rfl 15 (by decide) (ht0 _ wd854) (fun _ h9 => h9) rfl dX9_led_13 ?_
        refine lv_iconst (v := 3) hx hb dX9_led_16 (by decide) ?_
        obtain ⟨g17, hok⟩ := gd_some hok
        refine va_iald hx hb hK hP 1 0 rfl rfl (okI_in g17) dX9_led_17 ?_
        refine lv_icmp_ge (tgt := 59) hx hb dX9_led_18 (by decide) (fun c18 => ?_) (fun c18 => ?_)
        · have hok := k_pos c18 hok
          obtain ⟨e4, hok, he4⟩ := ex_some hok
          have hok := hok.trans (congrArg some (hL4 _ he4))
          exact J59  H locs ls hP hD hS (lv_sub hl [0] rfl) hok
        · have hok := k_neg c18 hok
          refine lv_aload_n hx hb dX9_led_21 rfl (lv_at hl 0 rfl) ?_
          refine va_get (D := D) (ci := 8) (v := .ref (qM 17)) (C := RX9) (T := TX9) (N := 29) hx hb ht0 niX9 hown hK hP 0 rfl rfl 17 (by decide) (ht0 _ wd858) (fun _ h9 => h9) rfl dX9_led_22 ?_
          refine lv_bipush (v := 7) hx hb dX9_led_25 (by decide) ?_
          obtain ⟨g27, hok⟩ := gd_some hok
          refine va_iald hx hb hK hP 2 0 rfl rfl (okI_in g27) dX9_led_27 ?_
          refine lv_iload_n hx hb dX9_led_28 rfl (lv_at hl 3 rfl) ?_
          obtain ⟨r29, hc29, hok⟩ := k_bind hok
          refine kCi (wc := (wX9_hasBit cy )) (wc2 := (wX9_hasBit cy )) (wr := [(aM, oX9 vM qM), (qM 15, rI cy 224 vM_r), (qM 17, rI cy 9 vM_st)]) (ws2 := (wX9_led cy aM qM vM vM_r vM_st)) (kRunS (As := [.int (vM_st (7 : Int32).toNatClampNeg), .int y3_4]) (rest := []) ⟨hx, hb, hml, hown, ht0⟩ (kX9_hasBit l D cy _ (vM_st (7 : Int32).toNatClampNeg) y3_4 r29 hc29 _ rfl) (va_cwS 2 ht0 (gS wd894 wd895 wd744 wd896) rfl rfl rfl (by decide +kernel) ⟨Nat.le_of_ble_eq_true rfl, Nat.le_of_ble_eq_true rfl⟩) hK hN hP hD [] rfl (by decide) rfl hl.1 rfl (Nat.le_of_ble_eq_true rfl) dX9_led_29 ⟨Nat.zero_le _, Nat.zero_le _⟩) hP hD hS hA [] [0, 1, 2] rfl rfl (by decide) (by decide) [0, 1, 2] (by decide) rfl rfl (fun H locs hP hD hS => ?_)
          refine lv_if_ne (tgt := 38) hx hb dX9_led_32 (by decide) (fun c32 => ?_) (fun c32 => ?_)
          · have hok := k_neg c32 hok
            refine lv_iload_n hx hb dX9_led_38 rfl (lv_at hl 2 rfl) ?_
            refine lv_iload_n hx hb dX9_led_39 rfl (lv_at hl 1 rfl) ?_
            refine lv_icmp_ne (tgt := 50) hx hb dX9_led_40 (by decide) (fun c40 => ?_) (fun c40 => ?_)
            · have hok := k_neg c40 hok
              refine lv_iinc (v := (y2_4 + 1)) (lv' := [(2, .int (y2_4 + 1)), (0, .ref aM), (1, .int x1), (3, .int y3_4)]) hx hb dX9_led_50 hl (k := 2) rfl (by first | rfl | decide) (by decide) rfl (fun ls hl => ?_)
              exact J53 (y2_4 + 1) H locs ls hP hD hS (lv_sub hl [1, 2, 0, 3] rfl) hok
            · have hok := k_pos c40 hok
              obtain ⟨e4, hok, he4⟩ := ex_some hok
              have hok := hok.trans (congrArg some (hL4 _ he4))
              refine lv_aload_n hx hb dX9_led_43 rfl (lv_at hl 0 rfl) ?_
              refine lv_iconst (v := 0) hx hb dX9_led_44 (by decide) ?_
              refine va_put (D := D) (ci := 8) (v := .int 0) (ty := .int) (C := RX9) (T := TX9) (N := 29) hx hb ht0 niX9 tyX9 tyX9_ok nmX9 hown hK hP hD hS 0 rfl rfl 0 (by decide) (ht0 _ wd735) (fun _ h9 => h9) rfl (by decide +kernel) rfl rfl (Nat.le_of_ble_eq_true rfl) dX9_led_45 (fun H locs hP hD hS => ?_)
              have hP : va_P D vwCl (wX9_led cy aM qM (upd vM 0 (0 : Int32)) vM_r vM_st) H := hP
              have hD : va_D A (wX9_led cy aM qM (upd vM 0 (0 : Int32)) vM_r vM_st) := hD
              refine lv_iload_n hx hb dX9_led_48 rfl (lv_at hl 3 rfl) ?_
              cases hok
              subst hQe; exact W.iret hx hb hr (fun t ht hW => ⟨⟨_, (), rfl, rfl, by rw [ht]; exact hP, va_K.moved hW.alike hK, hD⟩, hS.F ht⟩) hS.2.2 dX9_led_49
          · have hok := k_pos c32 hok
            refine lv_goto (tgt := 53) hx hb dX9_led_35 (by decide) ?_
            exact J53 y2_4 H locs ls hP hD hS (lv_sub hl [0, 1, 2, 3] rfl) hok
  unfold fX9_led at hok
  obtain ⟨H, hH⟩ : ∃ H, H = s.heap := ⟨_, rfl⟩
  obtain ⟨locs, hlc⟩ : ∃ x : List Loc, x = [] := ⟨_, rfl⟩
  have hP : va_P D vwCl (wX9_led cy aM qM vM vM_r vM_st) H := by rw [hH]; exact hP
  have hS : va_S A s.heap H locs := by rw [hH, hlc]; exact hS
  rw [show W p l e _ s m _ below meth c s.heap [] = W p l e _ s m _ below meth c H locs from by rw [hH, hlc]]
  refine lv_iconst (v := 0) hx hb dX9_led_0 (by decide) ?_
  refine lv_istore_n (lv' := [(2, .int 0), (0, .ref aM), (1, .int x1)]) hx hb dX9_led_1 rfl hl (by decide) rfl (fun ls hl => ?_)
  refine lv_iconst (v := 0) hx hb dX9_led_2 (by decide) ?_
  refine lv_istore_n (lv' := [(3, .int 0), (2, .int 0), (0, .ref aM), (1, .int x1)]) hx hb dX9_led_3 rfl hl (by decide) rfl (fun ls hl => ?_)
  exact L4 5000 (0 : Int32) (0 : Int32) H locs ls hP hD hS (lv_sub hl [2, 3, 1, 0] rfl) hok
def wsX9_allPlaces : List Cond := .code yX9_allPlaces cX9_allPlaces 3 (some .int) :: W0
abbrev wX9_allPlaces (cy : Nat → ClassId) (aM : Nat) (qM : Nat → Nat) (vM : Nat → Int32) (vM_r : Nat → Int32) : va_W := [(aM, oX9 vM qM), (qM 15, rI cy 224 vM_r)]
set_option maxHeartbeats 4000000 in
set_option maxRecDepth 100000 in
theorem kX9_allPlaces (l : Launch) (D : va_G) (cy : Nat → ClassId) (sz : Nat) (aM : Nat) (qM : Nat → Nat) (vM : Nat → Int32) (vM_r : Nat → Int32) (zr : Int32) (hok : fX9_allPlaces vM vM_r = some zr) (A : Nat → Prop) (hAe : va_A (wX9_allPlaces cy aM qM vM vM_r) sz = A) : Met l yX9_allPlaces wsX9_allPlaces ({ frames := 1, cells := 0, slots := 0, locals := 21 } : Room) (kPre D cy [.ref aM] (wX9_allPlaces cy aM qM vM vM_r) sz) (kQi D cy zr A (wX9_allPlaces cy aM qM vM vM_r)) 0 0 A := by
  refine Met.ofW (cc := cX9_allPlaces) (maxL := 3) (ret := (some .int)) (by decide) rfl ?_
  intro p e s m args below meth c s₁ B hml hv
  obtain ⟨rfl, hsz, hP, hK, hD0, hN⟩ := hv
  have hx := B.exec
  have hb := B.bytes
  have hr := B.returns
  have ht0 : ∀ w ∈ W0, w.before _ s = true := fun w h => atoms_spec (ws := wsX9_allPlaces) B.pre w (List.mem_cons_of_mem _ h)
  have hown : s.vm.findClass RX9 = some m.cls := findClass_of_methodNamed B.named
  have hlocks := B.notSynchronized
  subst hsz
  have hD : va_D A (wX9_allPlaces cy aM qM vM vM_r) := by rw [← hAe]; exact hD0.self
  have hA : ∀ q : Nat, s.heap.size ≤ q → A q := fun q h => by rw [← hAe]; exact Or.inr h
  have hS : va_S A s.heap s.heap [] := va_S.rf
  have hl := lv_entry ([.ref aM]) (n := 3) (Nat.le_of_ble_eq_true rfl)
  rw [lg_entry_eq]
  generalize (lg_sl ([.ref aM]) ++ List.replicate (3 - (lg_sl ([.ref aM])).length) Slot.unset).toArray = ls at hl ⊢
  have hl : lv_has ls 3 [(0, .ref aM)] := hl
  generalize hQe : MQ below (kQi D cy zr A (wX9_allPlaces cy aM qM vM vM_r)) ([.ref aM] : List Value).toArray s 0 0 A = Q
  have L4 : ∀ (fuel : Nat) (y1_4 : Int32) (y2_4 : Int32), ∀ (H : Heap) (locs : List Loc) (ls : Array Slot), va_P D vwCl (wX9_allPlaces cy aM qM vM vM_r) H → va_D A (wX9_allPlaces cy aM qM vM vM_r) → va_S A s.heap H locs → lv_has ls 3 [(0, .ref aM), (1, .int y1_4), (2, .int y2_4)] → lp (fX9_allPlaces_B4 vM vM_r) fuel (y1_4, y2_4) = some zr → W p l e ({ frames := 1, cells := 0, slots := 0, locals := 21 } : Room) s m ([.ref aM] : List Value).toArray below meth c H locs 0 0 Q (F0 m 4 ls []) := by
    intro fuel
    induction fuel with
    | zero => intro y1_4 y2_4 H locs ls hP hD hS hl hok; exact (lp_0 hok).elim
    | succ fuel ih4 =>
      intro y1_4 y2_4 H locs ls hP hD hS hl hok
      obtain ⟨y4, hok, hL4, hR4⟩ := lp_step hok
      unfold fX9_allPlaces_B4 at hok
      try dsimp only at hok
      refine lv_iload_n hx hb dX9_allPlaces_4 rfl (lv_at hl 2 rfl) ?_
      refine lv_aload_n hx hb dX9_allPlaces_5 rfl (lv_at hl 0 rfl) ?_
      refine va_get (D := D) (ci := 8) (v := .ref (qM 15)) (C := RX9) (T := TX9) (N := 29) hx hb ht0 niX9 hown hK hP 0 rfl rfl 15 (by decide) (ht0 _ wd854) (fun _ h9 => h9) rfl dX9_allPlaces_6 ?_
      refine lv_iconst (v := 2) hx hb dX9_allPlaces_9 (by decide) ?_
      obtain ⟨g10, hok⟩ := gd_some hok
      refine va_iald hx hb hK hP 1 0 rfl rfl (okI_in g10) dX9_allPlaces_10 ?_
      refine lv_icmp_ge (tgt := 28) hx hb dX9_allPlaces_11 (by decide) (fun c11 => ?_) (fun c11 => ?_)
      · have hok := k_pos c11 hok
        obtain ⟨e4, hok, he4⟩ := ex_some hok
        have hok := hok.trans (congrArg some (hL4 _ he4))
        refine lv_iload_n hx hb dX9_allPlaces_28 rfl (lv_at hl 1 rfl) ?_
        cases hok
        subst hQe; exact W.iret hx hb hr (fun t ht hW => ⟨⟨_, (), rfl, rfl, by rw [ht]; exact hP, va_K.moved hW.alike hK, hD⟩, hS.F ht⟩) hS.2.2 dX9_allPlaces_29
      · have hok := k_neg c11 hok
        refine lv_iload_n hx hb dX9_allPlaces_14 rfl (lv_at hl 1 rfl) ?_
        refine lv_aload_n hx hb dX9_allPlaces_15 rfl (lv_at hl 0 rfl) ?_
        refine lv_iload_n hx hb dX9_allPlaces_16 rfl (lv_at hl 2 rfl) ?_
        obtain ⟨r17, hc17, hok⟩ := k_bind hok
        refine kCi (wc := (wX9_placesOf cy aM qM vM vM_r)) (wc2 := (wX9_placesOf cy aM qM vM vM_r)) (wr := []) (ws2 := (wX9_allPlaces cy aM qM vM vM_r)) (kRunV (As := [.int y2_4]) (rest := [.int y1_4]) ⟨hx, hb, hml, hown, ht0⟩ (kX9_placesOf l D cy _ aM qM vM vM_r y2_4 r17 hc17 _ rfl) (cwV 1 ht0 (gV wd878 wd879 wd880 wd744 wd881) rfl rfl rfl (by decide +kernel) ⟨Nat.le_of_ble_eq_true rfl, Nat.le_of_ble_eq_true rfl⟩) hK hN hP hD [0, 1] rfl (by decide) 0 8 rfl rfl rfl hl.1 rfl (Nat.le_of_ble_eq_true rfl) dX9_allPlaces_17 ⟨Nat.zero_le _, Nat.zero_le _⟩) hP hD hS hA [0, 1] [] rfl rfl (by decide) (by decide) [0, 1] (by decide) rfl rfl (fun H locs hP hD hS => ?_)
        refine lv_iadd hx hb dX9_allPlaces_20 ?_
        refine lv_istore_n (lv' := [(1, .int (y1_4 + r17)), (0, .ref aM), (2, .int y2_4)]) hx hb dX9_allPlaces_21 rfl hl (by decide) rfl (fun ls hl => ?_)
        refine lv_iinc (v := (y2_4 + 1)) (lv' := [(2, .int (y2_4 + 1)), (1, .int (y1_4 + r17)), (0, .ref aM)]) hx hb dX9_allPlaces_22 hl (k := 2) rfl (by first | rfl | decide) (by decide) rfl (fun ls hl => ?_)
        refine lv_goto (tgt := 4) hx hb dX9_allPlaces_25 (by decide) ?_
        exact ih4 (y1_4 + r17) (y2_4 + 1) H locs ls hP hD hS (lv_sub hl [2, 1, 0] rfl) (hR4 _ (Option.some.inj hok).symm)
  unfold fX9_allPlaces at hok
  obtain ⟨H, hH⟩ : ∃ H, H = s.heap := ⟨_, rfl⟩
  obtain ⟨locs, hlc⟩ : ∃ x : List Loc, x = [] := ⟨_, rfl⟩
  have hP : va_P D vwCl (wX9_allPlaces cy aM qM vM vM_r) H := by rw [hH]; exact hP
  have hS : va_S A s.heap H locs := by rw [hH, hlc]; exact hS
  rw [show W p l e _ s m _ below meth c s.heap [] = W p l e _ s m _ below meth c H locs from by rw [hH, hlc]]
  refine lv_iconst (v := 0) hx hb dX9_allPlaces_0 (by decide) ?_
  refine lv_istore_n (lv' := [(1, .int 0), (0, .ref aM)]) hx hb dX9_allPlaces_1 rfl hl (by decide) rfl (fun ls hl => ?_)
  refine lv_iconst (v := 0) hx hb dX9_allPlaces_2 (by decide) ?_
  refine lv_istore_n (lv' := [(2, .int 0), (1, .int 0), (0, .ref aM)]) hx hb dX9_allPlaces_3 rfl hl (by decide) rfl (fun ls hl => ?_)
  exact L4 5000 (0 : Int32) (0 : Int32) H locs ls hP hD hS (lv_sub hl [2, 1, 0] rfl) hok
def wsX9_size : List Cond := .code yX9_size cX9_size 2 (some .int) :: W0
abbrev wX9_size (cy : Nat → ClassId) (aM : Nat) (qM : Nat → Nat) (vM : Nat → Int32) (vM_r : Nat → Int32) (vM_st : Nat → Int32) : va_W := [(aM, oX9 vM qM), (qM 15, rI cy 224 vM_r), (qM 17, rI cy 9 vM_st)]
set_option maxHeartbeats 4000000 in
set_option maxRecDepth 100000 in
theorem kX9_size (l : Launch) (D : va_G) (cy : Nat → ClassId) (sz : Nat) (aM : Nat) (qM : Nat → Nat) (vM : Nat → Int32) (vM_r : Nat → Int32) (vM_st : Nat → Int32) (x1 : Int32) (zr : Int32) (z_vM : Nat → Int32) (hok : fX9_size vM vM_r vM_st x1 = some (zr, z_vM)) (A : Nat → Prop) (hAe : va_A (wX9_size cy aM qM vM vM_r vM_st) sz = A) : Met l yX9_size wsX9_size ({ frames := 2, cells := 0, slots := 0, locals := 43 } : Room) (kPre D cy [.ref aM, .int x1] (wX9_size cy aM qM vM vM_r vM_st) sz) (kQi D cy zr A (wX9_size cy aM qM z_vM vM_r vM_st)) 0 0 A := by
  refine Met.ofW (cc := cX9_size) (maxL := 2) (ret := (some .int)) (by decide) rfl ?_
  intro p e s m args below meth c s₁ B hml hv
  obtain ⟨rfl, hsz, hP, hK, hD0, hN⟩ := hv
  have hx := B.exec
  have hb := B.bytes
  have hr := B.returns
  have ht0 : ∀ w ∈ W0, w.before _ s = true := fun w h => atoms_spec (ws := wsX9_size) B.pre w (List.mem_cons_of_mem _ h)
  have hown : s.vm.findClass RX9 = some m.cls := findClass_of_methodNamed B.named
  have hlocks := B.notSynchronized
  subst hsz
  have hD : va_D A (wX9_size cy aM qM vM vM_r vM_st) := by rw [← hAe]; exact hD0.self
  have hA : ∀ q : Nat, s.heap.size ≤ q → A q := fun q h => by rw [← hAe]; exact Or.inr h
  have hS : va_S A s.heap s.heap [] := va_S.rf
  have hl := lv_entry ([.ref aM, .int x1]) (n := 2) (Nat.le_of_ble_eq_true rfl)
  rw [lg_entry_eq]
  generalize (lg_sl ([.ref aM, .int x1]) ++ List.replicate (2 - (lg_sl ([.ref aM, .int x1])).length) Slot.unset).toArray = ls at hl ⊢
  have hl : lv_has ls 2 [(0, .ref aM), (1, .int x1)] := hl
  generalize hQe : MQ below (kQi D cy zr A (wX9_size cy aM qM z_vM vM_r vM_st)) ([.ref aM, .int x1] : List Value).toArray s 0 0 A = Q
  have J38 : ∀ (t0_38 : Int32), ∀ (H : Heap) (locs : List Loc) (ls : Array Slot), va_P D vwCl (wX9_size cy aM qM (upd vM 0 (0 : Int32)) vM_r vM_st) H → va_D A (wX9_size cy aM qM (upd vM 0 (0 : Int32)) vM_r vM_st) → va_S A s.heap H locs → lv_has ls 2 [] → fX9_size_J38 vM t0_38 = some (zr, z_vM) → W p l e ({ frames := 2, cells := 0, slots := 0, locals := 43 } : Room) s m ([.ref aM, .int x1] : List Value).toArray below meth c H locs 0 0 Q (F0 m 38 ls [.int t0_38]) := by
    intro t0_38 H locs ls hP hD hS hl hok
    unfold fX9_size_J38 at hok
    cases hok
    subst hQe; exact W.iret hx hb hr (fun t ht hW => ⟨⟨_, (), rfl, rfl, by rw [ht]; exact hP, va_K.moved hW.alike hK, hD⟩, hS.F ht⟩) hS.2.2 dX9_size_38
  unfold fX9_size at hok
  obtain ⟨H, hH⟩ : ∃ H, H = s.heap := ⟨_, rfl⟩
  obtain ⟨locs, hlc⟩ : ∃ x : List Loc, x = [] := ⟨_, rfl⟩
  have hP : va_P D vwCl (wX9_size cy aM qM vM vM_r vM_st) H := by rw [hH]; exact hP
  have hS : va_S A s.heap H locs := by rw [hH, hlc]; exact hS
  rw [show W p l e _ s m _ below meth c s.heap [] = W p l e _ s m _ below meth c H locs from by rw [hH, hlc]]
  refine lv_aload_n hx hb dX9_size_0 rfl (lv_at hl 0 rfl) ?_
  refine lv_iconst (v := 0) hx hb dX9_size_1 (by decide) ?_
  refine va_put (D := D) (ci := 8) (v := .int 0) (ty := .int) (C := RX9) (T := TX9) (N := 29) hx hb ht0 niX9 tyX9 tyX9_ok nmX9 hown hK hP hD hS 0 rfl rfl 0 (by decide) (ht0 _ wd735) (fun _ h9 => h9) rfl (by decide +kernel) rfl rfl (Nat.le_of_ble_eq_true rfl) dX9_size_2 (fun H locs hP hD hS => ?_)
  have hP : va_P D vwCl (wX9_size cy aM qM (upd vM 0 (0 : Int32)) vM_r vM_st) H := hP
  have hD : va_D A (wX9_size cy aM qM (upd vM 0 (0 : Int32)) vM_r vM_st) := hD
  refine lv_iload_n hx hb dX9_size_5 rfl (lv_at hl 1 rfl) ?_
  refine lv_bipush (v := 12) hx hb dX9_size_6 (by decide) ?_
  refine lv_icmp_ne (tgt := 16) hx hb dX9_size_8 (by decide) (fun c8 => ?_) (fun c8 => ?_)
  · have hok := k_neg c8 hok
    refine lv_aload_n hx hb dX9_size_16 rfl (lv_at hl 0 rfl) ?_
    refine va_get (D := D) (ci := 8) (v := .int (vM 14)) (C := RX9) (T := TX9) (N := 29) hx hb ht0 niX9 hown hK hP 0 rfl rfl 14 (by decide) (ht0 _ wd855) (fun _ h9 => h9) rfl dX9_size_17 ?_
    refine lv_if_ne (tgt := 39) hx hb dX9_size_20 (by decide) (fun c20 => ?_) (fun c20 => ?_)
    · have hok := k_neg c20 hok
      refine lv_iload_n hx hb dX9_size_39 rfl (lv_at hl 1 rfl) ?_
      by_cases c40_0 : x1 = 0
      · have hok := k_pos c40_0 hok
        refine lv_tableIn (tgt := 104) (off := 64) hx hb dX9_size_40 (by rw [c40_0]; decide) (by rw [c40_0]; decide) (by rw [c40_0]; decide) (by decide) ?_
        refine lv_aload_n hx hb dX9_size_104 rfl (lv_at hl 0 rfl) ?_
        refine va_get (D := D) (ci := 8) (v := .ref (qM 15)) (C := RX9) (T := TX9) (N := 29) hx hb ht0 niX9 hown hK hP 0 rfl rfl 15 (by decide) (ht0 _ wd854) (fun _ h9 => h9) rfl dX9_size_105 ?_
        refine lv_iconst (v := 0) hx hb dX9_size_108 (by decide) ?_
        obtain ⟨g109, hok⟩ := gd_some hok
        refine va_iald hx hb hK hP 1 0 rfl rfl (okI_in g109) dX9_size_109 ?_
        cases hok
        subst hQe; exact W.iret hx hb hr (fun t ht hW => ⟨⟨_, (), rfl, rfl, by rw [ht]; exact hP, va_K.moved hW.alike hK, hD⟩, hS.F ht⟩) hS.2.2 dX9_size_110
      have hok := k_neg c40_0 hok
      by_cases c40_1 : x1 = 1
      · have hok := k_pos c40_1 hok
        refine lv_tableIn (tgt := 111) (off := 71) hx hb dX9_size_40 (by rw [c40_1]; decide) (by rw [c40_1]; decide) (by rw [c40_1]; decide) (by decide) ?_
        refine lv_aload_n hx hb dX9_size_111 rfl (lv_at hl 0 rfl) ?_
        refine va_get (D := D) (ci := 8) (v := .ref (qM 15)) (C := RX9) (T := TX9) (N := 29) hx hb ht0 niX9 hown hK hP 0 rfl rfl 15 (by decide) (ht0 _ wd854) (fun _ h9 => h9) rfl dX9_size_112 ?_
        refine lv_iconst (v := 1) hx hb dX9_size_115 (by decide) ?_
        obtain ⟨g116, hok⟩ := gd_some hok
        refine va_iald hx hb hK hP 1 0 rfl rfl (okI_in g116) dX9_size_116 ?_
        cases hok
        subst hQe; exact W.iret hx hb hr (fun t ht hW => ⟨⟨_, (), rfl, rfl, by rw [ht]; exact hP, va_K.moved hW.alike hK, hD⟩, hS.F ht⟩) hS.2.2 dX9_size_117
      have hok := k_neg c40_1 hok
      by_cases c40_2 : x1 = 2
      · have hok := k_pos c40_2 hok
        refine lv_tableIn (tgt := 118) (off := 78) hx hb dX9_size_40 (by rw [c40_2]; decide) (by rw [c40_2]; decide) (by rw [c40_2]; decide) (by decide) ?_
        refine lv_aload_n hx hb dX9_size_118 rfl (lv_at hl 0 rfl) ?_
        refine va_get (D := D) (ci := 8) (v := .ref (qM 15)) (C := RX9) (T := TX9) (N := 29) hx hb ht0 niX9 hown hK hP 0 rfl rfl 15 (by decide) (ht0 _ wd854) (fun _ h9 => h9) rfl dX9_size_119 ?_
        refine lv_iconst (v := 2) hx hb dX9_size_122 (by decide) ?_
        obtain ⟨g123, hok⟩ := gd_some hok
        refine va_iald hx hb hK hP 1 0 rfl rfl (okI_in g123) dX9_size_123 ?_
        cases hok
        subst hQe; exact W.iret hx hb hr (fun t ht hW => ⟨⟨_, (), rfl, rfl, by rw [ht]; exact hP, va_K.moved hW.alike hK, hD⟩, hS.F ht⟩) hS.2.2 dX9_size_124
      have hok := k_neg c40_2 hok
      by_cases c40_3 : x1 = 3
      · have hok := k_pos c40_3 hok
        refine lv_tableIn (tgt := 125) (off := 85) hx hb dX9_size_40 (by rw [c40_3]; decide) (by rw [c40_3]; decide) (by rw [c40_3]; decide) (by decide) ?_
        refine lv_aload_n hx hb dX9_size_125 rfl (lv_at hl 0 rfl) ?_
        obtain ⟨r126, hc126, hok⟩ := k_bind hok
        refine kCi (wc := (wX9_allPlaces cy aM qM (upd vM 0 (0 : Int32)) vM_r)) (wc2 := (wX9_allPlaces cy aM qM (upd vM 0 (0 : Int32)) vM_r)) (wr := [(qM 17, rI cy 9 vM_st)]) (ws2 := (wX9_size cy aM qM (upd vM 0 (0 : Int32)) vM_r vM_st)) (kRunV (As := []) (rest := []) ⟨hx, hb, hml, hown, ht0⟩ (kX9_allPlaces l D cy _ aM qM (upd vM 0 (0 : Int32)) vM_r r126 hc126 _ rfl) (cwV 0 ht0 (gV wd1033 wd1034 wd1035 wd744 wd1036) rfl rfl rfl (by decide +kernel) ⟨Nat.le_of_ble_eq_true rfl, Nat.le_of_ble_eq_true rfl⟩) hK hN hP hD [0, 1] rfl (by decide) 0 8 rfl rfl rfl hl.1 rfl (Nat.le_of_ble_eq_true rfl) dX9_size_126 ⟨Nat.zero_le _, Nat.zero_le _⟩) hP hD hS hA [0, 1] [2] rfl rfl (by decide) (by decide) [1, 2, 0] (by decide) rfl rfl (fun H locs hP hD hS => ?_)
        cases hok
        subst hQe; exact W.iret hx hb hr (fun t ht hW => ⟨⟨_, (), rfl, rfl, by rw [ht]; exact hP, va_K.moved hW.alike hK, hD⟩, hS.F ht⟩) hS.2.2 dX9_size_129
      have hok := k_neg c40_3 hok
      by_cases c40_4 : x1 = 4
      · have hok := k_pos c40_4 hok
        refine lv_tableIn (tgt := 130) (off := 90) hx hb dX9_size_40 (by rw [c40_4]; decide) (by rw [c40_4]; decide) (by rw [c40_4]; decide) (by decide) ?_
        refine lv_aload_n hx hb dX9_size_130 rfl (lv_at hl 0 rfl) ?_
        refine va_get (D := D) (ci := 8) (v := .ref (qM 15)) (C := RX9) (T := TX9) (N := 29) hx hb ht0 niX9 hown hK hP 0 rfl rfl 15 (by decide) (ht0 _ wd854) (fun _ h9 => h9) rfl dX9_size_131 ?_
        refine lv_iconst (v := 3) hx hb dX9_size_134 (by decide) ?_
        obtain ⟨g135, hok⟩ := gd_some hok
        refine va_iald hx hb hK hP 1 0 rfl rfl (okI_in g135) dX9_size_135 ?_
        cases hok
        subst hQe; exact W.iret hx hb hr (fun t ht hW => ⟨⟨_, (), rfl, rfl, by rw [ht]; exact hP, va_K.moved hW.alike hK, hD⟩, hS.F ht⟩) hS.2.2 dX9_size_136
      have hok := k_neg c40_4 hok
      by_cases c40_5 : x1 = 5
      · have hok := k_pos c40_5 hok
        refine lv_tableIn (tgt := 137) (off := 97) hx hb dX9_size_40 (by rw [c40_5]; decide) (by rw [c40_5]; decide) (by rw [c40_5]; decide) (by decide) ?_
        refine lv_aload_n hx hb dX9_size_137 rfl (lv_at hl 0 rfl) ?_
        refine va_get (D := D) (ci := 8) (v := .ref (qM 15)) (C := RX9) (T := TX9) (N := 29) hx hb ht0 niX9 hown hK hP 0 rfl rfl 15 (by decide) (ht0 _ wd854) (fun _ h9 => h9) rfl dX9_size_138 ?_
        refine lv_iconst (v := 4) hx hb dX9_size_141 (by decide) ?_
        obtain ⟨g142, hok⟩ := gd_some hok
        refine va_iald hx hb hK hP 1 0 rfl rfl (okI_in g142) dX9_size_142 ?_
        cases hok
        subst hQe; exact W.iret hx hb hr (fun t ht hW => ⟨⟨_, (), rfl, rfl, by rw [ht]; exact hP, va_K.moved hW.alike hK, hD⟩, hS.F ht⟩) hS.2.2 dX9_size_143
      have hok := k_neg c40_5 hok
      by_cases c40_6 : x1 = 6
      · have hok := k_pos c40_6 hok
        refine lv_tableIn (tgt := 144) (off := 104) hx hb dX9_size_40 (by rw [c40_6]; decide) (by rw [c40_6]; decide) (by rw [c40_6]; decide) (by decide) ?_
        refine lv_aload_n hx hb dX9_size_144 rfl (lv_at hl 0 rfl) ?_
        refine va_get (D := D) (ci := 8) (v := .ref (qM 15)) (C := RX9) (T := TX9) (N := 29) hx hb ht0 niX9 hown hK hP 0 rfl rfl 15 (by decide) (ht0 _ wd854) (fun _ h9 => h9) rfl dX9_size_145 ?_
        refine lv_iconst (v := 5) hx hb dX9_size_148 (by decide) ?_
        obtain ⟨g149, hok⟩ := gd_some hok
        refine va_iald hx hb hK hP 1 0 rfl rfl (okI_in g149) dX9_size_149 ?_
        cases hok
        subst hQe; exact W.iret hx hb hr (fun t ht hW => ⟨⟨_, (), rfl, rfl, by rw [ht]; exact hP, va_K.moved hW.alike hK, hD⟩, hS.F ht⟩) hS.2.2 dX9_size_150
      have hok := k_neg c40_6 hok
      by_cases c40_7 : x1 = 7
      · have hok := k_pos c40_7 hok
        refine lv_tableIn (tgt := 151) (off := 111) hx hb dX9_size_40 (by rw [c40_7]; decide) (by rw [c40_7]; decide) (by rw [c40_7]; decide) (by decide) ?_
        refine lv_aload_n hx hb dX9_size_151 rfl (lv_at hl 0 rfl) ?_
        refine va_get (D := D) (ci := 8) (v := .ref (qM 15)) (C := RX9) (T := TX9) (N := 29) hx hb ht0 niX9 hown hK hP 0 rfl rfl 15 (by decide) (ht0 _ wd854) (fun _ h9 => h9) rfl dX9_size_152 ?_
        refine lv_bipush (v := 6) hx hb dX9_size_155 (by decide) ?_
        obtain ⟨g157, hok⟩ := gd_some hok
        refine va_iald hx hb hK hP 1 0 rfl rfl (okI_in g157) dX9_size_157 ?_
        cases hok
        subst hQe; exact W.iret hx hb hr (fun t ht hW => ⟨⟨_, (), rfl, rfl, by rw [ht]; exact hP, va_K.moved hW.alike hK, hD⟩, hS.F ht⟩) hS.2.2 dX9_size_158
      have hok := k_neg c40_7 hok
      by_cases c40_8 : x1 = 8
      · have hok := k_pos c40_8 hok
        refine lv_tableIn (tgt := 159) (off := 119) hx hb dX9_size_40 (by rw [c40_8]; decide) (by rw [c40_8]; decide) (by rw [c40_8]; decide) (by decide) ?_
        refine lv_aload_n hx hb dX9_size_159 rfl (lv_at hl 0 rfl) ?_
        refine va_get (D := D) (ci := 8) (v := .ref (qM 15)) (C := RX9) (T := TX9) (N := 29) hx hb ht0 niX9 hown hK hP 0 rfl rfl 15 (by decide) (ht0 _ wd854) (fun _ h9 => h9) rfl dX9_size_160 ?_
        refine lv_bipush (v := 7) hx hb dX9_size_163 (by decide) ?_
        obtain ⟨g165, hok⟩ := gd_some hok
        refine va_iald hx hb hK hP 1 0 rfl rfl (okI_in g165) dX9_size_165 ?_
        cases hok
        subst hQe; exact W.iret hx hb hr (fun t ht hW => ⟨⟨_, (), rfl, rfl, by rw [ht]; exact hP, va_K.moved hW.alike hK, hD⟩, hS.F ht⟩) hS.2.2 dX9_size_166
      have hok := k_neg c40_8 hok
      by_cases c40_9 : x1 = 9
      · have hok := k_pos c40_9 hok
        refine lv_tableIn (tgt := 167) (off := 127) hx hb dX9_size_40 (by rw [c40_9]; decide) (by rw [c40_9]; decide) (by rw [c40_9]; decide) (by decide) ?_
        refine lv_aload_n hx hb dX9_size_167 rfl (lv_at hl 0 rfl) ?_
        refine va_get (D := D) (ci := 8) (v := .ref (qM 17)) (C := RX9) (T := TX9) (N := 29) hx hb ht0 niX9 hown hK hP 0 rfl rfl 17 (by decide) (ht0 _ wd858) (fun _ h9 => h9) rfl dX9_size_168 ?_
        refine lv_bipush (v := 8) hx hb dX9_size_171 (by decide) ?_
        obtain ⟨g173, hok⟩ := gd_some hok
        refine va_iald hx hb hK hP 2 0 rfl rfl (okI_in g173) dX9_size_173 ?_
        cases hok
        subst hQe; exact W.iret hx hb hr (fun t ht hW => ⟨⟨_, (), rfl, rfl, by rw [ht]; exact hP, va_K.moved hW.alike hK, hD⟩, hS.F ht⟩) hS.2.2 dX9_size_174
      have hok := k_neg c40_9 hok
      by_cases c40_10 : x1 = 10
      · have hok := k_pos c40_10 hok
        refine lv_tableIn (tgt := 175) (off := 135) hx hb dX9_size_40 (by rw [c40_10]; decide) (by rw [c40_10]; decide) (by rw [c40_10]; decide) (by decide) ?_
        refine lv_aload_n hx hb dX9_size_175 rfl (lv_at hl 0 rfl) ?_
        refine va_get (D := D) (ci := 8) (v := .int (vM 20)) (C := RX9) (T := TX9) (N := 29) hx hb ht0 niX9 hown hK hP 0 rfl rfl 20 (by decide) (ht0 _ wd856) (fun _ h9 => h9) rfl dX9_size_176 ?_
        cases hok
        subst hQe; exact W.iret hx hb hr (fun t ht hW => ⟨⟨_, (), rfl, rfl, by rw [ht]; exact hP, va_K.moved hW.alike hK, hD⟩, hS.F ht⟩) hS.2.2 dX9_size_179
      have hok := k_neg c40_10 hok
      by_cases c40_11 : x1 = 11
      · have hok := k_pos c40_11 hok
        refine lv_tableIn (tgt := 180) (off := 140) hx hb dX9_size_40 (by rw [c40_11]; decide) (by rw [c40_11]; decide) (by rw [c40_11]; decide) (by decide) ?_
        refine lv_aload_n hx hb dX9_size_180 rfl (lv_at hl 0 rfl) ?_
        refine va_get (D := D) (ci := 8) (v := .int (vM 21)) (C := RX9) (T := TX9) (N := 29) hx hb ht0 niX9 hown hK hP 0 rfl rfl 21 (by decide) (ht0 _ wd857) (fun _ h9 => h9) rfl dX9_size_181 ?_
        cases hok
        subst hQe; exact W.iret hx hb hr (fun t ht hW => ⟨⟨_, (), rfl, rfl, by rw [ht]; exact hP, va_K.moved hW.alike hK, hD⟩, hS.F ht⟩) hS.2.2 dX9_size_184
      have hok := k_neg c40_11 hok
      refine lv_tableOut (tgt := 185) hx hb dX9_size_40 (by have q0 := lv_neT c40_0 (a := 0) (by decide); have q1 := lv_neT c40_1 (a := 1) (by decide); have q2 := lv_neT c40_2 (a := 2) (by decide); have q3 := lv_neT c40_3 (a := 3) (by decide); have q4 := lv_neT c40_4 (a := 4) (by decide); have q5 := lv_neT c40_5 (a := 5) (by decide); have q6 := lv_neT c40_6 (a := 6) (by decide); have q7 := lv_neT c40_7 (a := 7) (by decide); have q8 := lv_neT c40_8 (a := 8) (by decide); have q9 := lv_neT c40_9 (a := 9) (by decide); have q10 := lv_neT c40_10 (a := 10) (by decide); have q11 := lv_neT c40_11 (a := 11) (by decide); omega) (by decide) ?_
      refine lv_iconst (v := -1) hx hb dX9_size_185 (by decide) ?_
      cases hok
      subst hQe; exact W.iret hx hb hr (fun t ht hW => ⟨⟨_, (), rfl, rfl, by rw [ht]; exact hP, va_K.moved hW.alike hK, hD⟩, hS.F ht⟩) hS.2.2 dX9_size_186
    · have hok := k_pos c20 hok
      refine lv_iload_n hx hb dX9_size_23 rfl (lv_at hl 1 rfl) ?_
      refine lv_iconst (v := 0) hx hb dX9_size_24 (by decide) ?_
      refine lv_bipush (v := 11) hx hb dX9_size_25 (by decide) ?_
      obtain ⟨r27, hc27, hok⟩ := k_bind hok
      refine kCi (wc := (wX9_in cy )) (wc2 := (wX9_in cy )) (wr := [(aM, oX9 (upd vM 0 (0 : Int32)) qM), (qM 15, rI cy 224 vM_r), (qM 17, rI cy 9 vM_st)]) (ws2 := (wX9_size cy aM qM (upd vM 0 (0 : Int32)) vM_r vM_st)) (kRunS (As := [.int x1, .int 0, .int 11]) (rest := []) ⟨hx, hb, hml, hown, ht0⟩ (kX9_in l D cy _ x1 (0 : Int32) (11 : Int32) r27 hc27 _ rfl) (va_cwS 3 ht0 (gS wd787 wd788 wd744 wd789) rfl rfl rfl (by decide +kernel) ⟨Nat.le_of_ble_eq_true rfl, Nat.le_of_ble_eq_true rfl⟩) hK hN hP hD [] rfl (by decide) rfl hl.1 rfl (Nat.le_of_ble_eq_true rfl) dX9_size_27 ⟨Nat.zero_le _, Nat.zero_le _⟩) hP hD hS hA [] [0, 1, 2] rfl rfl (by decide) (by decide) [0, 1, 2] (by decide) rfl rfl (fun H locs hP hD hS => ?_)
      refine lv_if_eq (tgt := 37) hx hb dX9_size_30 (by decide) (fun c30 => ?_) (fun c30 => ?_)
      · have hok := k_pos c30 hok
        refine lv_iconst (v := -1) hx hb dX9_size_37 (by decide) ?_
        exact J38 (-1 : Int32) H locs ls hP hD hS (lv_sub hl [] rfl) hok
      · have hok := k_neg c30 hok
        refine lv_iconst (v := 0) hx hb dX9_size_33 (by decide) ?_
        refine lv_goto (tgt := 38) hx hb dX9_size_34 (by decide) ?_
        exact J38 (0 : Int32) H locs ls hP hD hS (lv_sub hl [] rfl) hok
  · have hok := k_pos c8 hok
    refine lv_aload_n hx hb dX9_size_11 rfl (lv_at hl 0 rfl) ?_
    refine va_get (D := D) (ci := 8) (v := .int (vM 2)) (C := RX9) (T := TX9) (N := 29) hx hb ht0 niX9 hown hK hP 0 rfl rfl 2 (by decide) (ht0 _ wd738) (fun _ h9 => h9) rfl dX9_size_12 ?_
    cases hok
    subst hQe; exact W.iret hx hb hr (fun t ht hW => ⟨⟨_, (), rfl, rfl, by rw [ht]; exact hP, va_K.moved hW.alike hK, hD⟩, hS.F ht⟩) hS.2.2 dX9_size_15
def wsX9_trouble : List Cond := .code yX9_trouble cX9_trouble 1 (some .int) :: W0
abbrev wX9_trouble (cy : Nat → ClassId) (aM : Nat) (qM : Nat → Nat) (vM : Nat → Int32) : va_W := [(aM, oX9 vM qM)]
set_option maxHeartbeats 4000000 in
set_option maxRecDepth 100000 in
theorem kX9_trouble (l : Launch) (D : va_G) (cy : Nat → ClassId) (sz : Nat) (aM : Nat) (qM : Nat → Nat) (vM : Nat → Int32) (zr : Int32) (z_vM : Nat → Int32) (hok : fX9_trouble vM = some (zr, z_vM)) (A : Nat → Prop) (hAe : va_A (wX9_trouble cy aM qM vM) sz = A) : Met l yX9_trouble wsX9_trouble ({ frames := 0, cells := 0, slots := 0, locals := 0 } : Room) (kPre D cy [.ref aM] (wX9_trouble cy aM qM vM) sz) (kQi D cy zr A (wX9_trouble cy aM qM z_vM)) 0 0 A := by
  refine Met.ofW (cc := cX9_trouble) (maxL := 1) (ret := (some .int)) (by decide) rfl ?_
  intro p e s m args below meth c s₁ B hml hv
  obtain ⟨rfl, hsz, hP, hK, hD0, hN⟩ := hv
  have hx := B.exec
  have hb := B.bytes
  have hr := B.returns
  have ht0 : ∀ w ∈ W0, w.before _ s = true := fun w h => atoms_spec (ws := wsX9_trouble) B.pre w (List.mem_cons_of_mem _ h)
  have hown : s.vm.findClass RX9 = some m.cls := findClass_of_methodNamed B.named
  have hlocks := B.notSynchronized
  subst hsz
  have hD : va_D A (wX9_trouble cy aM qM vM) := by rw [← hAe]; exact hD0.self
  have hA : ∀ q : Nat, s.heap.size ≤ q → A q := fun q h => by rw [← hAe]; exact Or.inr h
  have hS : va_S A s.heap s.heap [] := va_S.rf
  have hl := lv_entry ([.ref aM]) (n := 1) (Nat.le_of_ble_eq_true rfl)
  rw [lg_entry_eq]
  generalize (lg_sl ([.ref aM]) ++ List.replicate (1 - (lg_sl ([.ref aM])).length) Slot.unset).toArray = ls at hl ⊢
  have hl : lv_has ls 1 [(0, .ref aM)] := hl
  unfold fX9_trouble at hok
  obtain ⟨H, hH⟩ : ∃ H, H = s.heap := ⟨_, rfl⟩
  obtain ⟨locs, hlc⟩ : ∃ x : List Loc, x = [] := ⟨_, rfl⟩
  have hP : va_P D vwCl (wX9_trouble cy aM qM vM) H := by rw [hH]; exact hP
  have hS : va_S A s.heap H locs := by rw [hH, hlc]; exact hS
  rw [show W p l e _ s m _ below meth c s.heap [] = W p l e _ s m _ below meth c H locs from by rw [hH, hlc]]
  refine lv_aload_n hx hb dX9_trouble_0 rfl (lv_at hl 0 rfl) ?_
  refine lv_iconst (v := 0) hx hb dX9_trouble_1 (by decide) ?_
  refine va_put (D := D) (ci := 8) (v := .int 0) (ty := .int) (C := RX9) (T := TX9) (N := 29) hx hb ht0 niX9 tyX9 tyX9_ok nmX9 hown hK hP hD hS 0 rfl rfl 0 (by decide) (ht0 _ wd735) (fun _ h9 => h9) rfl (by decide +kernel) rfl rfl (Nat.le_of_ble_eq_true rfl) dX9_trouble_2 (fun H locs hP hD hS => ?_)
  have hP : va_P D vwCl (wX9_trouble cy aM qM (upd vM 0 (0 : Int32))) H := hP
  have hD : va_D A (wX9_trouble cy aM qM (upd vM 0 (0 : Int32))) := hD
  refine lv_aload_n hx hb dX9_trouble_5 rfl (lv_at hl 0 rfl) ?_
  refine va_get (D := D) (ci := 8) (v := .int (vM 11)) (C := RX9) (T := TX9) (N := 29) hx hb ht0 niX9 hown hK hP 0 rfl rfl 11 (by decide) (ht0 _ wd736) (fun _ h9 => h9) rfl dX9_trouble_6 ?_
  cases hok
  exact W.iret hx hb hr (fun t ht hW => ⟨⟨_, (), rfl, rfl, by rw [ht]; exact hP, va_K.moved hW.alike hK, hD⟩, hS.F ht⟩) hS.2.2 dX9_trouble_9
