def wsX9_goes : List Cond := .code yX9_goes cX9_goes 1 (some .int) :: W0
abbrev wX9_goes (cy : Nat → ClassId) (aM : Nat) (qM : Nat → Nat) (vM : Nat → Int32) (vM_r : Nat → Int32) (vM_st : Nat → Int32) : va_W := [(aM, oX9 vM qM), (qM 15, rI cy 224 vM_r), (qM 17, rI cy 9 vM_st)]
set_option maxHeartbeats 4000000 in
set_option maxRecDepth 100000 in
theorem kX9_goes (l : Launch) (D : va_G) (cy : Nat → ClassId) (sz : Nat) (aM : Nat) (qM : Nat → Nat) (vM : Nat → Int32) (vM_r : Nat → Int32) (vM_st : Nat → Int32) (zr : Int32) (z_vM : Nat → Int32) (hok : fX9_goes vM vM_r vM_st = some (zr, z_vM)) (A : Nat → Prop) (hAe : va_A (wX9_goes cy aM qM vM vM_r vM_st) sz = A) : Met l yX9_goes wsX9_goes ({ frames := 4, cells := 0, slots := 0, locals := 92 } : Room) (kPre D cy [.ref aM] (wX9_goes cy aM qM vM vM_r vM_st) sz) (kQi D cy zr A (wX9_goes cy aM qM z_vM vM_r vM_st)) 0 0 A := by
  refine Met.ofW (cc := cX9_goes) (maxL := 1) (ret := (some .int)) (by decide) rfl ?_
  intro p e s m args below meth c s₁ B hml hv
  obtain ⟨rfl, hsz, hP, hK, hD0, hN⟩ := hv
  have hx := B.exec
  have hb := B.bytes
  have hr := B.returns
  have ht0 : ∀ w ∈ W0, w.before _ s = true := fun w h => atoms_spec (ws := wsX9_goes) B.pre w (List.mem_cons_of_mem _ h)
  have hown : s.vm.findClass RX9 = some m.cls := findClass_of_methodNamed B.named
  have hlocks := B.notSynchronized
  subst hsz
  have hD : va_D A (wX9_goes cy aM qM vM vM_r vM_st) := by rw [← hAe]; exact hD0.self
  have hA : ∀ q : Nat, s.heap.size ≤ q → A q := fun q h => by rw [← hAe]; exact Or.inr h
  have hS : va_S A s.heap s.heap [] := va_S.rf
  have hl := lv_entry ([.ref aM]) (n := 1) (Nat.le_of_ble_eq_true rfl)
  rw [lg_entry_eq]
  generalize (lg_sl ([.ref aM]) ++ List.replicate (1 - (lg_sl ([.ref aM])).length) Slot.unset).toArray = ls at hl ⊢
  have hl : lv_has ls 1 [(0, .ref aM)] := hl
  generalize hQe : MQ below (kQi D cy zr A (wX9_goes cy aM qM z_vM vM_r vM_st)) ([.ref aM] : List Value).toArray s 0 0 A = Q
  have J27 : ∀ (t0_27 : Int32) (vM_27 : Nat → Int32), ∀ (H : Heap) (locs : List Loc) (ls : Array Slot), va_P D vwCl (wX9_goes cy aM qM vM_27 vM_r vM_st) H → va_D A (wX9_goes cy aM qM vM_27 vM_r vM_st) → va_S A s.heap H locs → lv_has ls 1 [] → fX9_goes_J27 t0_27 vM_27 = some (zr, z_vM) → W p l e ({ frames := 4, cells := 0, slots := 0, locals := 92 } : Room) s m ([.ref aM] : List Value).toArray below meth c H locs 0 0 Q (F0 m 27 ls [.int t0_27]) := by
    intro t0_27 vM_27 H locs ls hP hD hS hl hok
    unfold fX9_goes_J27 at hok
    cases hok
    subst hQe; exact W.iret hx hb hr (fun t ht hW => ⟨⟨_, (), rfl, rfl, by rw [ht]; exact hP, va_K.moved hW.alike hK, hD⟩, hS.F ht⟩) hS.2.2 dX9_goes_27
  unfold fX9_goes at hok
  obtain ⟨H, hH⟩ : ∃ H, H = s.heap := ⟨_, rfl⟩
  obtain ⟨locs, hlc⟩ : ∃ x : List Loc, x = [] := ⟨_, rfl⟩
  have hP : va_P D vwCl (wX9_goes cy aM qM vM vM_r vM_st) H := by rw [hH]; exact hP
  have hS : va_S A s.heap H locs := by rw [hH, hlc]; exact hS
  rw [show W p l e _ s m _ below meth c s.heap [] = W p l e _ s m _ below meth c H locs from by rw [hH, hlc]]
  refine lv_aload_n hx hb dX9_goes_0 rfl (lv_at hl 0 rfl) ?_
  obtain ⟨vM_1, hc1, hok⟩ := k_bind hok
  refine kCv (wc := (wX9_good cy aM qM vM)) (wc2 := (wX9_good cy aM qM vM_1)) (wr := [(qM 15, rI cy 224 vM_r), (qM 17, rI cy 9 vM_st)]) (ws2 := (wX9_goes cy aM qM vM_1 vM_r vM_st)) (kRunV (As := []) (rest := []) ⟨hx, hb, hml, hown, ht0⟩ (kX9_good l D cy _ aM qM vM vM_1 hc1 _ rfl) (cwV 0 ht0 (gV wd870 wd871 wd872 wd744 wd873) rfl rfl rfl (by decide +kernel) ⟨Nat.le_of_ble_eq_true rfl, Nat.le_of_ble_eq_true rfl⟩) hK hN hP hD [0] rfl (by decide) 0 8 rfl rfl rfl hl.1 rfl (Nat.le_of_ble_eq_true rfl) dX9_goes_1 ⟨Nat.zero_le _, Nat.zero_le _⟩) hP hD hS hA [0] [1, 2] rfl rfl (by decide) (by decide) [2, 0, 1] (by decide) rfl rfl (fun H locs hP hD hS => ?_)
  refine lv_aload_n hx hb dX9_goes_4 rfl (lv_at hl 0 rfl) ?_
  refine va_get (D := D) (ci := 8) (v := .int (vM_1 14)) (C := RX9) (T := TX9) (N := 29) hx hb ht0 niX9 hown hK hP 0 rfl rfl 14 (by decide) (ht0 _ wd855) (fun _ h9 => h9) rfl dX9_goes_5 ?_
  refine lv_if_eq (tgt := 22) hx hb dX9_goes_8 (by decide) (fun c8 => ?_) (fun c8 => ?_)
  · have hok := k_pos c8 hok
    refine lv_aload_n hx hb dX9_goes_22 rfl (lv_at hl 0 rfl) ?_
    refine lv_iconst (v := 1) hx hb dX9_goes_23 (by decide) ?_
    obtain ⟨⟨r24, vM_24⟩, hc24, hok⟩ := k_bind hok
    try dsimp only at hok
    refine kCi (wc := (wX9_no cy aM qM vM_1)) (wc2 := (wX9_no cy aM qM vM_24)) (wr := [(qM 15, rI cy 224 vM_r), (qM 17, rI cy 9 vM_st)]) (ws2 := (wX9_goes cy aM qM vM_24 vM_r vM_st)) (kRunV (As := [.int 1]) (rest := []) ⟨hx, hb, hml, hown, ht0⟩ (kX9_no l D cy _ aM qM vM_1 (1 : Int32) r24 vM_24 hc24 _ rfl) (cwV 1 ht0 (gV wd862 wd863 wd864 wd744 wd865) rfl rfl rfl (by decide +kernel) ⟨Nat.le_of_ble_eq_true rfl, Nat.le_of_ble_eq_true rfl⟩) hK hN hP hD [0] rfl (by decide) 0 8 rfl rfl rfl hl.1 rfl (Nat.le_of_ble_eq_true rfl) dX9_goes_24 ⟨Nat.zero_le _, Nat.zero_le _⟩) hP hD hS hA [0] [1, 2] rfl rfl (by decide) (by decide) [2, 0, 1] (by decide) rfl rfl (fun H locs hP hD hS => ?_)
    exact J27 r24 vM_24 H locs ls hP hD hS (lv_sub hl [] rfl) hok
  · have hok := k_neg c8 hok
    refine lv_aload_n hx hb dX9_goes_11 rfl (lv_at hl 0 rfl) ?_
    refine lv_aload_n hx hb dX9_goes_12 rfl (lv_at hl 0 rfl) ?_
    refine va_get (D := D) (ci := 8) (v := .ref (qM 17)) (C := RX9) (T := TX9) (N := 29) hx hb ht0 niX9 hown hK hP 0 rfl rfl 17 (by decide) (ht0 _ wd858) (fun _ h9 => h9) rfl dX9_goes_13 ?_
    obtain ⟨r16, hc16, hok⟩ := k_bind hok
    refine kCi (wc := (wX9_going cy aM (qM 17) qM vM_1 vM_r 9 vM_st)) (wc2 := (wX9_going cy aM (qM 17) qM vM_1 vM_r 9 vM_st)) (wr := []) (ws2 := (wX9_goes cy aM qM vM_1 vM_r vM_st)) (kRunV (As := [.ref (qM 17)]) (rest := []) ⟨hx, hb, hml, hown, ht0⟩ (kX9_going l D cy _ aM (qM 17) qM vM_1 vM_r 9 vM_st r16 hc16 _ rfl) (cwV 1 ht0 (gV wd913 wd914 wd915 wd744 wd916) rfl rfl rfl (by decide +kernel) ⟨Nat.le_of_ble_eq_true rfl, Nat.le_of_ble_eq_true rfl⟩) hK hN hP hD [0, 1, 2] rfl (by decide) 0 8 rfl rfl rfl hl.1 rfl (Nat.le_of_ble_eq_true rfl) dX9_goes_16 ⟨Nat.zero_le _, Nat.zero_le _⟩) hP hD hS hA [0, 1, 2] [] rfl rfl (by decide) (by decide) [0, 1, 2] (by decide) rfl rfl (fun H locs hP hD hS => ?_)
    refine lv_goto (tgt := 27) hx hb dX9_goes_19 (by decide) ?_
    exact J27 r16 vM_1 H locs ls hP hD hS (lv_sub hl [] rfl) hok
def wsX9_blocked : List Cond := .code yX9_blocked cX9_blocked 4 (some .int) :: W0
abbrev wX9_blocked (cy : Nat → ClassId) (aM : Nat) (qM : Nat → Nat) (vM : Nat → Int32) (vM_r : Nat → Int32) (vM_st : Nat → Int32) : va_W := [(aM, oX9 vM qM), (qM 15, rI cy 224 vM_r), (qM 17, rI cy 9 vM_st)]
set_option maxHeartbeats 4000000 in
set_option maxRecDepth 100000 in
theorem kX9_blocked (l : Launch) (D : va_G) (cy : Nat → ClassId) (sz : Nat) (aM : Nat) (qM : Nat → Nat) (vM : Nat → Int32) (vM_r : Nat → Int32) (vM_st : Nat → Int32) (zr : Int32) (z_vM : Nat → Int32) (hok : fX9_blocked vM vM_r vM_st = some (zr, z_vM)) (A : Nat → Prop) (hAe : va_A (wX9_blocked cy aM qM vM vM_r vM_st) sz = A) : Met l yX9_blocked wsX9_blocked ({ frames := 4, cells := 0, slots := 0, locals := 92 } : Room) (kPre D cy [.ref aM] (wX9_blocked cy aM qM vM vM_r vM_st) sz) (kQi D cy zr A (wX9_blocked cy aM qM z_vM vM_r vM_st)) 0 0 A := by
  refine Met.ofW (cc := cX9_blocked) (maxL := 4) (ret := (some .int)) (by decide) rfl ?_
  intro p e s m args below meth c s₁ B hml hv
  obtain ⟨rfl, hsz, hP, hK, hD0, hN⟩ := hv
  have hx := B.exec
  have hb := B.bytes
  have hr := B.returns
  have ht0 : ∀ w ∈ W0, w.before _ s = true := fun w h => atoms_spec (ws := wsX9_blocked) B.pre w (List.mem_cons_of_mem _ h)
  have hown : s.vm.findClass RX9 = some m.cls := findClass_of_methodNamed B.named
  have hlocks := B.notSynchronized
  subst hsz
  have hD : va_D A (wX9_blocked cy aM qM vM vM_r vM_st) := by rw [← hAe]; exact hD0.self
  have hA : ∀ q : Nat, s.heap.size ≤ q → A q := fun q h => by rw [← hAe]; exact Or.inr h
  have hS : va_S A s.heap s.heap [] := va_S.rf
  have hl := lv_entry ([.ref aM]) (n := 4) (Nat.le_of_ble_eq_true rfl)
  rw [lg_entry_eq]
  generalize (lg_sl ([.ref aM]) ++ List.replicate (4 - (lg_sl ([.ref aM])).length) Slot.unset).toArray = ls at hl ⊢
  have hl : lv_has ls 4 [(0, .ref aM)] := hl
  generalize hQe : MQ below (kQi D cy zr A (wX9_blocked cy aM qM z_vM vM_r vM_st)) ([.ref aM] : List Value).toArray s 0 0 A = Q
  have L41 : ∀ (fuel : Nat) (y1_41 : Int32) (y2_41 : Int32) (y3_41 : Int32) (vM_41 : Nat → Int32), ∀ (H : Heap) (locs : List Loc) (ls : Array Slot), va_P D vwCl (wX9_blocked cy aM qM vM_41 vM_r vM_st) H → va_D A (wX9_blocked cy aM qM vM_41 vM_r vM_st) → va_S A s.heap H locs → lv_has ls 4 [(0, .ref aM), (1, .int y1_41), (2, .int y2_41), (3, .int y3_41)] → lp (fX9_blocked_B41 vM_r vM_st) fuel (y1_41, y2_41, y3_41, vM_41) = some (zr, z_vM) → W p l e ({ frames := 4, cells := 0, slots := 0, locals := 92 } : Room) s m ([.ref aM] : List Value).toArray below meth c H locs 0 0 Q (F0 m 41 ls []) := by
    intro fuel
    induction fuel with
    | zero => intro y1_41 y2_41 y3_41 vM_41 H locs ls hP hD hS hl hok; exact (lp_0 hok).elim
    | succ fuel ih41 =>
      intro y1_41 y2_41 y3_41 vM_41 H locs ls hP hD hS hl hok
      obtain ⟨y41, hok, hL41, hR41⟩ := lp_step hok
      have J79 : ∀ (t0_79 : Int32), ∀ (H : Heap) (locs : List Loc) (ls : Array Slot), va_P D vwCl (wX9_blocked cy aM qM vM_41 vM_r vM_st) H → va_D A (wX9_blocked cy aM qM vM_41 vM_r vM_st) → va_S A s.heap H locs → lv_has ls 4 [(0, .ref aM), (1, .int y1_41), (3, .int y3_41)] → fX9_blocked_J79 y1_41 y2_41 y3_41 vM_41 t0_79 = some y41 → W p l e ({ frames := 4, cells := 0, slots := 0, locals := 92 } : Room) s m ([.ref aM] : List Value).toArray below meth c H locs 0 0 Q (F0 m 79 ls [.int t0_79, .int y2_41]) := by
        intro t0_79 H locs ls hP hD hS hl hok
        unfold fX9_blocked_J79 at hok
        refine lv_ior hx hb dX9_blocked_79 ?_
        refine lv_istore_n (lv' := [(2, .int (y2_41 ||| t0_79)), (0, .ref aM), (1, .int y1_41), (3, .int y3_41)]) hx hb dX9_blocked_80 rfl hl (by decide) rfl (fun ls hl => ?_)
        refine lv_iinc (v := (y3_41 + 1)) (lv' := [(3, .int (y3_41 + 1)), (2, .int (y2_41 ||| t0_79)), (0, .ref aM), (1, .int y1_41)]) hx hb dX9_blocked_81 hl (k := 3) rfl (by first | rfl | decide) (by decide) rfl (fun ls hl => ?_)
        refine lv_goto (tgt := 41) hx hb dX9_blocked_84 (by decide) ?_
        exact ih41 y1_41 (y2_41 ||| t0_79) (y3_41 + 1) vM_41 H locs ls hP hD hS (lv_sub hl [2, 3, 1, 0] rfl) (hR41 _ (Option.some.inj hok).symm)
      have J78 : ∀ (H : Heap) (locs : List Loc) (ls : Array Slot), va_P D vwCl (wX9_blocked cy aM qM vM_41 vM_r vM_st) H → va_D A (wX9_blocked cy aM qM vM_41 vM_r vM_st) → va_S A s.heap H locs → lv_has ls 4 [(0, .ref aM), (1, .int y1_41), (3, .int y3_41)] → fX9_blocked_J78 y1_41 y2_41 y3_41 vM_41 = some y41 → W p l e ({ frames := 4, cells := 0, slots := 0, locals := 92 } : Room) s m ([.ref aM] : List Value).toArray below meth c H locs 0 0 Q (F0 m 78 ls [.int y2_41]) := by
        intro  H locs ls hP hD hS hl hok
        unfold fX9_blocked_J78 at hok
        refine lv_iconst (v := 0) hx hb dX9_blocked_78 (by decide) ?_
        exact J79 (0 : Int32) H locs ls hP hD hS (lv_sub hl [0, 1, 2] rfl) hok
      unfold fX9_blocked_B41 at hok
      try dsimp only at hok
      refine lv_iload_n hx hb dX9_blocked_41 rfl (lv_at hl 3 rfl) ?_
      refine lv_aload_n hx hb dX9_blocked_42 rfl (lv_at hl 0 rfl) ?_
      refine va_get (D := D) (ci := 8) (v := .ref (qM 15)) (C := RX9) (T := TX9) (N := 29) hx hb ht0 niX9 hown hK hP 0 rfl rfl 15 (by decide) (ht0 _ wd854) (fun _ h9 => h9) rfl dX9_blocked_43 ?_
      refine lv_iconst (v := 3) hx hb dX9_blocked_46 (by decide) ?_
      obtain ⟨g47, hok⟩ := gd_some hok
      refine va_iald hx hb hK hP 1 0 rfl rfl (okI_in g47) dX9_blocked_47 ?_
      refine lv_icmp_ge (tgt := 87) hx hb dX9_blocked_48 (by decide) (fun c48 => ?_) (fun c48 => ?_)
      · have hok := k_pos c48 hok
        obtain ⟨e41, hok, he41⟩ := ex_some hok
        have hok := hok.trans (congrArg some (hL41 _ he41))
        refine lv_iload_n hx hb dX9_blocked_87 rfl (lv_at hl 2 rfl) ?_
        cases hok
        subst hQe; exact W.iret hx hb hr (fun t ht hW => ⟨⟨_, (), rfl, rfl, by rw [ht]; exact hP, va_K.moved hW.alike hK, hD⟩, hS.F ht⟩) hS.2.2 dX9_blocked_88
      · have hok := k_neg c48 hok
        refine lv_iload_n hx hb dX9_blocked_51 rfl (lv_at hl 2 rfl) ?_
        refine lv_iload_n hx hb dX9_blocked_52 rfl (lv_at hl 1 rfl) ?_
        refine lv_iload_n hx hb dX9_blocked_53 rfl (lv_at hl 3 rfl) ?_
        obtain ⟨r54, hc54, hok⟩ := k_bind hok
        refine kCi (wc := (wX9_hasBit cy )) (wc2 := (wX9_hasBit cy )) (wr := [(aM, oX9 vM_41 qM), (qM 15, rI cy 224 vM_r), (qM 17, rI cy 9 vM_st)]) (ws2 := (wX9_blocked cy aM qM vM_41 vM_r vM_st)) (kRunS (As := [.int y1_41, .int y3_41]) (rest := [.int y2_41]) ⟨hx, hb, hml, hown, ht0⟩ (kX9_hasBit l D cy _ y1_41 y3_41 r54 hc54 _ rfl) (va_cwS 2 ht0 (gS wd894 wd895 wd744 wd896) rfl rfl rfl (by decide +kernel) ⟨Nat.le_of_ble_eq_true rfl, Nat.le_of_ble_eq_true rfl⟩) hK hN hP hD [] rfl (by decide) rfl hl.1 rfl (Nat.le_of_ble_eq_true rfl) dX9_blocked_54 ⟨Nat.zero_le _, Nat.zero_le _⟩) hP hD hS hA [] [0, 1, 2] rfl rfl (by decide) (by decide) [0, 1, 2] (by decide) rfl rfl (fun H locs hP hD hS => ?_)
        refine lv_if_eq (tgt := 78) hx hb dX9_blocked_57 (by decide) (fun c57 => ?_) (fun c57 => ?_)
        · have hok := k_pos c57 hok
          exact J78  H locs ls hP hD hS (lv_sub hl [0, 1, 3] rfl) hok
        · have hok := k_neg c57 hok
          refine lv_aload_n hx hb dX9_blocked_60 rfl (lv_at hl 0 rfl) ?_
          refine lv_aload_n hx hb dX9_blocked_61 rfl (lv_at hl 0 rfl) ?_
          refine va_get (D := D) (ci := 8) (v := .ref (qM 17)) (C := RX9) (T := TX9) (N := 29) hx hb ht0 niX9 hown hK hP 0 rfl rfl 17 (by decide) (ht0 _ wd858) (fun _ h9 => h9) rfl dX9_blocked_62 ?_
          refine lv_iload_n hx hb dX9_blocked_65 rfl (lv_at hl 3 rfl) ?_
          obtain ⟨r66, hc66, hok⟩ := k_bind hok
          refine kCi (wc := (wX9_isCome cy aM (qM 17) qM 9 vM_st vM_41 vM_r)) (wc2 := (wX9_isCome cy aM (qM 17) qM 9 vM_st vM_41 vM_r)) (wr := []) (ws2 := (wX9_blocked cy aM qM vM_41 vM_r vM_st)) (kRunV (As := [.ref (qM 17), .int y3_41]) (rest := [.int y2_41]) ⟨hx, hb, hml, hown, ht0⟩ (kX9_isCome l D cy _ aM (qM 17) qM 9 vM_st vM_41 vM_r y3_41 r66 hc66 _ rfl) (cwV 2 ht0 (gV wd897 wd898 wd899 wd744 wd900) rfl rfl rfl (by decide +kernel) ⟨Nat.le_of_ble_eq_true rfl, Nat.le_of_ble_eq_true rfl⟩) hK hN hP hD [2, 0, 1] rfl (by decide) 0 8 rfl rfl rfl hl.1 rfl (Nat.le_of_ble_eq_true rfl) dX9_blocked_66 ⟨Nat.zero_le _, Nat.zero_le _⟩) hP hD hS hA [2, 0, 1] [] rfl rfl (by decide) (by decide) [1, 2, 0] (by decide) rfl rfl (fun H locs hP hD hS => ?_)
          refine lv_if_eq (tgt := 78) hx hb dX9_blocked_69 (by decide) (fun c69 => ?_) (fun c69 => ?_)
          · have hok := k_pos c69 hok
            exact J78  H locs ls hP hD hS (lv_sub hl [0, 1, 3] rfl) hok
          · have hok := k_neg c69 hok
            refine lv_iconst (v := 1) hx hb dX9_blocked_72 (by decide) ?_
            refine lv_iload_n hx hb dX9_blocked_73 rfl (lv_at hl 3 rfl) ?_
            refine lv_ishl hx hb dX9_blocked_74 ?_
            refine lv_goto (tgt := 79) hx hb dX9_blocked_75 (by decide) ?_
            exact J79 (isl (1 : Int32) y3_41) H locs ls hP hD hS (lv_sub hl [0, 1, 3] rfl) hok
  unfold fX9_blocked at hok
  obtain ⟨H, hH⟩ : ∃ H, H = s.heap := ⟨_, rfl⟩
  obtain ⟨locs, hlc⟩ : ∃ x : List Loc, x = [] := ⟨_, rfl⟩
  have hP : va_P D vwCl (wX9_blocked cy aM qM vM vM_r vM_st) H := by rw [hH]; exact hP
  have hS : va_S A s.heap H locs := by rw [hH, hlc]; exact hS
  rw [show W p l e _ s m _ below meth c s.heap [] = W p l e _ s m _ below meth c H locs from by rw [hH, hlc]]
  refine lv_aload_n hx hb dX9_blocked_0 rfl (lv_at hl 0 rfl) ?_
  obtain ⟨vM_1, hc1, hok⟩ := k_bind hok
  refine kCv (wc := (wX9_good cy aM qM vM)) (wc2 := (wX9_good cy aM qM vM_1)) (wr := [(qM 15, rI cy 224 vM_r), (qM 17, rI cy 9 vM_st)]) (ws2 := (wX9_blocked cy aM qM vM_1 vM_r vM_st)) (kRunV (As := []) (rest := []) ⟨hx, hb, hml, hown, ht0⟩ (kX9_good l D cy _ aM qM vM vM_1 hc1 _ rfl) (cwV 0 ht0 (gV wd870 wd871 wd872 wd744 wd873) rfl rfl rfl (by decide +kernel) ⟨Nat.le_of_ble_eq_true rfl, Nat.le_of_ble_eq_true rfl⟩) hK hN hP hD [0] rfl (by decide) 0 8 rfl rfl rfl hl.1 rfl (Nat.le_of_ble_eq_true rfl) dX9_blocked_1 ⟨Nat.zero_le _, Nat.zero_le _⟩) hP hD hS hA [0] [1, 2] rfl rfl (by decide) (by decide) [2, 0, 1] (by decide) rfl rfl (fun H locs hP hD hS => ?_)
  refine lv_aload_n hx hb dX9_blocked_4 rfl (lv_at hl 0 rfl) ?_
  refine va_get (D := D) (ci := 8) (v := .int (vM_1 14)) (C := RX9) (T := TX9) (N := 29) hx hb ht0 niX9 hown hK hP 0 rfl rfl 14 (by decide) (ht0 _ wd855) (fun _ h9 => h9) rfl dX9_blocked_5 ?_
  refine lv_if_ne (tgt := 17) hx hb dX9_blocked_8 (by decide) (fun c8 => ?_) (fun c8 => ?_)
  · have hok := k_neg c8 hok
    refine lv_aload_n hx hb dX9_blocked_17 rfl (lv_at hl 0 rfl) ?_
    refine lv_aload_n hx hb dX9_blocked_18 rfl (lv_at hl 0 rfl) ?_
    refine va_get (D := D) (ci := 8) (v := .ref (qM 17)) (C := RX9) (T := TX9) (N := 29) hx hb ht0 niX9 hown hK hP 0 rfl rfl 17 (by decide) (ht0 _ wd858) (fun _ h9 => h9) rfl dX9_blocked_19 ?_
    obtain ⟨r22, hc22, hok⟩ := k_bind hok
    refine kCi (wc := (wX9_fixed cy aM (qM 17) qM vM_1 vM_r 9 vM_st)) (wc2 := (wX9_fixed cy aM (qM 17) qM vM_1 vM_r 9 vM_st)) (wr := []) (ws2 := (wX9_blocked cy aM qM vM_1 vM_r vM_st)) (kRunV (As := [.ref (qM 17)]) (rest := []) ⟨hx, hb, hml, hown, ht0⟩ (kX9_fixed l D cy _ aM (qM 17) qM vM_1 vM_r 9 vM_st r22 hc22 _ rfl) (cwV 1 ht0 (gV wd905 wd906 wd907 wd744 wd908) rfl rfl rfl (by decide +kernel) ⟨Nat.le_of_ble_eq_true rfl, Nat.le_of_ble_eq_true rfl⟩) hK hN hP hD [0, 1, 2] rfl (by decide) 0 8 rfl rfl rfl hl.1 rfl (Nat.le_of_ble_eq_true rfl) dX9_blocked_22 ⟨Nat.zero_le _, Nat.zero_le _⟩) hP hD hS hA [0, 1, 2] [] rfl rfl (by decide) (by decide) [0, 1, 2] (by decide) rfl rfl (fun H locs hP hD hS => ?_)
    refine lv_aload_n hx hb dX9_blocked_25 rfl (lv_at hl 0 rfl) ?_
    refine lv_aload_n hx hb dX9_blocked_26 rfl (lv_at hl 0 rfl) ?_
    refine va_get (D := D) (ci := 8) (v := .ref (qM 17)) (C := RX9) (T := TX9) (N := 29) hx hb ht0 niX9 hown hK hP 0 rfl rfl 17 (by decide) (ht0 _ wd858) (fun _ h9 => h9) rfl dX9_blocked_27 ?_
    obtain ⟨r30, hc30, hok⟩ := k_bind hok
    refine kCi (wc := (wX9_going cy aM (qM 17) qM vM_1 vM_r 9 vM_st)) (wc2 := (wX9_going cy aM (qM 17) qM vM_1 vM_r 9 vM_st)) (wr := []) (ws2 := (wX9_blocked cy aM qM vM_1 vM_r vM_st)) (kRunV (As := [.ref (qM 17)]) (rest := [.int r22]) ⟨hx, hb, hml, hown, ht0⟩ (kX9_going l D cy _ aM (qM 17) qM vM_1 vM_r 9 vM_st r30 hc30 _ rfl) (cwV 1 ht0 (gV wd913 wd914 wd915 wd744 wd916) rfl rfl rfl (by decide +kernel) ⟨Nat.le_of_ble_eq_true rfl, Nat.le_of_ble_eq_true rfl⟩) hK hN hP hD [0, 1, 2] rfl (by decide) 0 8 rfl rfl rfl hl.1 rfl (Nat.le_of_ble_eq_true rfl) dX9_blocked_30 ⟨Nat.zero_le _, Nat.zero_le _⟩) hP hD hS hA [0, 1, 2] [] rfl rfl (by decide) (by decide) [0, 1, 2] (by decide) rfl rfl (fun H locs hP hD hS => ?_)
    refine lv_ior hx hb dX9_blocked_33 ?_
    refine lv_iconst (v := -1) hx hb dX9_blocked_34 (by decide) ?_
    refine lv_ixor hx hb dX9_blocked_35 ?_
    refine lv_istore_n (lv' := [(1, .int ((r22 ||| r30) ^^^ (-1 : Int32))), (0, .ref aM)]) hx hb dX9_blocked_36 rfl hl (by decide) rfl (fun ls hl => ?_)
    refine lv_iconst (v := 0) hx hb dX9_blocked_37 (by decide) ?_
    refine lv_istore_n (lv' := [(2, .int 0), (1, .int ((r22 ||| r30) ^^^ (-1 : Int32))), (0, .ref aM)]) hx hb dX9_blocked_38 rfl hl (by decide) rfl (fun ls hl => ?_)
    refine lv_iconst (v := 0) hx hb dX9_blocked_39 (by decide) ?_
    refine lv_istore_n (lv' := [(3, .int 0), (2, .int 0), (1, .int ((r22 ||| r30) ^^^ (-1 : Int32))), (0, .ref aM)]) hx hb dX9_blocked_40 rfl hl (by decide) rfl (fun ls hl => ?_)
    exact L41 5000 ((r22 ||| r30) ^^^ (-1 : Int32)) (0 : Int32) (0 : Int32) vM_1 H locs ls hP hD hS (lv_sub hl [3, 2, 1, 0] rfl) hok
  · have hok := k_pos c8 hok
    refine lv_aload_n hx hb dX9_blocked_11 rfl (lv_at hl 0 rfl) ?_
    refine lv_iconst (v := 1) hx hb dX9_blocked_12 (by decide) ?_
    obtain ⟨⟨r13, vM_13⟩, hc13, hok⟩ := k_bind hok
    try dsimp only at hok
    refine kCi (wc := (wX9_no cy aM qM vM_1)) (wc2 := (wX9_no cy aM qM vM_13)) (wr := [(qM 15, rI cy 224 vM_r), (qM 17, rI cy 9 vM_st)]) (ws2 := (wX9_blocked cy aM qM vM_13 vM_r vM_st)) (kRunV (As := [.int 1]) (rest := []) ⟨hx, hb, hml, hown, ht0⟩ (kX9_no l D cy _ aM qM vM_1 (1 : Int32) r13 vM_13 hc13 _ rfl) (cwV 1 ht0 (gV wd862 wd863 wd864 wd744 wd865) rfl rfl rfl (by decide +kernel) ⟨Nat.le_of_ble_eq_true rfl, Nat.le_of_ble_eq_true rfl⟩) hK hN hP hD [0] rfl (by decide) 0 8 rfl rfl rfl hl.1 rfl (Nat.le_of_ble_eq_true rfl) dX9_blocked_13 ⟨Nat.zero_le _, Nat.zero_le _⟩) hP hD hS hA [0] [1, 2] rfl rfl (by decide) (by decide) [2, 0, 1] (by decide) rfl rfl (fun H locs hP hD hS => ?_)
    cases hok
    subst hQe; exact W.iret hx hb hr (fun t ht hW => ⟨⟨_, (), rfl, rfl, by rw [ht]; exact hP, va_K.moved hW.alike hK, hD⟩, hS.F ht⟩) hS.2.2 dX9_blocked_16
def wsX9_meeting : List Cond := .code yX9_meeting cX9_meeting 3 (some .int) :: W0
abbrev wX9_meeting (cy : Nat → ClassId) (aM : Nat) (qM : Nat → Nat) (vM : Nat → Int32) (vM_r : Nat → Int32) (vM_st : Nat → Int32) : va_W := [(aM, oX9 vM qM), (qM 15, rI cy 224 vM_r), (qM 17, rI cy 9 vM_st)]
set_option maxHeartbeats 4000000 in
set_option maxRecDepth 100000 in
theorem kX9_meeting (l : Launch) (D : va_G) (cy : Nat → ClassId) (sz : Nat) (aM : Nat) (qM : Nat → Nat) (vM : Nat → Int32) (vM_r : Nat → Int32) (vM_st : Nat → Int32) (zr : Int32) (z_vM : Nat → Int32) (hok : fX9_meeting vM vM_r vM_st = some (zr, z_vM)) (A : Nat → Prop) (hAe : va_A (wX9_meeting cy aM qM vM vM_r vM_st) sz = A) : Met l yX9_meeting wsX9_meeting ({ frames := 1, cells := 0, slots := 0, locals := 23 } : Room) (kPre D cy [.ref aM] (wX9_meeting cy aM qM vM vM_r vM_st) sz) (kQi D cy zr A (wX9_meeting cy aM qM z_vM vM_r vM_st)) 0 0 A := by
  refine Met.ofW (cc := cX9_meeting) (maxL := 3) (ret := (some .int)) (by decide) rfl ?_
  intro p e s m args below meth c s₁ B hml hv
  obtain ⟨rfl, hsz, hP, hK, hD0, hN⟩ := hv
  have hx := B.exec
  have hb := B.bytes
  have hr := B.returns
  have ht0 : ∀ w ∈ W0, w.before _ s = true := fun w h => atoms_spec (ws := wsX9_meeting) B.pre w (List.mem_cons_of_mem _ h)
  have hown : s.vm.findClass RX9 = some m.cls := findClass_of_methodNamed B.named
  have hlocks := B.notSynchronized
  subst hsz
  have hD : va_D A (wX9_meeting cy aM qM vM vM_r vM_st) := by rw [← hAe]; exact hD0.self
  have hA : ∀ q : Nat, s.heap.size ≤ q → A q := fun q h => by rw [← hAe]; exact Or.inr h
  have hS : va_S A s.heap s.heap [] := va_S.rf
  have hl := lv_entry ([.ref aM]) (n := 3) (Nat.le_of_ble_eq_true rfl)
  rw [lg_entry_eq]
  generalize (lg_sl ([.ref aM]) ++ List.replicate (3 - (lg_sl ([.ref aM])).length) Slot.unset).toArray = ls at hl ⊢
  have hl : lv_has ls 3 [(0, .ref aM)] := hl
  generalize hQe : MQ below (kQi D cy zr A (wX9_meeting cy aM qM z_vM vM_r vM_st)) ([.ref aM] : List Value).toArray s 0 0 A = Q
  have L19 : ∀ (fuel : Nat) (y1_19 : Int32) (vM_19 : Nat → Int32), ∀ (H : Heap) (locs : List Loc) (ls : Array Slot), va_P D vwCl (wX9_meeting cy aM qM vM_19 vM_r vM_st) H → va_D A (wX9_meeting cy aM qM vM_19 vM_r vM_st) → va_S A s.heap H locs → lv_has ls 3 [(0, .ref aM), (1, .int y1_19)] → lp (fX9_meeting_B19 vM_r vM_st) fuel (y1_19, vM_19) = some (zr, z_vM) → W p l e ({ frames := 1, cells := 0, slots := 0, locals := 23 } : Room) s m ([.ref aM] : List Value).toArray below meth c H locs 0 0 Q (F0 m 19 ls []) := by
    intro fuel
    induction fuel with
    | zero => intro y1_19 vM_19 H locs ls hP hD hS hl hok; exact (lp_0 hok).elim
    | succ fuel ih19 =>
      intro y1_19 vM_19 H locs ls hP hD hS hl hok
      obtain ⟨y19, hok, hL19, hR19⟩ := lp_step hok
      have L33 : ∀ (fuel : Nat) (y2_33 : Int32), ∀ (H : Heap) (locs : List Loc) (ls : Array Slot), va_P D vwCl (wX9_meeting cy aM qM vM_19 vM_r vM_st) H → va_D A (wX9_meeting cy aM qM vM_19 vM_r vM_st) → va_S A s.heap H locs → lv_has ls 3 [(0, .ref aM), (1, .int y1_19), (2, .int y2_33)] → lp (fX9_meeting_B33 vM_r vM_st y1_19 vM_19) fuel y2_33 = some y19 → W p l e ({ frames := 1, cells := 0, slots := 0, locals := 23 } : Room) s m ([.ref aM] : List Value).toArray below meth c H locs 0 0 Q (F0 m 33 ls []) := by
        intro fuel
        induction fuel with
        | zero => intro y2_33 H locs ls hP hD hS hl hok; exact (lp_0 hok).elim
        | succ fuel ih33 =>
          intro y2_33 H locs ls hP hD hS hl hok
          obtain ⟨y33, hok, hL33, hR33⟩ := lp_step hok
          unfold fX9_meeting_B33 at hok
          refine lv_iload_n hx hb dX9_meeting_33 rfl (lv_at hl 2 rfl) ?_
          refine lv_aload_n hx hb dX9_meeting_34 rfl (lv_at hl 0 rfl) ?_
          refine va_get (D := D) (ci := 8) (v := .ref (qM 15)) (C := RX9) (T := TX9) (N := 29) hx hb ht0 niX9 hown hK hP 0 rfl rfl 15 (by decide) (ht0 _ wd854) (fun _ h9 => h9) rfl dX9_meeting_35 ?_
          refine lv_iconst (v := 3) hx hb dX9_meeting_38 (by decide) ?_
          obtain ⟨g39, hok⟩ := gd_some hok
          refine va_iald hx hb hK hP 1 0 rfl rfl (okI_in g39) dX9_meeting_39 ?_
          refine lv_icmp_ge (tgt := 75) hx hb dX9_meeting_40 (by decide) (fun c40 => ?_) (fun c40 => ?_)
          · have hok := k_pos c40 hok
            obtain ⟨e33, hok, he33⟩ := ex_some hok
            have hok := hok.trans (congrArg some (hL33 _ he33))
            refine lv_iinc (v := (y1_19 + 1)) (lv' := [(1, .int (y1_19 + 1)), (0, .ref aM), (2, .int y2_33)]) hx hb dX9_meeting_75 hl (k := 1) rfl (by first | rfl | decide) (by decide) rfl (fun ls hl => ?_)
            refine lv_goto (tgt := 19) hx hb dX9_meeting_78 (by decide) ?_
            exact ih19 (y1_19 + 1) vM_19 H locs ls hP hD hS (lv_sub hl [1, 0] rfl) (hR19 _ (Option.some.inj hok).symm)
          · have hok := k_neg c40 hok
            refine lv_aload_n hx hb dX9_meeting_43 rfl (lv_at hl 0 rfl) ?_
            refine lv_aload_n hx hb dX9_meeting_44 rfl (lv_at hl 0 rfl) ?_
            refine va_get (D := D) (ci := 8) (v := .ref (qM 17)) (C := RX9) (T := TX9) (N := 29) hx hb ht0 niX9 hown hK hP 0 rfl rfl 17 (by decide) (ht0 _ wd858) (fun _ h9 => h9) rfl dX9_meeting_45 ?_
            refine lv_iload_n hx hb dX9_meeting_48 rfl (lv_at hl 1 rfl) ?_
            obtain ⟨g49, hok⟩ := gd_some hok
            refine va_iald hx hb hK hP 2 0 rfl rfl (okI_in g49) dX9_meeting_49 ?_
            refine lv_aload_n hx hb dX9_meeting_50 rfl (lv_at hl 0 rfl) ?_
            refine va_get (D := D) (ci := 8) (v := .ref (qM 17)) (C := RX9) (T := TX9) (N := 29) hx hb ht0 niX9 hown hK hP 0 rfl rfl 17 (by decide) (ht0 _ wd858) (fun _ h9 => h9) rfl dX9_meeting_51 ?_
            refine lv_iload_n hx hb dX9_meeting_54 rfl (lv_at hl 2 rfl) ?_
            obtain ⟨g55, hok⟩ := gd_some hok
            refine va_iald hx hb hK hP 2 0 rfl rfl (okI_in g55) dX9_meeting_55 ?_
            obtain ⟨r56, hc56, hok⟩ := k_bind hok
            refine kCi (wc := (wX9_areDoored cy aM qM vM_19 vM_r)) (wc2 := (wX9_areDoored cy aM qM vM_19 vM_r)) (wr := [(qM 17, rI cy 9 vM_st)]) (ws2 := (wX9_meeting cy aM qM vM_19 vM_r vM_st)) (kRunV (As := [.int (vM_st y1_19.toNatClampNeg), .int (vM_st y2_33.toNatClampNeg)]) (rest := []) ⟨hx, hb, hml, hown, ht0⟩ (kX9_areDoored l D cy _ aM qM vM_19 vM_r (vM_st y1_19.toNatClampNeg) (vM_st y2_33.toNatClampNeg) r56 hc56 _ rfl) (cwV 2 ht0 (gV wd933 wd934 wd935 wd744 wd936) rfl rfl rfl (by decide +kernel) ⟨Nat.le_of_ble_eq_true rfl, Nat.le_of_ble_eq_true rfl⟩) hK hN hP hD [0, 1] rfl (by decide) 0 8 rfl rfl rfl hl.1 rfl (Nat.le_of_ble_eq_true rfl) dX9_meeting_56 ⟨Nat.zero_le _, Nat.zero_le _⟩) hP hD hS hA [0, 1] [2] rfl rfl (by decide) (by decide) [1, 2, 0] (by decide) rfl rfl (fun H locs hP hD hS => ?_)
            refine lv_if_eq (tgt := 69) hx hb dX9_meeting_59 (by decide) (fun c59 => ?_) (fun c59 => ?_)
            · have hok := k_pos c59 hok
              refine lv_iinc (v := (y2_33 + 1)) (lv' := [(2, .int (y2_33 + 1)), (0, .ref aM), (1, .int y1_19)]) hx hb dX9_meeting_69 hl (k := 2) rfl (by first | rfl | decide) (by decide) rfl (fun ls hl => ?_)
              refine lv_goto (tgt := 33) hx hb dX9_meeting_72 (by decide) ?_
              exact ih33 (y2_33 + 1) H locs ls hP hD hS (lv_sub hl [1, 2, 0] rfl) (hR33 _ (Option.some.inj hok).symm)
            · have hok := k_neg c59 hok
              obtain ⟨e33, hok, he33⟩ := ex_some hok
              have hok := hok.trans (congrArg some (hL33 _ he33))
              obtain ⟨e19, hok, he19⟩ := ex_some hok
              have hok := hok.trans (congrArg some (hL19 _ he19))
              refine lv_bipush (v := 10) hx hb dX9_meeting_62 (by decide) ?_
              refine lv_iload_n hx hb dX9_meeting_64 rfl (lv_at hl 1 rfl) ?_
              refine lv_imul hx hb dX9_meeting_65 ?_
              refine lv_iload_n hx hb dX9_meeting_66 rfl (lv_at hl 2 rfl) ?_
              refine lv_iadd hx hb dX9_meeting_67 ?_
              cases hok
              subst hQe; exact W.iret hx hb hr (fun t ht hW => ⟨⟨_, (), rfl, rfl, by rw [ht]; exact hP, va_K.moved hW.alike hK, hD⟩, hS.F ht⟩) hS.2.2 dX9_meeting_68
      unfold fX9_meeting_B19 at hok
      try dsimp only at hok
      refine lv_iload_n hx hb dX9_meeting_19 rfl (lv_at hl 1 rfl) ?_
      refine lv_aload_n hx hb dX9_meeting_20 rfl (lv_at hl 0 rfl) ?_
      refine va_get (D := D) (ci := 8) (v := .ref (qM 15)) (C := RX9) (T := TX9) (N := 29) hx hb ht0 niX9 hown hK hP 0 rfl rfl 15 (by decide) (ht0 _ wd854) (fun _ h9 => h9) rfl dX9_meeting_21 ?_
      refine lv_iconst (v := 3) hx hb dX9_meeting_24 (by decide) ?_
      obtain ⟨g25, hok⟩ := gd_some hok
      refine va_iald hx hb hK hP 1 0 rfl rfl (okI_in g25) dX9_meeting_25 ?_
      refine lv_icmp_ge (tgt := 81) hx hb dX9_meeting_26 (by decide) (fun c26 => ?_) (fun c26 => ?_)
      · have hok := k_pos c26 hok
        obtain ⟨e19, hok, he19⟩ := ex_some hok
        have hok := hok.trans (congrArg some (hL19 _ he19))
        refine lv_bipush (v := -2) hx hb dX9_meeting_81 (by decide) ?_
        cases hok
        subst hQe; exact W.iret hx hb hr (fun t ht hW => ⟨⟨_, (), rfl, rfl, by rw [ht]; exact hP, va_K.moved hW.alike hK, hD⟩, hS.F ht⟩) hS.2.2 dX9_meeting_83
      · have hok := k_neg c26 hok
        refine lv_iload_n hx hb dX9_meeting_29 rfl (lv_at hl 1 rfl) ?_
        refine lv_iconst (v := 1) hx hb dX9_meeting_30 (by decide) ?_
        refine lv_iadd hx hb dX9_meeting_31 ?_
        refine lv_istore_n (lv' := [(2, .int (y1_19 + (1 : Int32))), (0, .ref aM), (1, .int y1_19)]) hx hb dX9_meeting_32 rfl hl (by decide) rfl (fun ls hl => ?_)
        exact L33 5000 (y1_19 + (1 : Int32)) H locs ls hP hD hS (lv_sub hl [1, 2, 0] rfl) hok
  unfold fX9_meeting at hok
  obtain ⟨H, hH⟩ : ∃ H, H = s.heap := ⟨_, rfl⟩
  obtain ⟨locs, hlc⟩ : ∃ x : List Loc, x = [] := ⟨_, rfl⟩
  have hP : va_P D vwCl (wX9_meeting cy aM qM vM vM_r vM_st) H := by rw [hH]; exact hP
  have hS : va_S A s.heap H locs := by rw [hH, hlc]; exact hS
  rw [show W p l e _ s m _ below meth c s.heap [] = W p l e _ s m _ below meth c H locs from by rw [hH, hlc]]
  refine lv_aload_n hx hb dX9_meeting_0 rfl (lv_at hl 0 rfl) ?_
  obtain ⟨vM_1, hc1, hok⟩ := k_bind hok
  refine kCv (wc := (wX9_good cy aM qM vM)) (wc2 := (wX9_good cy aM qM vM_1)) (wr := [(qM 15, rI cy 224 vM_r), (qM 17, rI cy 9 vM_st)]) (ws2 := (wX9_meeting cy aM qM vM_1 vM_r vM_st)) (kRunV (As := []) (rest := []) ⟨hx, hb, hml, hown, ht0⟩ (kX9_good l D cy _ aM qM vM vM_1 hc1 _ rfl) (cwV 0 ht0 (gV wd870 wd871 wd872 wd744 wd873) rfl rfl rfl (by decide +kernel) ⟨Nat.le_of_ble_eq_true rfl, Nat.le_of_ble_eq_true rfl⟩) hK hN hP hD [0] rfl (by decide) 0 8 rfl rfl rfl hl.1 rfl (Nat.le_of_ble_eq_true rfl) dX9_meeting_1 ⟨Nat.zero_le _, Nat.zero_le _⟩) hP hD hS hA [0] [1, 2] rfl rfl (by decide) (by decide) [2, 0, 1] (by decide) rfl rfl (fun H locs hP hD hS => ?_)
  refine lv_aload_n hx hb dX9_meeting_4 rfl (lv_at hl 0 rfl) ?_
  refine va_get (D := D) (ci := 8) (v := .int (vM_1 14)) (C := RX9) (T := TX9) (N := 29) hx hb ht0 niX9 hown hK hP 0 rfl rfl 14 (by decide) (ht0 _ wd855) (fun _ h9 => h9) rfl dX9_meeting_5 ?_
  refine lv_if_ne (tgt := 17) hx hb dX9_meeting_8 (by decide) (fun c8 => ?_) (fun c8 => ?_)
  · have hok := k_neg c8 hok
    refine lv_iconst (v := 0) hx hb dX9_meeting_17 (by decide) ?_
    refine lv_istore_n (lv' := [(1, .int 0), (0, .ref aM)]) hx hb dX9_meeting_18 rfl hl (by decide) rfl (fun ls hl => ?_)
    exact L19 5000 (0 : Int32) vM_1 H locs ls hP hD hS (lv_sub hl [1, 0] rfl) hok
  · have hok := k_pos c8 hok
    refine lv_aload_n hx hb dX9_meeting_11 rfl (lv_at hl 0 rfl) ?_
    refine lv_iconst (v := 1) hx hb dX9_meeting_12 (by decide) ?_
    obtain ⟨⟨r13, vM_13⟩, hc13, hok⟩ := k_bind hok
    try dsimp only at hok
    refine kCi (wc := (wX9_no cy aM qM vM_1)) (wc2 := (wX9_no cy aM qM vM_13)) (wr := [(qM 15, rI cy 224 vM_r), (qM 17, rI cy 9 vM_st)]) (ws2 := (wX9_meeting cy aM qM vM_13 vM_r vM_st)) (kRunV (As := [.int 1]) (rest := []) ⟨hx, hb, hml, hown, ht0⟩ (kX9_no l D cy _ aM qM vM_1 (1 : Int32) r13 vM_13 hc13 _ rfl) (cwV 1 ht0 (gV wd862 wd863 wd864 wd744 wd865) rfl rfl rfl (by decide +kernel) ⟨Nat.le_of_ble_eq_true rfl, Nat.le_of_ble_eq_true rfl⟩) hK hN hP hD [0] rfl (by decide) 0 8 rfl rfl rfl hl.1 rfl (Nat.le_of_ble_eq_true rfl) dX9_meeting_13 ⟨Nat.zero_le _, Nat.zero_le _⟩) hP hD hS hA [0] [1, 2] rfl rfl (by decide) (by decide) [2, 0, 1] (by decide) rfl rfl (fun H locs hP hD hS => ?_)
    cases hok
    subst hQe; exact W.iret hx hb hr (fun t ht hW => ⟨⟨_, (), rfl, rfl, by rw [ht]; exact hP, va_K.moved hW.alike hK, hD⟩, hS.F ht⟩) hS.2.2 dX9_meeting_16
def wsX9_why : List Cond := .code yX9_why cX9_why 4 (some .int) :: W0
abbrev wX9_why (cy : Nat → ClassId) (aM : Nat) : va_W := []
set_option maxHeartbeats 4000000 in
set_option maxRecDepth 100000 in
theorem kX9_why (l : Launch) (D : va_G) (cy : Nat → ClassId) (sz : Nat) (aM : Nat) (x1 : Int32) (x2 : Int32) (x3 : Int32) (zr : Int32) (hok : fX9_why x1 x2 x3 = some zr) (A : Nat → Prop) (hAe : va_A (wX9_why cy aM) sz = A) : Met l yX9_why wsX9_why ({ frames := 1, cells := 0, slots := 0, locals := 22 } : Room) (kPre D cy [.ref aM, .int x1, .int x2, .int x3] (wX9_why cy aM) sz) (kQi D cy zr A (wX9_why cy aM)) 0 0 A := by
  refine Met.ofW (cc := cX9_why) (maxL := 4) (ret := (some .int)) (by decide) rfl ?_
  intro p e s m args below meth c s₁ B hml hv
  obtain ⟨rfl, hsz, hP, hK, hD0, hN⟩ := hv
  have hx := B.exec
  have hb := B.bytes
  have hr := B.returns
  have ht0 : ∀ w ∈ W0, w.before _ s = true := fun w h => atoms_spec (ws := wsX9_why) B.pre w (List.mem_cons_of_mem _ h)
  have hown : s.vm.findClass RX9 = some m.cls := findClass_of_methodNamed B.named
  have hlocks := B.notSynchronized
  subst hsz
  have hD : va_D A (wX9_why cy aM) := by rw [← hAe]; exact hD0.self
  have hA : ∀ q : Nat, s.heap.size ≤ q → A q := fun q h => by rw [← hAe]; exact Or.inr h
  have hS : va_S A s.heap s.heap [] := va_S.rf
  have hl := lv_entry ([.ref aM, .int x1, .int x2, .int x3]) (n := 4) (Nat.le_of_ble_eq_true rfl)
  rw [lg_entry_eq]
  generalize (lg_sl ([.ref aM, .int x1, .int x2, .int x3]) ++ List.replicate (4 - (lg_sl ([.ref aM, .int x1, .int x2, .int x3])).length) Slot.unset).toArray = ls at hl ⊢
  have hl : lv_has ls 4 [(0, .ref aM), (1, .int x1), (2, .int x2), (3, .int x3)] := hl
  generalize hQe : MQ below (kQi D cy zr A (wX9_why cy aM)) ([.ref aM, .int x1, .int x2, .int x3] : List Value).toArray s 0 0 A = Q
  have J22 : ∀ (t0_22 : Int32), ∀ (H : Heap) (locs : List Loc) (ls : Array Slot), va_P D vwCl (wX9_why cy aM) H → va_D A (wX9_why cy aM) → va_S A s.heap H locs → lv_has ls 4 [] → fX9_why_J22 t0_22 = some zr → W p l e ({ frames := 1, cells := 0, slots := 0, locals := 22 } : Room) s m ([.ref aM, .int x1, .int x2, .int x3] : List Value).toArray below meth c H locs 0 0 Q (F0 m 22 ls [.int t0_22]) := by
    intro t0_22 H locs ls hP hD hS hl hok
    unfold fX9_why_J22 at hok
    cases hok
    subst hQe; exact W.iret hx hb hr (fun t ht hW => ⟨⟨_, (), rfl, rfl, by rw [ht]; exact hP, va_K.moved hW.alike hK, hD⟩, hS.F ht⟩) hS.2.2 dX9_why_22
  unfold fX9_why at hok
  obtain ⟨H, hH⟩ : ∃ H, H = s.heap := ⟨_, rfl⟩
  obtain ⟨locs, hlc⟩ : ∃ x : List Loc, x = [] := ⟨_, rfl⟩
  have hP : va_P D vwCl (wX9_why cy aM) H := by rw [hH]; exact hP
  have hS : va_S A s.heap H locs := by rw [hH, hlc]; exact hS
  rw [show W p l e _ s m _ below meth c s.heap [] = W p l e _ s m _ below meth c H locs from by rw [hH, hlc]]
  refine lv_iload_n hx hb dX9_why_0 rfl (lv_at hl 1 rfl) ?_
  refine lv_if_ne (tgt := 8) hx hb dX9_why_1 (by decide) (fun c1 => ?_) (fun c1 => ?_)
  · have hok := k_neg c1 hok
    refine lv_iload_n hx hb dX9_why_8 rfl (lv_at hl 2 rfl) ?_
    refine lv_iconst (v := 0) hx hb dX9_why_9 (by decide) ?_
    refine lv_iload_n hx hb dX9_why_10 rfl (lv_at hl 3 rfl) ?_
    obtain ⟨r11, hc11, hok⟩ := k_bind hok
    refine kCi (wc := (wX9_in cy )) (wc2 := (wX9_in cy )) (wr := []) (ws2 := (wX9_why cy aM)) (kRunS (As := [.int x2, .int 0, .int x3]) (rest := []) ⟨hx, hb, hml, hown, ht0⟩ (kX9_in l D cy _ x2 (0 : Int32) x3 r11 hc11 _ rfl) (va_cwS 3 ht0 (gS wd787 wd788 wd744 wd789) rfl rfl rfl (by decide +kernel) ⟨Nat.le_of_ble_eq_true rfl, Nat.le_of_ble_eq_true rfl⟩) hK hN hP hD [] rfl (by decide) rfl hl.1 rfl (Nat.le_of_ble_eq_true rfl) dX9_why_11 ⟨Nat.zero_le _, Nat.zero_le _⟩) hP hD hS hA [] [] rfl rfl (by decide) (by decide) [] (by decide) rfl rfl (fun H locs hP hD hS => ?_)
    refine lv_if_eq (tgt := 21) hx hb dX9_why_14 (by decide) (fun c14 => ?_) (fun c14 => ?_)
    · have hok := k_pos c14 hok
      refine lv_iconst (v := 2) hx hb dX9_why_21 (by decide) ?_
      exact J22 (2 : Int32) H locs ls hP hD hS (lv_sub hl [] rfl) hok
    · have hok := k_neg c14 hok
      refine lv_iconst (v := 0) hx hb dX9_why_17 (by decide) ?_
      refine lv_goto (tgt := 22) hx hb dX9_why_18 (by decide) ?_
      exact J22 (0 : Int32) H locs ls hP hD hS (lv_sub hl [] rfl) hok
  · have hok := k_pos c1 hok
    refine lv_iconst (v := 1) hx hb dX9_why_4 (by decide) ?_
    refine lv_goto (tgt := 22) hx hb dX9_why_5 (by decide) ?_
    exact J22 (1 : Int32) H locs ls hP hD hS (lv_sub hl [] rfl) hok
def wsX9_coded : List Cond := .code yX9_coded cX9_coded 1 (some .int) :: W0
abbrev wX9_coded (cy : Nat → ClassId)  : va_W := []
set_option maxHeartbeats 4000000 in
set_option maxRecDepth 100000 in
theorem kX9_coded (l : Launch) (D : va_G) (cy : Nat → ClassId) (sz : Nat) (x0 : Int32) (zr : Int32) (hok : fX9_coded x0 = some zr) (A : Nat → Prop) (hAe : va_A (wX9_coded cy ) sz = A) : Met l yX9_coded wsX9_coded ({ frames := 0, cells := 0, slots := 0, locals := 0 } : Room) (kPre D cy [.int x0] (wX9_coded cy ) sz) (kQi D cy zr A (wX9_coded cy )) 0 0 A := by
  refine Met.ofW (cc := cX9_coded) (maxL := 1) (ret := (some .int)) (by decide) rfl ?_
  intro p e s m args below meth c s₁ B hml hv
  obtain ⟨rfl, hsz, hP, hK, hD0, hN⟩ := hv
  have hx := B.exec
  have hb := B.bytes
  have hr := B.returns
  have ht0 : ∀ w ∈ W0, w.before _ s = true := fun w h => atoms_spec (ws := wsX9_coded) B.pre w (List.mem_cons_of_mem _ h)
  have hown : s.vm.findClass RX9 = some m.cls := findClass_of_methodNamed B.named
  have hlocks := B.notSynchronized
  subst hsz
  have hD : va_D A (wX9_coded cy ) := by rw [← hAe]; exact hD0.self
  have hA : ∀ q : Nat, s.heap.size ≤ q → A q := fun q h => by rw [← hAe]; exact Or.inr h
  have hS : va_S A s.heap s.heap [] := va_S.rf
  have hl := lv_entry ([.int x0]) (n := 1) (Nat.le_of_ble_eq_true rfl)
  rw [lg_entry_eq]
  generalize (lg_sl ([.int x0]) ++ List.replicate (1 - (lg_sl ([.int x0])).length) Slot.unset).toArray = ls at hl ⊢
  have hl : lv_has ls 1 [(0, .int x0)] := hl
  unfold fX9_coded at hok
  obtain ⟨H, hH⟩ : ∃ H, H = s.heap := ⟨_, rfl⟩
  obtain ⟨locs, hlc⟩ : ∃ x : List Loc, x = [] := ⟨_, rfl⟩
  have hP : va_P D vwCl (wX9_coded cy ) H := by rw [hH]; exact hP
  have hS : va_S A s.heap H locs := by rw [hH, hlc]; exact hS
  rw [show W p l e _ s m _ below meth c s.heap [] = W p l e _ s m _ below meth c H locs from by rw [hH, hlc]]
  refine lv_bipush (v := 10) hx hb dX9_coded_0 (by decide) ?_
  refine lv_iload_n hx hb dX9_coded_2 rfl (lv_at hl 0 rfl) ?_
  refine lv_bipush (v := 9) hx hb dX9_coded_3 (by decide) ?_
  refine lv_idiv hx hb dX9_coded_5 (by decide) ?_
  refine lv_imul hx hb dX9_coded_6 ?_
  refine lv_iload_n hx hb dX9_coded_7 rfl (lv_at hl 0 rfl) ?_
  refine lv_bipush (v := 9) hx hb dX9_coded_8 (by decide) ?_
  refine lv_irem hx hb dX9_coded_10 (by decide) ?_
  refine lv_iadd hx hb dX9_coded_11 ?_
  cases hok
  exact W.iret hx hb hr (fun t ht hW => ⟨⟨_, (), rfl, rfl, by rw [ht]; exact hP, va_K.moved hW.alike hK, hD⟩, hS.F ht⟩) hS.2.2 dX9_coded_12
def wsX9_behind : List Cond := .code yX9_behind cX9_behind 5 (some .int) :: W0
abbrev wX9_behind (cy : Nat → ClassId) (aM : Nat) (qM : Nat → Nat) (vM : Nat → Int32) (vM_r : Nat → Int32) (vM_st : Nat → Int32) (vM_trial : Nat → Int32) : va_W := [(aM, oX9 vM qM), (qM 15, rI cy 224 vM_r), (qM 17, rI cy 9 vM_st), (qM 22, rI cy 9 vM_trial)]
set_option maxHeartbeats 4000000 in
set_option maxRecDepth 100000 in
theorem kX9_behind (l : Launch) (D : va_G) (cy : Nat → ClassId) (sz : Nat) (aM : Nat) (qM : Nat → Nat) (vM : Nat → Int32) (vM_r : Nat → Int32) (vM_st : Nat → Int32) (vM_trial : Nat → Int32) (x1 : Int32) (x2 : Int32) (zr : Int32) (z_vM : Nat → Int32) (z_vM_trial : Nat → Int32) (hok : fX9_behind vM vM_r vM_st vM_trial x1 x2 = some (zr, z_vM, z_vM_trial)) (A : Nat → Prop) (hAe : va_A (wX9_behind cy aM qM vM vM_r vM_st vM_trial) sz = A) : Met l yX9_behind wsX9_behind ({ frames := 5, cells := 0, slots := 0, locals := 114 } : Room) (kPre D cy [.ref aM, .int x1, .int x2] (wX9_behind cy aM qM vM vM_r vM_st vM_trial) sz) (kQi D cy zr A (wX9_behind cy aM qM z_vM vM_r vM_st z_vM_trial)) 0 0 A := by
  refine Met.ofW (cc := cX9_behind) (maxL := 5) (ret := (some .int)) (by decide) rfl ?_
  intro p e s m args below meth c s₁ B hml hv
  obtain ⟨rfl, hsz, hP, hK, hD0, hN⟩ := hv
  have hx := B.exec
  have hb := B.bytes
  have hr := B.returns
  have ht0 : ∀ w ∈ W0, w.before _ s = true := fun w h => atoms_spec (ws := wsX9_behind) B.pre w (List.mem_cons_of_mem _ h)
  have hown : s.vm.findClass RX9 = some m.cls := findClass_of_methodNamed B.named
  have hlocks := B.notSynchronized
  subst hsz
  have hD : va_D A (wX9_behind cy aM qM vM vM_r vM_st vM_trial) := by rw [← hAe]; exact hD0.self
  have hA : ∀ q : Nat, s.heap.size ≤ q → A q := fun q h => by rw [← hAe]; exact Or.inr h
  have hS : va_S A s.heap s.heap [] := va_S.rf
  have hl := lv_entry ([.ref aM, .int x1, .int x2]) (n := 5) (Nat.le_of_ble_eq_true rfl)
  rw [lg_entry_eq]
  generalize (lg_sl ([.ref aM, .int x1, .int x2]) ++ List.replicate (5 - (lg_sl ([.ref aM, .int x1, .int x2])).length) Slot.unset).toArray = ls at hl ⊢
  have hl : lv_has ls 5 [(0, .ref aM), (1, .int x1), (2, .int x2)] := hl
  generalize hQe : MQ below (kQi D cy zr A (wX9_behind cy aM qM z_vM vM_r vM_st z_vM_trial)) ([.ref aM, .int x1, .int x2] : List Value).toArray s 0 0 A = Q
  have L35 : ∀ (fuel : Nat) (y4_35 : Int32) (vM_trial_35 : Nat → Int32) (vM_35 : Nat → Int32), ∀ (H : Heap) (locs : List Loc) (ls : Array Slot), va_P D vwCl (wX9_behind cy aM qM vM_35 vM_r vM_st vM_trial_35) H → va_D A (wX9_behind cy aM qM vM_35 vM_r vM_st vM_trial_35) → va_S A s.heap H locs → lv_has ls 5 [(0, .ref aM), (1, .int x1), (2, .int x2), (4, .int y4_35)] → lp (fX9_behind_B35 vM_r x1 x2) fuel (y4_35, vM_trial_35, vM_35) = some (zr, z_vM, z_vM_trial) → W p l e ({ frames := 5, cells := 0, slots := 0, locals := 114 } : Room) s m ([.ref aM, .int x1, .int x2] : List Value).toArray below meth c H locs 0 0 Q (F0 m 35 ls []) := by
    intro fuel
    induction fuel with
    | zero => intro y4_35 vM_trial_35 vM_35 H locs ls hP hD hS hl hok; exact (lp_0 hok).elim
    | succ fuel ih35 =>
      intro y4_35 vM_trial_35 vM_35 H locs ls hP hD hS hl hok
      obtain ⟨y35, hok, hL35, hR35⟩ := lp_step hok
      unfold fX9_behind_B35 at hok
      try dsimp only at hok
      refine lv_iload hx hb dX9_behind_35 (lv_at hl 3 rfl) ?_
      refine lv_iload_n hx hb dX9_behind_37 rfl (lv_at hl 2 rfl) ?_
      refine lv_icmp_ge (tgt := 56) hx hb dX9_behind_38 (by decide) (fun c38 => ?_) (fun c38 => ?_)
      · have hok := k_pos c38 hok
        obtain ⟨e35, hok, he35⟩ := ex_some hok
        have hok := hok.trans (congrArg some (hL35 _ he35))
        refine lv_aload_n hx hb dX9_behind_56 rfl (lv_at hl 0 rfl) ?_
        refine va_get (D := D) (ci := 8) (v := .ref (qM 22)) (C := RX9) (T := TX9) (N := 29) hx hb ht0 niX9 hown hK hP 0 rfl rfl 22 (by decide) (ht0 _ wd921) (fun _ h9 => h9) rfl dX9_behind_57 ?_
        refine lv_iload_n hx hb dX9_behind_60 rfl (lv_at hl 1 rfl) ?_
        obtain ⟨g61, hok⟩ := gd_some hok
        refine va_iald hx hb hK hP 3 0 rfl rfl (okI_in g61) dX9_behind_61 ?_
        obtain ⟨r62, hc62, hok⟩ := k_bind hok
        refine kCi (wc := (wX9_coded cy )) (wc2 := (wX9_coded cy )) (wr := [(aM, oX9 vM_35 qM), (qM 15, rI cy 224 vM_r), (qM 17, rI cy 9 vM_st), (qM 22, rI cy 9 vM_trial_35)]) (ws2 := (wX9_behind cy aM qM vM_35 vM_r vM_st vM_trial_35)) (kRunS (As := [.int (vM_trial_35 x1.toNatClampNeg)]) (rest := []) ⟨hx, hb, hml, hown, ht0⟩ (kX9_coded l D cy _ (vM_trial_35 x1.toNatClampNeg) r62 hc62 _ rfl) (va_cwS 1 ht0 (gS wd937 wd938 wd744 wd939) rfl rfl rfl (by decide +kernel) ⟨Nat.le_of_ble_eq_true rfl, Nat.le_of_ble_eq_true rfl⟩) hK hN hP hD [] rfl (by decide) rfl hl.1 rfl (Nat.le_of_ble_eq_true rfl) dX9_behind_62 ⟨Nat.zero_le _, Nat.zero_le _⟩) hP hD hS hA [] [0, 1, 2, 3] rfl rfl (by decide) (by decide) [0, 1, 2, 3] (by decide) rfl rfl (fun H locs hP hD hS => ?_)
        cases hok
        subst hQe; exact W.iret hx hb hr (fun t ht hW => ⟨⟨_, (), rfl, rfl, by rw [ht]; exact hP, va_K.moved hW.alike hK, hD⟩, hS.F ht⟩) hS.2.2 dX9_behind_65
      · have hok := k_neg c38 hok
        refine lv_aload_n hx hb dX9_behind_41 rfl (lv_at hl 0 rfl) ?_
        refine lv_aload_n hx hb dX9_behind_42 rfl (lv_at hl 0 rfl) ?_
        refine va_get (D := D) (ci := 8) (v := .ref (qM 22)) (C := RX9) (T := TX9) (N := 29) hx hb ht0 niX9 hown hK hP 0 rfl rfl 22 (by decide) (ht0 _ wd921) (fun _ h9 => h9) rfl dX9_behind_43 ?_
        obtain ⟨⟨r46, p1_46⟩, hc46, hok⟩ := k_bind hok
        try dsimp only at hok
        refine kCi (wc := (wX9_nightOf cy aM (qM 22) qM vM_35 vM_r 9 vM_trial_35)) (wc2 := (wX9_nightOf cy aM (qM 22) qM vM_35 vM_r 9 p1_46)) (wr := [(qM 17, rI cy 9 vM_st)]) (ws2 := (wX9_behind cy aM qM vM_35 vM_r vM_st p1_46)) (kRunV (As := [.ref (qM 22)]) (rest := []) ⟨hx, hb, hml, hown, ht0⟩ (kX9_nightOf l D cy _ aM (qM 22) qM vM_35 vM_r 9 vM_trial_35 r46 p1_46 hc46 _ rfl) (cwV 1 ht0 (gV wd940 wd941 wd942 wd744 wd943) rfl rfl rfl (by decide +kernel) ⟨Nat.le_of_ble_eq_true rfl, Nat.le_of_ble_eq_true rfl⟩) hK hN hP hD [0, 1, 3] rfl (by decide) 0 8 rfl rfl rfl hl.1 rfl (Nat.le_of_ble_eq_true rfl) dX9_behind_46 ⟨Nat.zero_le _, Nat.zero_le _⟩) hP hD hS hA [0, 1, 3] [2] rfl rfl (by decide) (by decide) [1, 2, 0, 3] (by decide) rfl rfl (fun H locs hP hD hS => ?_)
        refine lv_pop hx hb dX9_behind_49 rfl ?_
        refine lv_iinc (v := (y4_35 + 1)) (lv' := [(4, .int (y4_35 + 1)), (0, .ref aM), (1, .int x1), (2, .int x2)]) hx hb dX9_behind_50 hl (k := 3) rfl (by first | rfl | decide) (by decide) rfl (fun ls hl => ?_)
        refine lv_goto (tgt := 35) hx hb dX9_behind_53 (by decide) ?_
        exact ih35 (y4_35 + 1) p1_46 vM_35 H locs ls hP hD hS (lv_sub hl [1, 2, 3, 0] rfl) (hR35 _ (Option.some.inj hok).symm)
  unfold fX9_behind at hok
  obtain ⟨H, hH⟩ : ∃ H, H = s.heap := ⟨_, rfl⟩
  obtain ⟨locs, hlc⟩ : ∃ x : List Loc, x = [] := ⟨_, rfl⟩
  have hP : va_P D vwCl (wX9_behind cy aM qM vM vM_r vM_st vM_trial) H := by rw [hH]; exact hP
  have hS : va_S A s.heap H locs := by rw [hH, hlc]; exact hS
  rw [show W p l e _ s m _ below meth c s.heap [] = W p l e _ s m _ below meth c H locs from by rw [hH, hlc]]
  refine lv_aload_n hx hb dX9_behind_0 rfl (lv_at hl 0 rfl) ?_
  obtain ⟨vM_1, hc1, hok⟩ := k_bind hok
  refine kCv (wc := (wX9_good cy aM qM vM)) (wc2 := (wX9_good cy aM qM vM_1)) (wr := [(qM 15, rI cy 224 vM_r), (qM 17, rI cy 9 vM_st), (qM 22, rI cy 9 vM_trial)]) (ws2 := (wX9_behind cy aM qM vM_1 vM_r vM_st vM_trial)) (kRunV (As := []) (rest := []) ⟨hx, hb, hml, hown, ht0⟩ (kX9_good l D cy _ aM qM vM vM_1 hc1 _ rfl) (cwV 0 ht0 (gV wd870 wd871 wd872 wd744 wd873) rfl rfl rfl (by decide +kernel) ⟨Nat.le_of_ble_eq_true rfl, Nat.le_of_ble_eq_true rfl⟩) hK hN hP hD [0] rfl (by decide) 0 8 rfl rfl rfl hl.1 rfl (Nat.le_of_ble_eq_true rfl) dX9_behind_1 ⟨Nat.zero_le _, Nat.zero_le _⟩) hP hD hS hA [0] [1, 2, 3] rfl rfl (by decide) (by decide) [3, 0, 1, 2] (by decide) rfl rfl (fun H locs hP hD hS => ?_)
  refine lv_aload_n hx hb dX9_behind_4 rfl (lv_at hl 0 rfl) ?_
  refine lv_aload_n hx hb dX9_behind_5 rfl (lv_at hl 0 rfl) ?_
  refine lv_iload_n hx hb dX9_behind_6 rfl (lv_at hl 1 rfl) ?_
  obtain ⟨r7, hc7, hok⟩ := k_bind hok
  refine kCi (wc := (wX9_isThing cy aM qM vM_1 vM_r)) (wc2 := (wX9_isThing cy aM qM vM_1 vM_r)) (wr := [(qM 17, rI cy 9 vM_st), (qM 22, rI cy 9 vM_trial)]) (ws2 := (wX9_behind cy aM qM vM_1 vM_r vM_st vM_trial)) (kRunV (As := [.int x1]) (rest := [.ref aM]) ⟨hx, hb, hml, hown, ht0⟩ (kX9_isThing l D cy _ aM qM vM_1 vM_r x1 r7 hc7 _ rfl) (cwV 1 ht0 (gV wd925 wd926 wd927 wd744 wd928) rfl rfl rfl (by decide +kernel) ⟨Nat.le_of_ble_eq_true rfl, Nat.le_of_ble_eq_true rfl⟩) hK hN hP hD [0, 1] rfl (by decide) 0 8 rfl rfl rfl hl.1 rfl (Nat.le_of_ble_eq_true rfl) dX9_behind_7 ⟨Nat.zero_le _, Nat.zero_le _⟩) hP hD hS hA [0, 1] [2, 3] rfl rfl (by decide) (by decide) [2, 3, 0, 1] (by decide) rfl rfl (fun H locs hP hD hS => ?_)
  refine lv_iload_n hx hb dX9_behind_10 rfl (lv_at hl 2 rfl) ?_
  refine lv_sipush (v := 200) hx hb dX9_behind_11 (by decide) ?_
  obtain ⟨r14, hc14, hok⟩ := k_bind hok
  refine kCi (wc := (wX9_why cy aM)) (wc2 := (wX9_why cy aM)) (wr := [(aM, oX9 vM_1 qM), (qM 15, rI cy 224 vM_r), (qM 17, rI cy 9 vM_st), (qM 22, rI cy 9 vM_trial)]) (ws2 := (wX9_behind cy aM qM vM_1 vM_r vM_st vM_trial)) (kRunV (As := [.int r7, .int x2, .int 200]) (rest := []) ⟨hx, hb, hml, hown, ht0⟩ (kX9_why l D cy _ aM r7 x2 (200 : Int32) r14 hc14 _ rfl) (cwV 3 ht0 (gV wd944 wd945 wd946 wd744 wd947) rfl rfl rfl (by decide +kernel) ⟨Nat.le_of_ble_eq_true rfl, Nat.le_of_ble_eq_true rfl⟩) hK hN hP hD [] rfl (by decide) 0 8 rfl rfl rfl hl.1 rfl (Nat.le_of_ble_eq_true rfl) dX9_behind_14 ⟨Nat.zero_le _, Nat.zero_le _⟩) hP hD hS hA [] [0, 1, 2, 3] rfl rfl (by decide) (by decide) [0, 1, 2, 3] (by decide) rfl rfl (fun H locs hP hD hS => ?_)
  refine lv_istore_n (lv' := [(3, .int r14), (0, .ref aM), (1, .int x1), (2, .int x2)]) hx hb dX9_behind_17 rfl hl (by decide) rfl (fun ls hl => ?_)
  refine lv_iload_n hx hb dX9_behind_18 rfl (lv_at hl 0 rfl) ?_
  refine lv_if_eq (tgt := 28) hx hb dX9_behind_19 (by decide) (fun c19 => ?_) (fun c19 => ?_)
  · have hok := k_pos c19 hok
    refine lv_aload_n hx hb dX9_behind_28 rfl (lv_at hl 1 rfl) ?_
    obtain ⟨vM_trial_29, hc29, hok⟩ := k_bind hok
    refine kCv (wc := (wX9_begin cy aM qM vM_1 vM_st vM_trial)) (wc2 := (wX9_begin cy aM qM vM_1 vM_st vM_trial_29)) (wr := [(qM 15, rI cy 224 vM_r)]) (ws2 := (wX9_behind cy aM qM vM_1 vM_r vM_st vM_trial_29)) (kRunV (As := []) (rest := []) ⟨hx, hb, hml, hown, ht0⟩ (kX9_begin l D cy _ aM qM vM_1 vM_st vM_trial vM_trial_29 hc29 _ rfl) (cwV 0 ht0 (gV wd948 wd949 wd950 wd744 wd951) rfl rfl rfl (by decide +kernel) ⟨Nat.le_of_ble_eq_true rfl, Nat.le_of_ble_eq_true rfl⟩) hK hN hP hD [0, 2, 3] rfl (by decide) 0 8 rfl rfl rfl hl.1 rfl (Nat.le_of_ble_eq_true rfl) dX9_behind_29 ⟨Nat.zero_le _, Nat.zero_le _⟩) hP hD hS hA [0, 2, 3] [1] rfl rfl (by decide) (by decide) [1, 0, 2, 3] (by decide) rfl rfl (fun H locs hP hD hS => ?_)
    refine lv_iconst (v := 0) hx hb dX9_behind_32 (by decide) ?_
    refine lv_istore (lv' := [(4, .int 0), (3, .int r14), (0, .ref aM), (1, .int x1), (2, .int x2)]) hx hb dX9_behind_33 hl (by decide) rfl (fun ls hl => ?_)
    exact L35 5000 (0 : Int32) vM_trial_29 vM_1 H locs ls hP hD hS (lv_sub hl [2, 3, 4, 0] rfl) hok
  · have hok := k_neg c19 hok
    refine lv_aload_n hx hb dX9_behind_22 rfl (lv_at hl 1 rfl) ?_
    refine lv_iload_n hx hb dX9_behind_23 rfl (lv_at hl 0 rfl) ?_
    obtain ⟨⟨r24, vM_24⟩, hc24, hok⟩ := k_bind hok
    try dsimp only at hok
    refine kCi (wc := (wX9_no cy aM qM vM_1)) (wc2 := (wX9_no cy aM qM vM_24)) (wr := [(qM 15, rI cy 224 vM_r), (qM 17, rI cy 9 vM_st), (qM 22, rI cy 9 vM_trial)]) (ws2 := (wX9_behind cy aM qM vM_24 vM_r vM_st vM_trial)) (kRunV (As := [.int r14]) (rest := []) ⟨hx, hb, hml, hown, ht0⟩ (kX9_no l D cy _ aM qM vM_1 r14 r24 vM_24 hc24 _ rfl) (cwV 1 ht0 (gV wd862 wd863 wd864 wd744 wd865) rfl rfl rfl (by decide +kernel) ⟨Nat.le_of_ble_eq_true rfl, Nat.le_of_ble_eq_true rfl⟩) hK hN hP hD [0] rfl (by decide) 0 8 rfl rfl rfl hl.1 rfl (Nat.le_of_ble_eq_true rfl) dX9_behind_24 ⟨Nat.zero_le _, Nat.zero_le _⟩) hP hD hS hA [0] [1, 2, 3] rfl rfl (by decide) (by decide) [3, 0, 1, 2] (by decide) rfl rfl (fun H locs hP hD hS => ?_)
    cases hok
    subst hQe; exact W.iret hx hb hr (fun t ht hW => ⟨⟨_, (), rfl, rfl, by rw [ht]; exact hP, va_K.moved hW.alike hK, hD⟩, hS.F ht⟩) hS.2.2 dX9_behind_27
def wsX9_when : List Cond := .code yX9_when cX9_when 5 (some .int) :: W0
abbrev wX9_when (cy : Nat → ClassId) (aM : Nat) (qM : Nat → Nat) (vM : Nat → Int32) (vM_r : Nat → Int32) (vM_st : Nat → Int32) (vM_trial : Nat → Int32) : va_W := [(aM, oX9 vM qM), (qM 15, rI cy 224 vM_r), (qM 17, rI cy 9 vM_st), (qM 22, rI cy 9 vM_trial)]
set_option maxHeartbeats 4000000 in
set_option maxRecDepth 100000 in
theorem kX9_when (l : Launch) (D : va_G) (cy : Nat → ClassId) (sz : Nat) (aM : Nat) (qM : Nat → Nat) (vM : Nat → Int32) (vM_r : Nat → Int32) (vM_st : Nat → Int32) (vM_trial : Nat → Int32) (x1 : Int32) (x2 : Int32) (x3 : Int32) (zr : Int32) (z_vM : Nat → Int32) (z_vM_trial : Nat → Int32) (hok : fX9_when vM vM_r vM_st vM_trial x1 x2 x3 = some (zr, z_vM, z_vM_trial)) (A : Nat → Prop) (hAe : va_A (wX9_when cy aM qM vM vM_r vM_st vM_trial) sz = A) : Met l yX9_when wsX9_when ({ frames := 5, cells := 0, slots := 0, locals := 114 } : Room) (kPre D cy [.ref aM, .int x1, .int x2, .int x3] (wX9_when cy aM qM vM vM_r vM_st vM_trial) sz) (kQi D cy zr A (wX9_when cy aM qM z_vM vM_r vM_st z_vM_trial)) 0 0 A := by
  refine Met.ofW (cc := cX9_when) (maxL := 5) (ret := (some .int)) (by decide) rfl ?_
  intro p e s m args below meth c s₁ B hml hv
  obtain ⟨rfl, hsz, hP, hK, hD0, hN⟩ := hv
  have hx := B.exec
  have hb := B.bytes
  have hr := B.returns
  have ht0 : ∀ w ∈ W0, w.before _ s = true := fun w h => atoms_spec (ws := wsX9_when) B.pre w (List.mem_cons_of_mem _ h)
  have hown : s.vm.findClass RX9 = some m.cls := findClass_of_methodNamed B.named
  have hlocks := B.notSynchronized
  subst hsz
  have hD : va_D A (wX9_when cy aM qM vM vM_r vM_st vM_trial) := by rw [← hAe]; exact hD0.self
  have hA : ∀ q : Nat, s.heap.size ≤ q → A q := fun q h => by rw [← hAe]; exact Or.inr h
  have hS : va_S A s.heap s.heap [] := va_S.rf
  have hl := lv_entry ([.ref aM, .int x1, .int x2, .int x3]) (n := 5) (Nat.le_of_ble_eq_true rfl)
  rw [lg_entry_eq]
  generalize (lg_sl ([.ref aM, .int x1, .int x2, .int x3]) ++ List.replicate (5 - (lg_sl ([.ref aM, .int x1, .int x2, .int x3])).length) Slot.unset).toArray = ls at hl ⊢
  have hl : lv_has ls 5 [(0, .ref aM), (1, .int x1), (2, .int x2), (3, .int x3)] := hl
  generalize hQe : MQ below (kQi D cy zr A (wX9_when cy aM qM z_vM vM_r vM_st z_vM_trial)) ([.ref aM, .int x1, .int x2, .int x3] : List Value).toArray s 0 0 A = Q
  have L34 : ∀ (fuel : Nat) (y4_34 : Int32) (vM_trial_34 : Nat → Int32) (vM_34 : Nat → Int32), ∀ (H : Heap) (locs : List Loc) (ls : Array Slot), va_P D vwCl (wX9_when cy aM qM vM_34 vM_r vM_st vM_trial_34) H → va_D A (wX9_when cy aM qM vM_34 vM_r vM_st vM_trial_34) → va_S A s.heap H locs → lv_has ls 5 [(0, .ref aM), (1, .int x1), (2, .int x2), (3, .int x3), (4, .int y4_34)] → lp (fX9_when_B34 vM_r x1 x2 x3) fuel (y4_34, vM_trial_34, vM_34) = some (zr, z_vM, z_vM_trial) → W p l e ({ frames := 5, cells := 0, slots := 0, locals := 114 } : Room) s m ([.ref aM, .int x1, .int x2, .int x3] : List Value).toArray below meth c H locs 0 0 Q (F0 m 34 ls []) := by
    intro fuel
    induction fuel with
    | zero => intro y4_34 vM_trial_34 vM_34 H locs ls hP hD hS hl hok; exact (lp_0 hok).elim
    | succ fuel ih34 =>
      intro y4_34 vM_trial_34 vM_34 H locs ls hP hD hS hl hok
      obtain ⟨y34, hok, hL34, hR34⟩ := lp_step hok
      unfold fX9_when_B34 at hok
      try dsimp only at hok
      refine lv_iload hx hb dX9_when_34 (lv_at hl 4 rfl) ?_
      refine lv_sipush (v := 200) hx hb dX9_when_36 (by decide) ?_
      refine lv_icmp_gt (tgt := 75) hx hb dX9_when_39 (by decide) (fun c39 => ?_) (fun c39 => ?_)
      · have hok := k_pos c39 hok
        obtain ⟨e34, hok, he34⟩ := ex_some hok
        have hok := hok.trans (congrArg some (hL34 _ he34))
        refine lv_bipush (v := -2) hx hb dX9_when_75 (by decide) ?_
        cases hok
        subst hQe; exact W.iret hx hb hr (fun t ht hW => ⟨⟨_, (), rfl, rfl, by rw [ht]; exact hP, va_K.moved hW.alike hK, hD⟩, hS.F ht⟩) hS.2.2 dX9_when_77
      · have hok := k_neg c39 hok
        refine lv_aload_n hx hb dX9_when_42 rfl (lv_at hl 0 rfl) ?_
        refine va_get (D := D) (ci := 8) (v := .ref (qM 22)) (C := RX9) (T := TX9) (N := 29) hx hb ht0 niX9 hown hK hP 0 rfl rfl 22 (by decide) (ht0 _ wd921) (fun _ h9 => h9) rfl dX9_when_43 ?_
        refine lv_iload_n hx hb dX9_when_46 rfl (lv_at hl 1 rfl) ?_
        obtain ⟨g47, hok⟩ := gd_some hok
        refine va_iald hx hb hK hP 3 0 rfl rfl (okI_in g47) dX9_when_47 ?_
        refine lv_bipush (v := 9) hx hb dX9_when_48 (by decide) ?_
        refine lv_iload_n hx hb dX9_when_50 rfl (lv_at hl 2 rfl) ?_
        refine lv_imul hx hb dX9_when_51 ?_
        refine lv_iload_n hx hb dX9_when_52 rfl (lv_at hl 3 rfl) ?_
        refine lv_iadd hx hb dX9_when_53 ?_
        refine lv_icmp_ne (tgt := 60) hx hb dX9_when_54 (by decide) (fun c54 => ?_) (fun c54 => ?_)
        · have hok := k_neg c54 hok
          refine lv_aload_n hx hb dX9_when_60 rfl (lv_at hl 0 rfl) ?_
          refine lv_aload_n hx hb dX9_when_61 rfl (lv_at hl 0 rfl) ?_
          refine va_get (D := D) (ci := 8) (v := .ref (qM 22)) (C := RX9) (T := TX9) (N := 29) hx hb ht0 niX9 hown hK hP 0 rfl rfl 22 (by decide) (ht0 _ wd921) (fun _ h9 => h9) rfl dX9_when_62 ?_
          obtain ⟨⟨r65, p1_65⟩, hc65, hok⟩ := k_bind hok
          try dsimp only at hok
          refine kCi (wc := (wX9_nightOf cy aM (qM 22) qM vM_34 vM_r 9 vM_trial_34)) (wc2 := (wX9_nightOf cy aM (qM 22) qM vM_34 vM_r 9 p1_65)) (wr := [(qM 17, rI cy 9 vM_st)]) (ws2 := (wX9_when cy aM qM vM_34 vM_r vM_st p1_65)) (kRunV (As := [.ref (qM 22)]) (rest := []) ⟨hx, hb, hml, hown, ht0⟩ (kX9_nightOf l D cy _ aM (qM 22) qM vM_34 vM_r 9 vM_trial_34 r65 p1_65 hc65 _ rfl) (cwV 1 ht0 (gV wd940 wd941 wd942 wd744 wd943) rfl rfl rfl (by decide +kernel) ⟨Nat.le_of_ble_eq_true rfl, Nat.le_of_ble_eq_true rfl⟩) hK hN hP hD [0, 1, 3] rfl (by decide) 0 8 rfl rfl rfl hl.1 rfl (Nat.le_of_ble_eq_true rfl) dX9_when_65 ⟨Nat.zero_le _, Nat.zero_le _⟩) hP hD hS hA [0, 1, 3] [2] rfl rfl (by decide) (by decide) [1, 2, 0, 3] (by decide) rfl rfl (fun H locs hP hD hS => ?_)
          refine lv_pop hx hb dX9_when_68 rfl ?_
          refine lv_iinc (v := (y4_34 + 1)) (lv' := [(4, .int (y4_34 + 1)), (0, .ref aM), (1, .int x1), (2, .int x2), (3, .int x3)]) hx hb dX9_when_69 hl (k := 4) rfl (by first | rfl | decide) (by decide) rfl (fun ls hl => ?_)
          refine lv_goto (tgt := 34) hx hb dX9_when_72 (by decide) ?_
          exact ih34 (y4_34 + 1) p1_65 vM_34 H locs ls hP hD hS (lv_sub hl [1, 2, 3, 4, 0] rfl) (hR34 _ (Option.some.inj hok).symm)
        · have hok := k_pos c54 hok
          obtain ⟨e34, hok, he34⟩ := ex_some hok
          have hok := hok.trans (congrArg some (hL34 _ he34))
          refine lv_iload hx hb dX9_when_57 (lv_at hl 4 rfl) ?_
          cases hok
          subst hQe; exact W.iret hx hb hr (fun t ht hW => ⟨⟨_, (), rfl, rfl, by rw [ht]; exact hP, va_K.moved hW.alike hK, hD⟩, hS.F ht⟩) hS.2.2 dX9_when_59
  have J21 : ∀ (vM_21 : Nat → Int32), ∀ (H : Heap) (locs : List Loc) (ls : Array Slot), va_P D vwCl (wX9_when cy aM qM vM_21 vM_r vM_st vM_trial) H → va_D A (wX9_when cy aM qM vM_21 vM_r vM_st vM_trial) → va_S A s.heap H locs → lv_has ls 5 [(0, .ref aM)] → fX9_when_J21 vM_trial vM_21 = some (zr, z_vM, z_vM_trial) → W p l e ({ frames := 5, cells := 0, slots := 0, locals := 114 } : Room) s m ([.ref aM, .int x1, .int x2, .int x3] : List Value).toArray below meth c H locs 0 0 Q (F0 m 21 ls []) := by
    intro vM_21 H locs ls hP hD hS hl hok
    unfold fX9_when_J21 at hok
    refine lv_aload_n hx hb dX9_when_21 rfl (lv_at hl 0 rfl) ?_
    refine lv_iconst (v := 1) hx hb dX9_when_22 (by decide) ?_
    obtain ⟨⟨r23, vM_23⟩, hc23, hok⟩ := k_bind hok
    try dsimp only at hok
    refine kCi (wc := (wX9_no cy aM qM vM_21)) (wc2 := (wX9_no cy aM qM vM_23)) (wr := [(qM 15, rI cy 224 vM_r), (qM 17, rI cy 9 vM_st), (qM 22, rI cy 9 vM_trial)]) (ws2 := (wX9_when cy aM qM vM_23 vM_r vM_st vM_trial)) (kRunV (As := [.int 1]) (rest := []) ⟨hx, hb, hml, hown, ht0⟩ (kX9_no l D cy _ aM qM vM_21 (1 : Int32) r23 vM_23 hc23 _ rfl) (cwV 1 ht0 (gV wd862 wd863 wd864 wd744 wd865) rfl rfl rfl (by decide +kernel) ⟨Nat.le_of_ble_eq_true rfl, Nat.le_of_ble_eq_true rfl⟩) hK hN hP hD [0] rfl (by decide) 0 8 rfl rfl rfl hl.1 rfl (Nat.le_of_ble_eq_true rfl) dX9_when_23 ⟨Nat.zero_le _, Nat.zero_le _⟩) hP hD hS hA [0] [1, 2, 3] rfl rfl (by decide) (by decide) [3, 0, 1, 2] (by decide) rfl rfl (fun H locs hP hD hS => ?_)
    cases hok
    subst hQe; exact W.iret hx hb hr (fun t ht hW => ⟨⟨_, (), rfl, rfl, by rw [ht]; exact hP, va_K.moved hW.alike hK, hD⟩, hS.F ht⟩) hS.2.2 dX9_when_26
  unfold fX9_when at hok
  obtain ⟨H, hH⟩ : ∃ H, H = s.heap := ⟨_, rfl⟩
  obtain ⟨locs, hlc⟩ : ∃ x : List Loc, x = [] := ⟨_, rfl⟩
  have hP : va_P D vwCl (wX9_when cy aM qM vM vM_r vM_st vM_trial) H := by rw [hH]; exact hP
  have hS : va_S A s.heap H locs := by rw [hH, hlc]; exact hS
  rw [show W p l e _ s m _ below meth c s.heap [] = W p l e _ s m _ below meth c H locs from by rw [hH, hlc]]
  refine lv_aload_n hx hb dX9_when_0 rfl (lv_at hl 0 rfl) ?_
  obtain ⟨vM_1, hc1, hok⟩ := k_bind hok
  refine kCv (wc := (wX9_good cy aM qM vM)) (wc2 := (wX9_good cy aM qM vM_1)) (wr := [(qM 15, rI cy 224 vM_r), (qM 17, rI cy 9 vM_st), (qM 22, rI cy 9 vM_trial)]) (ws2 := (wX9_when cy aM qM vM_1 vM_r vM_st vM_trial)) (kRunV (As := []) (rest := []) ⟨hx, hb, hml, hown, ht0⟩ (kX9_good l D cy _ aM qM vM vM_1 hc1 _ rfl) (cwV 0 ht0 (gV wd870 wd871 wd872 wd744 wd873) rfl rfl rfl (by decide +kernel) ⟨Nat.le_of_ble_eq_true rfl, Nat.le_of_ble_eq_true rfl⟩) hK hN hP hD [0] rfl (by decide) 0 8 rfl rfl rfl hl.1 rfl (Nat.le_of_ble_eq_true rfl) dX9_when_1 ⟨Nat.zero_le _, Nat.zero_le _⟩) hP hD hS hA [0] [1, 2, 3] rfl rfl (by decide) (by decide) [3, 0, 1, 2] (by decide) rfl rfl (fun H locs hP hD hS => ?_)
  refine lv_aload_n hx hb dX9_when_4 rfl (lv_at hl 0 rfl) ?_
  refine lv_iload_n hx hb dX9_when_5 rfl (lv_at hl 1 rfl) ?_
  obtain ⟨r6, hc6, hok⟩ := k_bind hok
  refine kCi (wc := (wX9_isThing cy aM qM vM_1 vM_r)) (wc2 := (wX9_isThing cy aM qM vM_1 vM_r)) (wr := [(qM 17, rI cy 9 vM_st), (qM 22, rI cy 9 vM_trial)]) (ws2 := (wX9_when cy aM qM vM_1 vM_r vM_st vM_trial)) (kRunV (As := [.int x1]) (rest := []) ⟨hx, hb, hml, hown, ht0⟩ (kX9_isThing l D cy _ aM qM vM_1 vM_r x1 r6 hc6 _ rfl) (cwV 1 ht0 (gV wd925 wd926 wd927 wd744 wd928) rfl rfl rfl (by decide +kernel) ⟨Nat.le_of_ble_eq_true rfl, Nat.le_of_ble_eq_true rfl⟩) hK hN hP hD [0, 1] rfl (by decide) 0 8 rfl rfl rfl hl.1 rfl (Nat.le_of_ble_eq_true rfl) dX9_when_6 ⟨Nat.zero_le _, Nat.zero_le _⟩) hP hD hS hA [0, 1] [2, 3] rfl rfl (by decide) (by decide) [2, 3, 0, 1] (by decide) rfl rfl (fun H locs hP hD hS => ?_)
  refine lv_if_eq (tgt := 21) hx hb dX9_when_9 (by decide) (fun c9 => ?_) (fun c9 => ?_)
  · have hok := k_pos c9 hok
    exact J21 vM_1 H locs ls hP hD hS (lv_sub hl [0] rfl) hok
  · have hok := k_neg c9 hok
    refine lv_aload_n hx hb dX9_when_12 rfl (lv_at hl 0 rfl) ?_
    refine lv_iload_n hx hb dX9_when_13 rfl (lv_at hl 2 rfl) ?_
    refine lv_iload_n hx hb dX9_when_14 rfl (lv_at hl 3 rfl) ?_
    obtain ⟨r15, hc15, hok⟩ := k_bind hok
    refine kCi (wc := (wX9_isPlace cy aM qM vM_1 vM_r)) (wc2 := (wX9_isPlace cy aM qM vM_1 vM_r)) (wr := [(qM 17, rI cy 9 vM_st), (qM 22, rI cy 9 vM_trial)]) (ws2 := (wX9_when cy aM qM vM_1 vM_r vM_st vM_trial)) (kRunV (As := [.int x2, .int x3]) (rest := []) ⟨hx, hb, hml, hown, ht0⟩ (kX9_isPlace l D cy _ aM qM vM_1 vM_r x2 x3 r15 hc15 _ rfl) (cwV 2 ht0 (gV wd929 wd930 wd931 wd744 wd932) rfl rfl rfl (by decide +kernel) ⟨Nat.le_of_ble_eq_true rfl, Nat.le_of_ble_eq_true rfl⟩) hK hN hP hD [0, 1] rfl (by decide) 0 8 rfl rfl rfl hl.1 rfl (Nat.le_of_ble_eq_true rfl) dX9_when_15 ⟨Nat.zero_le _, Nat.zero_le _⟩) hP hD hS hA [0, 1] [2, 3] rfl rfl (by decide) (by decide) [2, 3, 0, 1] (by decide) rfl rfl (fun H locs hP hD hS => ?_)
    refine lv_if_ne (tgt := 27) hx hb dX9_when_18 (by decide) (fun c18 => ?_) (fun c18 => ?_)
    · have hok := k_neg c18 hok
      refine lv_aload_n hx hb dX9_when_27 rfl (lv_at hl 0 rfl) ?_
      obtain ⟨vM_trial_28, hc28, hok⟩ := k_bind hok
      refine kCv (wc := (wX9_begin cy aM qM vM_1 vM_st vM_trial)) (wc2 := (wX9_begin cy aM qM vM_1 vM_st vM_trial_28)) (wr := [(qM 15, rI cy 224 vM_r)]) (ws2 := (wX9_when cy aM qM vM_1 vM_r vM_st vM_trial_28)) (kRunV (As := []) (rest := []) ⟨hx, hb, hml, hown, ht0⟩ (kX9_begin l D cy _ aM qM vM_1 vM_st vM_trial vM_trial_28 hc28 _ rfl) (cwV 0 ht0 (gV wd948 wd949 wd950 wd744 wd951) rfl rfl rfl (by decide +kernel) ⟨Nat.le_of_ble_eq_true rfl, Nat.le_of_ble_eq_true rfl⟩) hK hN hP hD [0, 2, 3] rfl (by decide) 0 8 rfl rfl rfl hl.1 rfl (Nat.le_of_ble_eq_true rfl) dX9_when_28 ⟨Nat.zero_le _, Nat.zero_le _⟩) hP hD hS hA [0, 2, 3] [1] rfl rfl (by decide) (by decide) [1, 0, 2, 3] (by decide) rfl rfl (fun H locs hP hD hS => ?_)
      refine lv_iconst (v := 0) hx hb dX9_when_31 (by decide) ?_
      refine lv_istore (lv' := [(4, .int 0), (0, .ref aM), (1, .int x1), (2, .int x2), (3, .int x3)]) hx hb dX9_when_32 hl (by decide) rfl (fun ls hl => ?_)
      exact L34 5000 (0 : Int32) vM_trial_28 vM_1 H locs ls hP hD hS (lv_sub hl [1, 2, 3, 4, 0] rfl) hok
    · have hok := k_pos c18 hok
      exact J21 vM_1 H locs ls hP hD hS (lv_sub hl [0] rfl) hok
def wsX9_areTwo : List Cond := .code yX9_areTwo cX9_areTwo 3 (some .boolean) :: W0
abbrev wX9_areTwo (cy : Nat → ClassId) (aM : Nat) (qM : Nat → Nat) (vM : Nat → Int32) (vM_r : Nat → Int32) : va_W := [(aM, oX9 vM qM), (qM 15, rI cy 224 vM_r)]
set_option maxHeartbeats 4000000 in
set_option maxRecDepth 100000 in
theorem kX9_areTwo (l : Launch) (D : va_G) (cy : Nat → ClassId) (sz : Nat) (aM : Nat) (qM : Nat → Nat) (vM : Nat → Int32) (vM_r : Nat → Int32) (x1 : Int32) (x2 : Int32) (zr : Int32) (hok : fX9_areTwo vM vM_r x1 x2 = some zr) (A : Nat → Prop) (hAe : va_A (wX9_areTwo cy aM qM vM vM_r) sz = A) : Met l yX9_areTwo wsX9_areTwo ({ frames := 2, cells := 0, slots := 0, locals := 43 } : Room) (kPre D cy [.ref aM, .int x1, .int x2] (wX9_areTwo cy aM qM vM vM_r) sz) (kQi D cy zr A (wX9_areTwo cy aM qM vM vM_r)) 0 0 A := by
  refine Met.ofW (cc := cX9_areTwo) (maxL := 3) (ret := (some .boolean)) (by decide) rfl ?_
  intro p e s m args below meth c s₁ B hml hv
  obtain ⟨rfl, hsz, hP, hK, hD0, hN⟩ := hv
  have hx := B.exec
  have hb := B.bytes
  have hr := B.returns
  have ht0 : ∀ w ∈ W0, w.before _ s = true := fun w h => atoms_spec (ws := wsX9_areTwo) B.pre w (List.mem_cons_of_mem _ h)
  have hown : s.vm.findClass RX9 = some m.cls := findClass_of_methodNamed B.named
  have hlocks := B.notSynchronized
  subst hsz
  have hD : va_D A (wX9_areTwo cy aM qM vM vM_r) := by rw [← hAe]; exact hD0.self
  have hA : ∀ q : Nat, s.heap.size ≤ q → A q := fun q h => by rw [← hAe]; exact Or.inr h
  have hS : va_S A s.heap s.heap [] := va_S.rf
  have hl := lv_entry ([.ref aM, .int x1, .int x2]) (n := 3) (Nat.le_of_ble_eq_true rfl)
  rw [lg_entry_eq]
  generalize (lg_sl ([.ref aM, .int x1, .int x2]) ++ List.replicate (3 - (lg_sl ([.ref aM, .int x1, .int x2])).length) Slot.unset).toArray = ls at hl ⊢
  have hl : lv_has ls 3 [(0, .ref aM), (1, .int x1), (2, .int x2)] := hl
  generalize hQe : MQ below (kQi D cy zr A (wX9_areTwo cy aM qM vM vM_r)) ([.ref aM, .int x1, .int x2] : List Value).toArray s 0 0 A = Q
  have J26 : ∀ (t0_26 : Int32), ∀ (H : Heap) (locs : List Loc) (ls : Array Slot), va_P D vwCl (wX9_areTwo cy aM qM vM vM_r) H → va_D A (wX9_areTwo cy aM qM vM vM_r) → va_S A s.heap H locs → lv_has ls 3 [] → fX9_areTwo_J26 t0_26 = some zr → W p l e ({ frames := 2, cells := 0, slots := 0, locals := 43 } : Room) s m ([.ref aM, .int x1, .int x2] : List Value).toArray below meth c H locs 0 0 Q (F0 m 26 ls [.int t0_26]) := by
    intro t0_26 H locs ls hP hD hS hl hok
    unfold fX9_areTwo_J26 at hok
    obtain ⟨g26, hok⟩ := gd_some hok
    cases hok
    subst hQe; exact W.zret hx hb hr (isB_nar g26) (fun t ht hW => ⟨⟨_, (), rfl, rfl, by rw [ht]; exact hP, va_K.moved hW.alike hK, hD⟩, hS.F ht⟩) hS.2.2 dX9_areTwo_26
  have J25 : ∀ (H : Heap) (locs : List Loc) (ls : Array Slot), va_P D vwCl (wX9_areTwo cy aM qM vM vM_r) H → va_D A (wX9_areTwo cy aM qM vM vM_r) → va_S A s.heap H locs → lv_has ls 3 [] → fX9_areTwo_J25 = some zr → W p l e ({ frames := 2, cells := 0, slots := 0, locals := 43 } : Room) s m ([.ref aM, .int x1, .int x2] : List Value).toArray below meth c H locs 0 0 Q (F0 m 25 ls []) := by
    intro  H locs ls hP hD hS hl hok
    unfold fX9_areTwo_J25 at hok
    refine lv_iconst (v := 0) hx hb dX9_areTwo_25 (by decide) ?_
    exact J26 (0 : Int32) H locs ls hP hD hS (lv_sub hl [] rfl) hok
  unfold fX9_areTwo at hok
  obtain ⟨H, hH⟩ : ∃ H, H = s.heap := ⟨_, rfl⟩
  obtain ⟨locs, hlc⟩ : ∃ x : List Loc, x = [] := ⟨_, rfl⟩
  have hP : va_P D vwCl (wX9_areTwo cy aM qM vM vM_r) H := by rw [hH]; exact hP
  have hS : va_S A s.heap H locs := by rw [hH, hlc]; exact hS
  rw [show W p l e _ s m _ below meth c s.heap [] = W p l e _ s m _ below meth c H locs from by rw [hH, hlc]]
  refine lv_aload_n hx hb dX9_areTwo_0 rfl (lv_at hl 0 rfl) ?_
  refine lv_iload_n hx hb dX9_areTwo_1 rfl (lv_at hl 1 rfl) ?_
  obtain ⟨r2, hc2, hok⟩ := k_bind hok
  refine kCi (wc := (wX9_isThing cy aM qM vM vM_r)) (wc2 := (wX9_isThing cy aM qM vM vM_r)) (wr := []) (ws2 := (wX9_areTwo cy aM qM vM vM_r)) (kRunV (As := [.int x1]) (rest := []) ⟨hx, hb, hml, hown, ht0⟩ (kX9_isThing l D cy _ aM qM vM vM_r x1 r2 hc2 _ rfl) (cwV 1 ht0 (gV wd925 wd926 wd927 wd744 wd928) rfl rfl rfl (by decide +kernel) ⟨Nat.le_of_ble_eq_true rfl, Nat.le_of_ble_eq_true rfl⟩) hK hN hP hD [0, 1] rfl (by decide) 0 8 rfl rfl rfl hl.1 rfl (Nat.le_of_ble_eq_true rfl) dX9_areTwo_2 ⟨Nat.zero_le _, Nat.zero_le _⟩) hP hD hS hA [0, 1] [] rfl rfl (by decide) (by decide) [0, 1] (by decide) rfl rfl (fun H locs hP hD hS => ?_)
  refine lv_if_eq (tgt := 25) hx hb dX9_areTwo_5 (by decide) (fun c5 => ?_) (fun c5 => ?_)
  · have hok := k_pos c5 hok
    exact J25  H locs ls hP hD hS (lv_sub hl [] rfl) hok
  · have hok := k_neg c5 hok
    refine lv_aload_n hx hb dX9_areTwo_8 rfl (lv_at hl 0 rfl) ?_
    refine lv_iload_n hx hb dX9_areTwo_9 rfl (lv_at hl 2 rfl) ?_
    obtain ⟨r10, hc10, hok⟩ := k_bind hok
    refine kCi (wc := (wX9_isThing cy aM qM vM vM_r)) (wc2 := (wX9_isThing cy aM qM vM vM_r)) (wr := []) (ws2 := (wX9_areTwo cy aM qM vM vM_r)) (kRunV (As := [.int x2]) (rest := []) ⟨hx, hb, hml, hown, ht0⟩ (kX9_isThing l D cy _ aM qM vM vM_r x2 r10 hc10 _ rfl) (cwV 1 ht0 (gV wd925 wd926 wd927 wd744 wd928) rfl rfl rfl (by decide +kernel) ⟨Nat.le_of_ble_eq_true rfl, Nat.le_of_ble_eq_true rfl⟩) hK hN hP hD [0, 1] rfl (by decide) 0 8 rfl rfl rfl hl.1 rfl (Nat.le_of_ble_eq_true rfl) dX9_areTwo_10 ⟨Nat.zero_le _, Nat.zero_le _⟩) hP hD hS hA [0, 1] [] rfl rfl (by decide) (by decide) [0, 1] (by decide) rfl rfl (fun H locs hP hD hS => ?_)
    refine lv_if_eq (tgt := 25) hx hb dX9_areTwo_13 (by decide) (fun c13 => ?_) (fun c13 => ?_)
    · have hok := k_pos c13 hok
      exact J25  H locs ls hP hD hS (lv_sub hl [] rfl) hok
    · have hok := k_neg c13 hok
      refine lv_iload_n hx hb dX9_areTwo_16 rfl (lv_at hl 1 rfl) ?_
      refine lv_iload_n hx hb dX9_areTwo_17 rfl (lv_at hl 2 rfl) ?_
      refine lv_icmp_eq (tgt := 25) hx hb dX9_areTwo_18 (by decide) (fun c18 => ?_) (fun c18 => ?_)
      · have hok := k_pos c18 hok
        exact J25  H locs ls hP hD hS (lv_sub hl [] rfl) hok
      · have hok := k_neg c18 hok
        refine lv_iconst (v := 1) hx hb dX9_areTwo_21 (by decide) ?_
        refine lv_goto (tgt := 26) hx hb dX9_areTwo_22 (by decide) ?_
        exact J26 (1 : Int32) H locs ls hP hD hS (lv_sub hl [] rfl) hok
def wsX9_meets : List Cond := .code yX9_meets cX9_meets 4 (some .int) :: W0
abbrev wX9_meets (cy : Nat → ClassId) (aM : Nat) (qM : Nat → Nat) (vM : Nat → Int32) (vM_r : Nat → Int32) (vM_st : Nat → Int32) (vM_trial : Nat → Int32) : va_W := [(aM, oX9 vM qM), (qM 15, rI cy 224 vM_r), (qM 17, rI cy 9 vM_st), (qM 22, rI cy 9 vM_trial)]
set_option maxHeartbeats 4000000 in
set_option maxRecDepth 100000 in
theorem kX9_meets (l : Launch) (D : va_G) (cy : Nat → ClassId) (sz : Nat) (aM : Nat) (qM : Nat → Nat) (vM : Nat → Int32) (vM_r : Nat → Int32) (vM_st : Nat → Int32) (vM_trial : Nat → Int32) (x1 : Int32) (x2 : Int32) (zr : Int32) (z_vM : Nat → Int32) (z_vM_trial : Nat → Int32) (hok : fX9_meets vM vM_r vM_st vM_trial x1 x2 = some (zr, z_vM, z_vM_trial)) (A : Nat → Prop) (hAe : va_A (wX9_meets cy aM qM vM vM_r vM_st vM_trial) sz = A) : Met l yX9_meets wsX9_meets ({ frames := 5, cells := 0, slots := 0, locals := 114 } : Room) (kPre D cy [.ref aM, .int x1, .int x2] (wX9_meets cy aM qM vM vM_r vM_st vM_trial) sz) (kQi D cy zr A (wX9_meets cy aM qM z_vM vM_r vM_st z_vM_trial)) 0 0 A := by
  refine Met.ofW (cc := cX9_meets) (maxL := 4) (ret := (some .int)) (by decide) rfl ?_
  intro p e s m args below meth c s₁ B hml hv
  obtain ⟨rfl, hsz, hP, hK, hD0, hN⟩ := hv
  have hx := B.exec
  have hb := B.bytes
  have hr := B.returns
  have ht0 : ∀ w ∈ W0, w.before _ s = true := fun w h => atoms_spec (ws := wsX9_meets) B.pre w (List.mem_cons_of_mem _ h)
  have hown : s.vm.findClass RX9 = some m.cls := findClass_of_methodNamed B.named
  have hlocks := B.notSynchronized
  subst hsz
  have hD : va_D A (wX9_meets cy aM qM vM vM_r vM_st vM_trial) := by rw [← hAe]; exact hD0.self
  have hA : ∀ q : Nat, s.heap.size ≤ q → A q := fun q h => by rw [← hAe]; exact Or.inr h
  have hS : va_S A s.heap s.heap [] := va_S.rf
  have hl := lv_entry ([.ref aM, .int x1, .int x2]) (n := 4) (Nat.le_of_ble_eq_true rfl)
  rw [lg_entry_eq]
  generalize (lg_sl ([.ref aM, .int x1, .int x2]) ++ List.replicate (4 - (lg_sl ([.ref aM, .int x1, .int x2])).length) Slot.unset).toArray = ls at hl ⊢
  have hl : lv_has ls 4 [(0, .ref aM), (1, .int x1), (2, .int x2)] := hl
  generalize hQe : MQ below (kQi D cy zr A (wX9_meets cy aM qM z_vM vM_r vM_st z_vM_trial)) ([.ref aM, .int x1, .int x2] : List Value).toArray s 0 0 A = Q
  have L25 : ∀ (fuel : Nat) (y3_25 : Int32) (vM_trial_25 : Nat → Int32) (vM_25 : Nat → Int32), ∀ (H : Heap) (locs : List Loc) (ls : Array Slot), va_P D vwCl (wX9_meets cy aM qM vM_25 vM_r vM_st vM_trial_25) H → va_D A (wX9_meets cy aM qM vM_25 vM_r vM_st vM_trial_25) → va_S A s.heap H locs → lv_has ls 4 [(0, .ref aM), (1, .int x1), (2, .int x2), (3, .int y3_25)] → lp (fX9_meets_B25 vM_r x1 x2) fuel (y3_25, vM_trial_25, vM_25) = some (zr, z_vM, z_vM_trial) → W p l e ({ frames := 5, cells := 0, slots := 0, locals := 114 } : Room) s m ([.ref aM, .int x1, .int x2] : List Value).toArray below meth c H locs 0 0 Q (F0 m 25 ls []) := by
    intro fuel
    induction fuel with
    | zero => intro y3_25 vM_trial_25 vM_25 H locs ls hP hD hS hl hok; exact (lp_0 hok).elim
    | succ fuel ih25 =>
      intro y3_25 vM_trial_25 vM_25 H locs ls hP hD hS hl hok
      obtain ⟨y25, hok, hL25, hR25⟩ := lp_step hok
      unfold fX9_meets_B25 at hok
      try dsimp only at hok
      refine lv_iload_n hx hb dX9_meets_25 rfl (lv_at hl 3 rfl) ?_
      refine lv_sipush (v := 200) hx hb dX9_meets_26 (by decide) ?_
      refine lv_icmp_gt (tgt := 68) hx hb dX9_meets_29 (by decide) (fun c29 => ?_) (fun c29 => ?_)
      · have hok := k_pos c29 hok
        obtain ⟨e25, hok, he25⟩ := ex_some hok
        have hok := hok.trans (congrArg some (hL25 _ he25))
        refine lv_bipush (v := -2) hx hb dX9_meets_68 (by decide) ?_
        cases hok
        subst hQe; exact W.iret hx hb hr (fun t ht hW => ⟨⟨_, (), rfl, rfl, by rw [ht]; exact hP, va_K.moved hW.alike hK, hD⟩, hS.F ht⟩) hS.2.2 dX9_meets_70
      · have hok := k_neg c29 hok
        refine lv_aload_n hx hb dX9_meets_32 rfl (lv_at hl 0 rfl) ?_
        refine lv_aload_n hx hb dX9_meets_33 rfl (lv_at hl 0 rfl) ?_
        refine va_get (D := D) (ci := 8) (v := .ref (qM 22)) (C := RX9) (T := TX9) (N := 29) hx hb ht0 niX9 hown hK hP 0 rfl rfl 22 (by decide) (ht0 _ wd921) (fun _ h9 => h9) rfl dX9_meets_34 ?_
        refine lv_iload_n hx hb dX9_meets_37 rfl (lv_at hl 1 rfl) ?_
        obtain ⟨g38, hok⟩ := gd_some hok
        refine va_iald hx hb hK hP 3 0 rfl rfl (okI_in g38) dX9_meets_38 ?_
        refine lv_aload_n hx hb dX9_meets_39 rfl (lv_at hl 0 rfl) ?_
        refine va_get (D := D) (ci := 8) (v := .ref (qM 22)) (C := RX9) (T := TX9) (N := 29) hx hb ht0 niX9 hown hK hP 0 rfl rfl 22 (by decide) (ht0 _ wd921) (fun _ h9 => h9) rfl dX9_meets_40 ?_
        refine lv_iload_n hx hb dX9_meets_43 rfl (lv_at hl 2 rfl) ?_
        obtain ⟨g44, hok⟩ := gd_some hok
        refine va_iald hx hb hK hP 3 0 rfl rfl (okI_in g44) dX9_meets_44 ?_
        obtain ⟨r45, hc45, hok⟩ := k_bind hok
        refine kCi (wc := (wX9_areDoored cy aM qM vM_25 vM_r)) (wc2 := (wX9_areDoored cy aM qM vM_25 vM_r)) (wr := [(qM 17, rI cy 9 vM_st), (qM 22, rI cy 9 vM_trial_25)]) (ws2 := (wX9_meets cy aM qM vM_25 vM_r vM_st vM_trial_25)) (kRunV (As := [.int (vM_trial_25 x1.toNatClampNeg), .int (vM_trial_25 x2.toNatClampNeg)]) (rest := []) ⟨hx, hb, hml, hown, ht0⟩ (kX9_areDoored l D cy _ aM qM vM_25 vM_r (vM_trial_25 x1.toNatClampNeg) (vM_trial_25 x2.toNatClampNeg) r45 hc45 _ rfl) (cwV 2 ht0 (gV wd933 wd934 wd935 wd744 wd936) rfl rfl rfl (by decide +kernel) ⟨Nat.le_of_ble_eq_true rfl, Nat.le_of_ble_eq_true rfl⟩) hK hN hP hD [0, 1] rfl (by decide) 0 8 rfl rfl rfl hl.1 rfl (Nat.le_of_ble_eq_true rfl) dX9_meets_45 ⟨Nat.zero_le _, Nat.zero_le _⟩) hP hD hS hA [0, 1] [2, 3] rfl rfl (by decide) (by decide) [2, 3, 0, 1] (by decide) rfl rfl (fun H locs hP hD hS => ?_)
        refine lv_if_eq (tgt := 53) hx hb dX9_meets_48 (by decide) (fun c48 => ?_) (fun c48 => ?_)
        · have hok := k_pos c48 hok
          refine lv_aload_n hx hb dX9_meets_53 rfl (lv_at hl 0 rfl) ?_
          refine lv_aload_n hx hb dX9_meets_54 rfl (lv_at hl 0 rfl) ?_
          refine va_get (D := D) (ci := 8) (v := .ref (qM 22)) (C := RX9) (T := TX9) (N := 29) hx hb ht0 niX9 hown hK hP 0 rfl rfl 22 (by decide) (ht0 _ wd921) (fun _ h9 => h9) rfl dX9_meets_55 ?_
          obtain ⟨⟨r58, p1_58⟩, hc58, hok⟩ := k_bind hok
          try dsimp only at hok
          refine kCi (wc := (wX9_nightOf cy aM (qM 22) qM vM_25 vM_r 9 vM_trial_25)) (wc2 := (wX9_nightOf cy aM (qM 22) qM vM_25 vM_r 9 p1_58)) (wr := [(qM 17, rI cy 9 vM_st)]) (ws2 := (wX9_meets cy aM qM vM_25 vM_r vM_st p1_58)) (kRunV (As := [.ref (qM 22)]) (rest := []) ⟨hx, hb, hml, hown, ht0⟩ (kX9_nightOf l D cy _ aM (qM 22) qM vM_25 vM_r 9 vM_trial_25 r58 p1_58 hc58 _ rfl) (cwV 1 ht0 (gV wd940 wd941 wd942 wd744 wd943) rfl rfl rfl (by decide +kernel) ⟨Nat.le_of_ble_eq_true rfl, Nat.le_of_ble_eq_true rfl⟩) hK hN hP hD [0, 1, 3] rfl (by decide) 0 8 rfl rfl rfl hl.1 rfl (Nat.le_of_ble_eq_true rfl) dX9_meets_58 ⟨Nat.zero_le _, Nat.zero_le _⟩) hP hD hS hA [0, 1, 3] [2] rfl rfl (by decide) (by decide) [1, 2, 0, 3] (by decide) rfl rfl (fun H locs hP hD hS => ?_)
          refine lv_pop hx hb dX9_meets_61 rfl ?_
          refine lv_iinc (v := (y3_25 + 1)) (lv' := [(3, .int (y3_25 + 1)), (0, .ref aM), (1, .int x1), (2, .int x2)]) hx hb dX9_meets_62 hl (k := 3) rfl (by first | rfl | decide) (by decide) rfl (fun ls hl => ?_)
          refine lv_goto (tgt := 25) hx hb dX9_meets_65 (by decide) ?_
          exact ih25 (y3_25 + 1) p1_58 vM_25 H locs ls hP hD hS (lv_sub hl [1, 2, 3, 0] rfl) (hR25 _ (Option.some.inj hok).symm)
        · have hok := k_neg c48 hok
          obtain ⟨e25, hok, he25⟩ := ex_some hok
          have hok := hok.trans (congrArg some (hL25 _ he25))
          refine lv_iload_n hx hb dX9_meets_51 rfl (lv_at hl 3 rfl) ?_
          cases hok
          subst hQe; exact W.iret hx hb hr (fun t ht hW => ⟨⟨_, (), rfl, rfl, by rw [ht]; exact hP, va_K.moved hW.alike hK, hD⟩, hS.F ht⟩) hS.2.2 dX9_meets_52
  unfold fX9_meets at hok
  obtain ⟨H, hH⟩ : ∃ H, H = s.heap := ⟨_, rfl⟩
  obtain ⟨locs, hlc⟩ : ∃ x : List Loc, x = [] := ⟨_, rfl⟩
  have hP : va_P D vwCl (wX9_meets cy aM qM vM vM_r vM_st vM_trial) H := by rw [hH]; exact hP
  have hS : va_S A s.heap H locs := by rw [hH, hlc]; exact hS
  rw [show W p l e _ s m _ below meth c s.heap [] = W p l e _ s m _ below meth c H locs from by rw [hH, hlc]]
  refine lv_aload_n hx hb dX9_meets_0 rfl (lv_at hl 0 rfl) ?_
  obtain ⟨vM_1, hc1, hok⟩ := k_bind hok
  refine kCv (wc := (wX9_good cy aM qM vM)) (wc2 := (wX9_good cy aM qM vM_1)) (wr := [(qM 15, rI cy 224 vM_r), (qM 17, rI cy 9 vM_st), (qM 22, rI cy 9 vM_trial)]) (ws2 := (wX9_meets cy aM qM vM_1 vM_r vM_st vM_trial)) (kRunV (As := []) (rest := []) ⟨hx, hb, hml, hown, ht0⟩ (kX9_good l D cy _ aM qM vM vM_1 hc1 _ rfl) (cwV 0 ht0 (gV wd870 wd871 wd872 wd744 wd873) rfl rfl rfl (by decide +kernel) ⟨Nat.le_of_ble_eq_true rfl, Nat.le_of_ble_eq_true rfl⟩) hK hN hP hD [0] rfl (by decide) 0 8 rfl rfl rfl hl.1 rfl (Nat.le_of_ble_eq_true rfl) dX9_meets_1 ⟨Nat.zero_le _, Nat.zero_le _⟩) hP hD hS hA [0] [1, 2, 3] rfl rfl (by decide) (by decide) [3, 0, 1, 2] (by decide) rfl rfl (fun H locs hP hD hS => ?_)
  refine lv_aload_n hx hb dX9_meets_4 rfl (lv_at hl 0 rfl) ?_
  refine lv_iload_n hx hb dX9_meets_5 rfl (lv_at hl 1 rfl) ?_
  refine lv_iload_n hx hb dX9_meets_6 rfl (lv_at hl 2 rfl) ?_
  obtain ⟨r7, hc7, hok⟩ := k_bind hok
  refine kCi (wc := (wX9_areTwo cy aM qM vM_1 vM_r)) (wc2 := (wX9_areTwo cy aM qM vM_1 vM_r)) (wr := [(qM 17, rI cy 9 vM_st), (qM 22, rI cy 9 vM_trial)]) (ws2 := (wX9_meets cy aM qM vM_1 vM_r vM_st vM_trial)) (kRunV (As := [.int x1, .int x2]) (rest := []) ⟨hx, hb, hml, hown, ht0⟩ (kX9_areTwo l D cy _ aM qM vM_1 vM_r x1 x2 r7 hc7 _ rfl) (cwV 2 ht0 (gV wd952 wd953 wd954 wd744 wd955) rfl rfl rfl (by decide +kernel) ⟨Nat.le_of_ble_eq_true rfl, Nat.le_of_ble_eq_true rfl⟩) hK hN hP hD [0, 1] rfl (by decide) 0 8 rfl rfl rfl hl.1 rfl (Nat.le_of_ble_eq_true rfl) dX9_meets_7 ⟨Nat.zero_le _, Nat.zero_le _⟩) hP hD hS hA [0, 1] [2, 3] rfl rfl (by decide) (by decide) [2, 3, 0, 1] (by decide) rfl rfl (fun H locs hP hD hS => ?_)
  refine lv_if_ne (tgt := 19) hx hb dX9_meets_10 (by decide) (fun c10 => ?_) (fun c10 => ?_)
  · have hok := k_neg c10 hok
    refine lv_aload_n hx hb dX9_meets_19 rfl (lv_at hl 0 rfl) ?_
    obtain ⟨vM_trial_20, hc20, hok⟩ := k_bind hok
    refine kCv (wc := (wX9_begin cy aM qM vM_1 vM_st vM_trial)) (wc2 := (wX9_begin cy aM qM vM_1 vM_st vM_trial_20)) (wr := [(qM 15, rI cy 224 vM_r)]) (ws2 := (wX9_meets cy aM qM vM_1 vM_r vM_st vM_trial_20)) (kRunV (As := []) (rest := []) ⟨hx, hb, hml, hown, ht0⟩ (kX9_begin l D cy _ aM qM vM_1 vM_st vM_trial vM_trial_20 hc20 _ rfl) (cwV 0 ht0 (gV wd948 wd949 wd950 wd744 wd951) rfl rfl rfl (by decide +kernel) ⟨Nat.le_of_ble_eq_true rfl, Nat.le_of_ble_eq_true rfl⟩) hK hN hP hD [0, 2, 3] rfl (by decide) 0 8 rfl rfl rfl hl.1 rfl (Nat.le_of_ble_eq_true rfl) dX9_meets_20 ⟨Nat.zero_le _, Nat.zero_le _⟩) hP hD hS hA [0, 2, 3] [1] rfl rfl (by decide) (by decide) [1, 0, 2, 3] (by decide) rfl rfl (fun H locs hP hD hS => ?_)
    refine lv_iconst (v := 0) hx hb dX9_meets_23 (by decide) ?_
    refine lv_istore_n (lv' := [(3, .int 0), (0, .ref aM), (1, .int x1), (2, .int x2)]) hx hb dX9_meets_24 rfl hl (by decide) rfl (fun ls hl => ?_)
    exact L25 5000 (0 : Int32) vM_trial_20 vM_1 H locs ls hP hD hS (lv_sub hl [1, 2, 3, 0] rfl) hok
  · have hok := k_pos c10 hok
    refine lv_aload_n hx hb dX9_meets_13 rfl (lv_at hl 0 rfl) ?_
    refine lv_iconst (v := 1) hx hb dX9_meets_14 (by decide) ?_
    obtain ⟨⟨r15, vM_15⟩, hc15, hok⟩ := k_bind hok
    try dsimp only at hok
    refine kCi (wc := (wX9_no cy aM qM vM_1)) (wc2 := (wX9_no cy aM qM vM_15)) (wr := [(qM 15, rI cy 224 vM_r), (qM 17, rI cy 9 vM_st), (qM 22, rI cy 9 vM_trial)]) (ws2 := (wX9_meets cy aM qM vM_15 vM_r vM_st vM_trial)) (kRunV (As := [.int 1]) (rest := []) ⟨hx, hb, hml, hown, ht0⟩ (kX9_no l D cy _ aM qM vM_1 (1 : Int32) r15 vM_15 hc15 _ rfl) (cwV 1 ht0 (gV wd862 wd863 wd864 wd744 wd865) rfl rfl rfl (by decide +kernel) ⟨Nat.le_of_ble_eq_true rfl, Nat.le_of_ble_eq_true rfl⟩) hK hN hP hD [0] rfl (by decide) 0 8 rfl rfl rfl hl.1 rfl (Nat.le_of_ble_eq_true rfl) dX9_meets_15 ⟨Nat.zero_le _, Nat.zero_le _⟩) hP hD hS hA [0] [1, 2, 3] rfl rfl (by decide) (by decide) [3, 0, 1, 2] (by decide) rfl rfl (fun H locs hP hD hS => ?_)
    cases hok
    subst hQe; exact W.iret hx hb hr (fun t ht hW => ⟨⟨_, (), rfl, rfl, by rw [ht]; exact hP, va_K.moved hW.alike hK, hD⟩, hS.F ht⟩) hS.2.2 dX9_meets_18
def wsX9_still : List Cond := .code yX9_still cX9_still 2 (some .int) :: W0
abbrev wX9_still (cy : Nat → ClassId) (aM : Nat) (qM : Nat → Nat) (vM : Nat → Int32) (vM_st : Nat → Int32) (vM_trial : Nat → Int32) (vM_r : Nat → Int32) : va_W := [(aM, oX9 vM qM), (qM 17, rI cy 9 vM_st), (qM 22, rI cy 9 vM_trial), (qM 15, rI cy 224 vM_r)]
set_option maxHeartbeats 4000000 in
set_option maxRecDepth 100000 in
theorem kX9_still (l : Launch) (D : va_G) (cy : Nat → ClassId) (sz : Nat) (aM : Nat) (qM : Nat → Nat) (vM : Nat → Int32) (vM_st : Nat → Int32) (vM_trial : Nat → Int32) (vM_r : Nat → Int32) (zr : Int32) (z_vM : Nat → Int32) (z_vM_trial : Nat → Int32) (hok : fX9_still vM vM_st vM_trial vM_r = some (zr, z_vM, z_vM_trial)) (A : Nat → Prop) (hAe : va_A (wX9_still cy aM qM vM vM_st vM_trial vM_r) sz = A) : Met l yX9_still wsX9_still ({ frames := 5, cells := 0, slots := 0, locals := 114 } : Room) (kPre D cy [.ref aM] (wX9_still cy aM qM vM vM_st vM_trial vM_r) sz) (kQi D cy zr A (wX9_still cy aM qM z_vM vM_st z_vM_trial vM_r)) 0 0 A := by
  refine Met.ofW (cc := cX9_still) (maxL := 2) (ret := (some .int)) (by decide) rfl ?_
  intro p e s m args below meth c s₁ B hml hv
  obtain ⟨rfl, hsz, hP, hK, hD0, hN⟩ := hv
  have hx := B.exec
  have hb := B.bytes
  have hr := B.returns
  have ht0 : ∀ w ∈ W0, w.before _ s = true := fun w h => atoms_spec (ws := wsX9_still) B.pre w (List.mem_cons_of_mem _ h)
  have hown : s.vm.findClass RX9 = some m.cls := findClass_of_methodNamed B.named
  have hlocks := B.notSynchronized
  subst hsz
  have hD : va_D A (wX9_still cy aM qM vM vM_st vM_trial vM_r) := by rw [← hAe]; exact hD0.self
  have hA : ∀ q : Nat, s.heap.size ≤ q → A q := fun q h => by rw [← hAe]; exact Or.inr h
  have hS : va_S A s.heap s.heap [] := va_S.rf
  have hl := lv_entry ([.ref aM]) (n := 2) (Nat.le_of_ble_eq_true rfl)
  rw [lg_entry_eq]
  generalize (lg_sl ([.ref aM]) ++ List.replicate (2 - (lg_sl ([.ref aM])).length) Slot.unset).toArray = ls at hl ⊢
  have hl : lv_has ls 2 [(0, .ref aM)] := hl
  generalize hQe : MQ below (kQi D cy zr A (wX9_still cy aM qM z_vM vM_st z_vM_trial vM_r)) ([.ref aM] : List Value).toArray s 0 0 A = Q
  have L23 : ∀ (fuel : Nat) (y1_23 : Int32) (vM_trial_23 : Nat → Int32) (vM_23 : Nat → Int32), ∀ (H : Heap) (locs : List Loc) (ls : Array Slot), va_P D vwCl (wX9_still cy aM qM vM_23 vM_st vM_trial_23 vM_r) H → va_D A (wX9_still cy aM qM vM_23 vM_st vM_trial_23 vM_r) → va_S A s.heap H locs → lv_has ls 2 [(0, .ref aM), (1, .int y1_23)] → lp (fX9_still_B23 vM_r) fuel (y1_23, vM_trial_23, vM_23) = some (zr, z_vM, z_vM_trial) → W p l e ({ frames := 5, cells := 0, slots := 0, locals := 114 } : Room) s m ([.ref aM] : List Value).toArray below meth c H locs 0 0 Q (F0 m 23 ls []) := by
    intro fuel
    induction fuel with
    | zero => intro y1_23 vM_trial_23 vM_23 H locs ls hP hD hS hl hok; exact (lp_0 hok).elim
    | succ fuel ih23 =>
      intro y1_23 vM_trial_23 vM_23 H locs ls hP hD hS hl hok
      obtain ⟨y23, hok, hL23, hR23⟩ := lp_step hok
      unfold fX9_still_B23 at hok
      try dsimp only at hok
      refine lv_iload_n hx hb dX9_still_23 rfl (lv_at hl 1 rfl) ?_
      refine lv_sipush (v := 200) hx hb dX9_still_24 (by decide) ?_
      refine lv_icmp_gt (tgt := 49) hx hb dX9_still_27 (by decide) (fun c27 => ?_) (fun c27 => ?_)
      · have hok := k_pos c27 hok
        obtain ⟨e23, hok, he23⟩ := ex_some hok
        have hok := hok.trans (congrArg some (hL23 _ he23))
        refine lv_bipush (v := -2) hx hb dX9_still_49 (by decide) ?_
        cases hok
        subst hQe; exact W.iret hx hb hr (fun t ht hW => ⟨⟨_, (), rfl, rfl, by rw [ht]; exact hP, va_K.moved hW.alike hK, hD⟩, hS.F ht⟩) hS.2.2 dX9_still_51
      · have hok := k_neg c27 hok
        refine lv_aload_n hx hb dX9_still_30 rfl (lv_at hl 0 rfl) ?_
        refine lv_aload_n hx hb dX9_still_31 rfl (lv_at hl 0 rfl) ?_
        refine va_get (D := D) (ci := 8) (v := .ref (qM 22)) (C := RX9) (T := TX9) (N := 29) hx hb ht0 niX9 hown hK hP 0 rfl rfl 22 (by decide) (ht0 _ wd921) (fun _ h9 => h9) rfl dX9_still_32 ?_
        obtain ⟨⟨r35, p1_35⟩, hc35, hok⟩ := k_bind hok
        try dsimp only at hok
        refine kCi (wc := (wX9_nightOf cy aM (qM 22) qM vM_23 vM_r 9 vM_trial_23)) (wc2 := (wX9_nightOf cy aM (qM 22) qM vM_23 vM_r 9 p1_35)) (wr := [(qM 17, rI cy 9 vM_st)]) (ws2 := (wX9_still cy aM qM vM_23 vM_st p1_35 vM_r)) (kRunV (As := [.ref (qM 22)]) (rest := []) ⟨hx, hb, hml, hown, ht0⟩ (kX9_nightOf l D cy _ aM (qM 22) qM vM_23 vM_r 9 vM_trial_23 r35 p1_35 hc35 _ rfl) (cwV 1 ht0 (gV wd940 wd941 wd942 wd744 wd943) rfl rfl rfl (by decide +kernel) ⟨Nat.le_of_ble_eq_true rfl, Nat.le_of_ble_eq_true rfl⟩) hK hN hP hD [0, 3, 2] rfl (by decide) 0 8 rfl rfl rfl hl.1 rfl (Nat.le_of_ble_eq_true rfl) dX9_still_35 ⟨Nat.zero_le _, Nat.zero_le _⟩) hP hD hS hA [0, 3, 2] [1] rfl rfl (by decide) (by decide) [1, 0, 3, 2] (by decide) rfl rfl (fun H locs hP hD hS => ?_)
        refine lv_if_ne (tgt := 43) hx hb dX9_still_38 (by decide) (fun c38 => ?_) (fun c38 => ?_)
        · have hok := k_neg c38 hok
          refine lv_iinc (v := (y1_23 + 1)) (lv' := [(1, .int (y1_23 + 1)), (0, .ref aM)]) hx hb dX9_still_43 hl (k := 1) rfl (by first | rfl | decide) (by decide) rfl (fun ls hl => ?_)
          refine lv_goto (tgt := 23) hx hb dX9_still_46 (by decide) ?_
          exact ih23 (y1_23 + 1) p1_35 vM_23 H locs ls hP hD hS (lv_sub hl [1, 0] rfl) (hR23 _ (Option.some.inj hok).symm)
        · have hok := k_pos c38 hok
          obtain ⟨e23, hok, he23⟩ := ex_some hok
          have hok := hok.trans (congrArg some (hL23 _ he23))
          refine lv_iload_n hx hb dX9_still_41 rfl (lv_at hl 1 rfl) ?_
          cases hok
          subst hQe; exact W.iret hx hb hr (fun t ht hW => ⟨⟨_, (), rfl, rfl, by rw [ht]; exact hP, va_K.moved hW.alike hK, hD⟩, hS.F ht⟩) hS.2.2 dX9_still_42
  unfold fX9_still at hok
  obtain ⟨H, hH⟩ : ∃ H, H = s.heap := ⟨_, rfl⟩
  obtain ⟨locs, hlc⟩ : ∃ x : List Loc, x = [] := ⟨_, rfl⟩
  have hP : va_P D vwCl (wX9_still cy aM qM vM vM_st vM_trial vM_r) H := by rw [hH]; exact hP
  have hS : va_S A s.heap H locs := by rw [hH, hlc]; exact hS
  rw [show W p l e _ s m _ below meth c s.heap [] = W p l e _ s m _ below meth c H locs from by rw [hH, hlc]]
  refine lv_aload_n hx hb dX9_still_0 rfl (lv_at hl 0 rfl) ?_
  obtain ⟨vM_1, hc1, hok⟩ := k_bind hok
  refine kCv (wc := (wX9_good cy aM qM vM)) (wc2 := (wX9_good cy aM qM vM_1)) (wr := [(qM 17, rI cy 9 vM_st), (qM 22, rI cy 9 vM_trial), (qM 15, rI cy 224 vM_r)]) (ws2 := (wX9_still cy aM qM vM_1 vM_st vM_trial vM_r)) (kRunV (As := []) (rest := []) ⟨hx, hb, hml, hown, ht0⟩ (kX9_good l D cy _ aM qM vM vM_1 hc1 _ rfl) (cwV 0 ht0 (gV wd870 wd871 wd872 wd744 wd873) rfl rfl rfl (by decide +kernel) ⟨Nat.le_of_ble_eq_true rfl, Nat.le_of_ble_eq_true rfl⟩) hK hN hP hD [0] rfl (by decide) 0 8 rfl rfl rfl hl.1 rfl (Nat.le_of_ble_eq_true rfl) dX9_still_1 ⟨Nat.zero_le _, Nat.zero_le _⟩) hP hD hS hA [0] [1, 2, 3] rfl rfl (by decide) (by decide) [3, 0, 1, 2] (by decide) rfl rfl (fun H locs hP hD hS => ?_)
  refine lv_aload_n hx hb dX9_still_4 rfl (lv_at hl 0 rfl) ?_
  refine va_get (D := D) (ci := 8) (v := .int (vM_1 14)) (C := RX9) (T := TX9) (N := 29) hx hb ht0 niX9 hown hK hP 0 rfl rfl 14 (by decide) (ht0 _ wd855) (fun _ h9 => h9) rfl dX9_still_5 ?_
  refine lv_if_ne (tgt := 17) hx hb dX9_still_8 (by decide) (fun c8 => ?_) (fun c8 => ?_)
  · have hok := k_neg c8 hok
    refine lv_aload_n hx hb dX9_still_17 rfl (lv_at hl 0 rfl) ?_
    obtain ⟨vM_trial_18, hc18, hok⟩ := k_bind hok
    refine kCv (wc := (wX9_begin cy aM qM vM_1 vM_st vM_trial)) (wc2 := (wX9_begin cy aM qM vM_1 vM_st vM_trial_18)) (wr := [(qM 15, rI cy 224 vM_r)]) (ws2 := (wX9_still cy aM qM vM_1 vM_st vM_trial_18 vM_r)) (kRunV (As := []) (rest := []) ⟨hx, hb, hml, hown, ht0⟩ (kX9_begin l D cy _ aM qM vM_1 vM_st vM_trial vM_trial_18 hc18 _ rfl) (cwV 0 ht0 (gV wd948 wd949 wd950 wd744 wd951) rfl rfl rfl (by decide +kernel) ⟨Nat.le_of_ble_eq_true rfl, Nat.le_of_ble_eq_true rfl⟩) hK hN hP hD [0, 1, 2] rfl (by decide) 0 8 rfl rfl rfl hl.1 rfl (Nat.le_of_ble_eq_true rfl) dX9_still_18 ⟨Nat.zero_le _, Nat.zero_le _⟩) hP hD hS hA [0, 1, 2] [3] rfl rfl (by decide) (by decide) [1, 2, 3, 0] (by decide) rfl rfl (fun H locs hP hD hS => ?_)
    refine lv_iconst (v := 0) hx hb dX9_still_21 (by decide) ?_
    refine lv_istore_n (lv' := [(1, .int 0), (0, .ref aM)]) hx hb dX9_still_22 rfl hl (by decide) rfl (fun ls hl => ?_)
    exact L23 5000 (0 : Int32) vM_trial_18 vM_1 H locs ls hP hD hS (lv_sub hl [1, 0] rfl) hok
  · have hok := k_pos c8 hok
    refine lv_aload_n hx hb dX9_still_11 rfl (lv_at hl 0 rfl) ?_
    refine lv_iconst (v := 1) hx hb dX9_still_12 (by decide) ?_
    obtain ⟨⟨r13, vM_13⟩, hc13, hok⟩ := k_bind hok
    try dsimp only at hok
    refine kCi (wc := (wX9_no cy aM qM vM_1)) (wc2 := (wX9_no cy aM qM vM_13)) (wr := [(qM 17, rI cy 9 vM_st), (qM 22, rI cy 9 vM_trial), (qM 15, rI cy 224 vM_r)]) (ws2 := (wX9_still cy aM qM vM_13 vM_st vM_trial vM_r)) (kRunV (As := [.int 1]) (rest := []) ⟨hx, hb, hml, hown, ht0⟩ (kX9_no l D cy _ aM qM vM_1 (1 : Int32) r13 vM_13 hc13 _ rfl) (cwV 1 ht0 (gV wd862 wd863 wd864 wd744 wd865) rfl rfl rfl (by decide +kernel) ⟨Nat.le_of_ble_eq_true rfl, Nat.le_of_ble_eq_true rfl⟩) hK hN hP hD [0] rfl (by decide) 0 8 rfl rfl rfl hl.1 rfl (Nat.le_of_ble_eq_true rfl) dX9_still_13 ⟨Nat.zero_le _, Nat.zero_le _⟩) hP hD hS hA [0] [1, 2, 3] rfl rfl (by decide) (by decide) [3, 0, 1, 2] (by decide) rfl rfl (fun H locs hP hD hS => ?_)
    cases hok
    subst hQe; exact W.iret hx hb hr (fun t ht hW => ⟨⟨_, (), rfl, rfl, by rw [ht]; exact hP, va_K.moved hW.alike hK, hD⟩, hS.F ht⟩) hS.2.2 dX9_still_16
def wsX9_period : List Cond := .code yX9_period cX9_period 4 (some .int) :: W0
abbrev wX9_period (cy : Nat → ClassId) (aM : Nat) (qM : Nat → Nat) (vM : Nat → Int32) (vM_st : Nat → Int32) (vM_trial : Nat → Int32) (vM_r : Nat → Int32) : va_W := [(aM, oX9 vM qM), (qM 17, rI cy 9 vM_st), (qM 22, rI cy 9 vM_trial), (qM 15, rI cy 224 vM_r)]
set_option maxHeartbeats 4000000 in
set_option maxRecDepth 100000 in
theorem kX9_period (l : Launch) (D : va_G) (cy : Nat → ClassId) (sz : Nat) (aM : Nat) (qM : Nat → Nat) (vM : Nat → Int32) (vM_st : Nat → Int32) (vM_trial : Nat → Int32) (vM_r : Nat → Int32) (zr : Int32) (z_vM : Nat → Int32) (z_vM_trial : Nat → Int32) (hok : fX9_period vM vM_st vM_trial vM_r = some (zr, z_vM, z_vM_trial)) (A : Nat → Prop) (hAe : va_A (wX9_period cy aM qM vM vM_st vM_trial vM_r) sz = A) : Met l yX9_period wsX9_period ({ frames := 5, cells := 0, slots := 0, locals := 114 } : Room) (kPre D cy [.ref aM] (wX9_period cy aM qM vM vM_st vM_trial vM_r) sz) (kQi D cy zr A (wX9_period cy aM qM z_vM vM_st z_vM_trial vM_r)) 0 0 A := by
  refine Met.ofW (cc := cX9_period) (maxL := 4) (ret := (some .int)) (by decide) rfl ?_
  intro p e s m args below meth c s₁ B hml hv
  obtain ⟨rfl, hsz, hP, hK, hD0, hN⟩ := hv
  have hx := B.exec
  have hb := B.bytes
  have hr := B.returns
  have ht0 : ∀ w ∈ W0, w.before _ s = true := fun w h => atoms_spec (ws := wsX9_period) B.pre w (List.mem_cons_of_mem _ h)
  have hown : s.vm.findClass RX9 = some m.cls := findClass_of_methodNamed B.named
  have hlocks := B.notSynchronized
  subst hsz
  have hD : va_D A (wX9_period cy aM qM vM vM_st vM_trial vM_r) := by rw [← hAe]; exact hD0.self
  have hA : ∀ q : Nat, s.heap.size ≤ q → A q := fun q h => by rw [← hAe]; exact Or.inr h
  have hS : va_S A s.heap s.heap [] := va_S.rf
  have hl := lv_entry ([.ref aM]) (n := 4) (Nat.le_of_ble_eq_true rfl)
  rw [lg_entry_eq]
  generalize (lg_sl ([.ref aM]) ++ List.replicate (4 - (lg_sl ([.ref aM])).length) Slot.unset).toArray = ls at hl ⊢
  have hl : lv_has ls 4 [(0, .ref aM)] := hl
  generalize hQe : MQ below (kQi D cy zr A (wX9_period cy aM qM z_vM vM_st z_vM_trial vM_r)) ([.ref aM] : List Value).toArray s 0 0 A = Q
  have L23 : ∀ (fuel : Nat) (y1_23 : Int32) (vM_trial_23 : Nat → Int32) (vM_23 : Nat → Int32), ∀ (H : Heap) (locs : List Loc) (ls : Array Slot), va_P D vwCl (wX9_period cy aM qM vM_23 vM_st vM_trial_23 vM_r) H → va_D A (wX9_period cy aM qM vM_23 vM_st vM_trial_23 vM_r) → va_S A s.heap H locs → lv_has ls 4 [(0, .ref aM), (1, .int y1_23)] → lp (fX9_period_B23 vM_st vM_r) fuel (y1_23, vM_trial_23, vM_23) = some (zr, z_vM, z_vM_trial) → W p l e ({ frames := 5, cells := 0, slots := 0, locals := 114 } : Room) s m ([.ref aM] : List Value).toArray below meth c H locs 0 0 Q (F0 m 23 ls []) := by
    intro fuel
    induction fuel with
    | zero => intro y1_23 vM_trial_23 vM_23 H locs ls hP hD hS hl hok; exact (lp_0 hok).elim
    | succ fuel ih23 =>
      intro y1_23 vM_trial_23 vM_23 H locs ls hP hD hS hl hok
      obtain ⟨y23, hok, hL23, hR23⟩ := lp_step hok
      have L43 : ∀ (fuel : Nat) (y2_43 : Int32) (y3_43 : Int32) (vM_trial_43 : Nat → Int32), ∀ (H : Heap) (locs : List Loc) (ls : Array Slot), va_P D vwCl (wX9_period cy aM qM vM_23 vM_st vM_trial_43 vM_r) H → va_D A (wX9_period cy aM qM vM_23 vM_st vM_trial_43 vM_r) → va_S A s.heap H locs → lv_has ls 4 [(0, .ref aM), (1, .int y1_23), (2, .int y2_43), (3, .int y3_43)] → lp (fX9_period_B43 vM_st vM_r y1_23 vM_23) fuel (y2_43, y3_43, vM_trial_43) = some y23 → W p l e ({ frames := 5, cells := 0, slots := 0, locals := 114 } : Room) s m ([.ref aM] : List Value).toArray below meth c H locs 0 0 Q (F0 m 43 ls []) := by
        intro fuel
        induction fuel with
        | zero => intro y2_43 y3_43 vM_trial_43 H locs ls hP hD hS hl hok; exact (lp_0 hok).elim
        | succ fuel ih43 =>
          intro y2_43 y3_43 vM_trial_43 H locs ls hP hD hS hl hok
          obtain ⟨y43, hok, hL43, hR43⟩ := lp_step hok
          have J77 : ∀ (t0_77 : Int32), ∀ (H : Heap) (locs : List Loc) (ls : Array Slot), va_P D vwCl (wX9_period cy aM qM vM_23 vM_st vM_trial_43 vM_r) H → va_D A (wX9_period cy aM qM vM_23 vM_st vM_trial_43 vM_r) → va_S A s.heap H locs → lv_has ls 4 [(0, .ref aM), (1, .int y1_23), (3, .int y3_43)] → fX9_period_J77 y3_43 vM_trial_43 t0_77 = some y43 → W p l e ({ frames := 5, cells := 0, slots := 0, locals := 114 } : Room) s m ([.ref aM] : List Value).toArray below meth c H locs 0 0 Q (F0 m 77 ls [.int t0_77]) := by
            intro t0_77 H locs ls hP hD hS hl hok
            unfold fX9_period_J77 at hok
            refine lv_istore_n (lv' := [(2, .int t0_77), (0, .ref aM), (1, .int y1_23), (3, .int y3_43)]) hx hb dX9_period_77 rfl hl (by decide) rfl (fun ls hl => ?_)
            refine lv_iinc (v := (y3_43 + 1)) (lv' := [(3, .int (y3_43 + 1)), (2, .int t0_77), (0, .ref aM), (1, .int y1_23)]) hx hb dX9_period_78 hl (k := 3) rfl (by first | rfl | decide) (by decide) rfl (fun ls hl => ?_)
            refine lv_goto (tgt := 43) hx hb dX9_period_81 (by decide) ?_
            exact ih43 t0_77 (y3_43 + 1) vM_trial_43 H locs ls hP hD hS (lv_sub hl [2, 3, 1, 0] rfl) (hR43 _ (Option.some.inj hok).symm)
          have J76 : ∀ (H : Heap) (locs : List Loc) (ls : Array Slot), va_P D vwCl (wX9_period cy aM qM vM_23 vM_st vM_trial_43 vM_r) H → va_D A (wX9_period cy aM qM vM_23 vM_st vM_trial_43 vM_r) → va_S A s.heap H locs → lv_has ls 4 [(0, .ref aM), (1, .int y1_23), (3, .int y3_43)] → fX9_period_J76 y3_43 vM_trial_43 = some y43 → W p l e ({ frames := 5, cells := 0, slots := 0, locals := 114 } : Room) s m ([.ref aM] : List Value).toArray below meth c H locs 0 0 Q (F0 m 76 ls []) := by
            intro  H locs ls hP hD hS hl hok
            unfold fX9_period_J76 at hok
            refine lv_iconst (v := 0) hx hb dX9_period_76 (by decide) ?_
            exact J77 (0 : Int32) H locs ls hP hD hS (lv_sub hl [0, 1, 2] rfl) hok
          unfold fX9_period_B43 at hok
          try dsimp only at hok
          refine lv_iload_n hx hb dX9_period_43 rfl (lv_at hl 3 rfl) ?_
          refine lv_aload_n hx hb dX9_period_44 rfl (lv_at hl 0 rfl) ?_
          refine va_get (D := D) (ci := 8) (v := .ref (qM 15)) (C := RX9) (T := TX9) (N := 29) hx hb ht0 niX9 hown hK hP 0 rfl rfl 15 (by decide) (ht0 _ wd854) (fun _ h9 => h9) rfl dX9_period_45 ?_
          refine lv_iconst (v := 3) hx hb dX9_period_48 (by decide) ?_
          obtain ⟨g49, hok⟩ := gd_some hok
          refine va_iald hx hb hK hP 3 0 rfl rfl (okI_in g49) dX9_period_49 ?_
          refine lv_icmp_ge (tgt := 84) hx hb dX9_period_50 (by decide) (fun c50 => ?_) (fun c50 => ?_)
          · have hok := k_pos c50 hok
            obtain ⟨e43, hok, he43⟩ := ex_some hok
            have hok := hok.trans (congrArg some (hL43 _ he43))
            refine lv_iload_n hx hb dX9_period_84 rfl (lv_at hl 2 rfl) ?_
            refine lv_if_eq (tgt := 90) hx hb dX9_period_85 (by decide) (fun c85 => ?_) (fun c85 => ?_)
            · have hok := k_pos c85 hok
              refine lv_iinc (v := (y1_23 + 1)) (lv' := [(1, .int (y1_23 + 1)), (0, .ref aM), (2, .int y2_43), (3, .int y3_43)]) hx hb dX9_period_90 hl (k := 1) rfl (by first | rfl | decide) (by decide) rfl (fun ls hl => ?_)
              refine lv_goto (tgt := 23) hx hb dX9_period_93 (by decide) ?_
              exact ih23 (y1_23 + 1) vM_trial_43 vM_23 H locs ls hP hD hS (lv_sub hl [1, 0] rfl) (hR23 _ (Option.some.inj hok).symm)
            · have hok := k_neg c85 hok
              obtain ⟨e23, hok, he23⟩ := ex_some hok
              have hok := hok.trans (congrArg some (hL23 _ he23))
              refine lv_iload_n hx hb dX9_period_88 rfl (lv_at hl 1 rfl) ?_
              cases hok
              subst hQe; exact W.iret hx hb hr (fun t ht hW => ⟨⟨_, (), rfl, rfl, by rw [ht]; exact hP, va_K.moved hW.alike hK, hD⟩, hS.F ht⟩) hS.2.2 dX9_period_89
          · have hok := k_neg c50 hok
            refine lv_iload_n hx hb dX9_period_53 rfl (lv_at hl 2 rfl) ?_
            refine lv_if_eq (tgt := 76) hx hb dX9_period_54 (by decide) (fun c54 => ?_) (fun c54 => ?_)
            · have hok := k_pos c54 hok
              exact J76  H locs ls hP hD hS (lv_sub hl [0, 1, 3] rfl) hok
            · have hok := k_neg c54 hok
              refine lv_aload_n hx hb dX9_period_57 rfl (lv_at hl 0 rfl) ?_
              refine va_get (D := D) (ci := 8) (v := .ref (qM 22)) (C := RX9) (T := TX9) (N := 29) hx hb ht0 niX9 hown hK hP 0 rfl rfl 22 (by decide) (ht0 _ wd921) (fun _ h9 => h9) rfl dX9_period_58 ?_
              refine lv_iload_n hx hb dX9_period_61 rfl (lv_at hl 3 rfl) ?_
              obtain ⟨g62, hok⟩ := gd_some hok
              refine va_iald hx hb hK hP 2 0 rfl rfl (okI_in g62) dX9_period_62 ?_
              refine lv_aload_n hx hb dX9_period_63 rfl (lv_at hl 0 rfl) ?_
              refine va_get (D := D) (ci := 8) (v := .ref (qM 17)) (C := RX9) (T := TX9) (N := 29) hx hb ht0 niX9 hown hK hP 0 rfl rfl 17 (by decide) (ht0 _ wd858) (fun _ h9 => h9) rfl dX9_period_64 ?_
              refine lv_iload_n hx hb dX9_period_67 rfl (lv_at hl 3 rfl) ?_
              obtain ⟨g68, hok⟩ := gd_some hok
              refine va_iald hx hb hK hP 1 0 rfl rfl (okI_in g68) dX9_period_68 ?_
              refine lv_icmp_ne (tgt := 76) hx hb dX9_period_69 (by decide) (fun c69 => ?_) (fun c69 => ?_)
              · have hok := k_neg c69 hok
                exact J76  H locs ls hP hD hS (lv_sub hl [0, 1, 3] rfl) hok
              · have hok := k_pos c69 hok
                refine lv_iconst (v := 1) hx hb dX9_period_72 (by decide) ?_
                refine lv_goto (tgt := 77) hx hb dX9_period_73 (by decide) ?_
                exact J77 (1 : Int32) H locs ls hP hD hS (lv_sub hl [0, 1, 3] rfl) hok
      unfold fX9_period_B23 at hok
      try dsimp only at hok
      refine lv_iload_n hx hb dX9_period_23 rfl (lv_at hl 1 rfl) ?_
      refine lv_sipush (v := 200) hx hb dX9_period_24 (by decide) ?_
      refine lv_icmp_gt (tgt := 96) hx hb dX9_period_27 (by decide) (fun c27 => ?_) (fun c27 => ?_)
      · have hok := k_pos c27 hok
        obtain ⟨e23, hok, he23⟩ := ex_some hok
        have hok := hok.trans (congrArg some (hL23 _ he23))
        refine lv_bipush (v := -2) hx hb dX9_period_96 (by decide) ?_
        cases hok
        subst hQe; exact W.iret hx hb hr (fun t ht hW => ⟨⟨_, (), rfl, rfl, by rw [ht]; exact hP, va_K.moved hW.alike hK, hD⟩, hS.F ht⟩) hS.2.2 dX9_period_98
      · have hok := k_neg c27 hok
        refine lv_aload_n hx hb dX9_period_30 rfl (lv_at hl 0 rfl) ?_
        refine lv_aload_n hx hb dX9_period_31 rfl (lv_at hl 0 rfl) ?_
        refine va_get (D := D) (ci := 8) (v := .ref (qM 22)) (C := RX9) (T := TX9) (N := 29) hx hb ht0 niX9 hown hK hP 0 rfl rfl 22 (by decide) (ht0 _ wd921) (fun _ h9 => h9) rfl dX9_period_32 ?_
        obtain ⟨⟨r35, p1_35⟩, hc35, hok⟩ := k_bind hok
        try dsimp only at hok
        refine kCi (wc := (wX9_nightOf cy aM (qM 22) qM vM_23 vM_r 9 vM_trial_23)) (wc2 := (wX9_nightOf cy aM (qM 22) qM vM_23 vM_r 9 p1_35)) (wr := [(qM 17, rI cy 9 vM_st)]) (ws2 := (wX9_period cy aM qM vM_23 vM_st p1_35 vM_r)) (kRunV (As := [.ref (qM 22)]) (rest := []) ⟨hx, hb, hml, hown, ht0⟩ (kX9_nightOf l D cy _ aM (qM 22) qM vM_23 vM_r 9 vM_trial_23 r35 p1_35 hc35 _ rfl) (cwV 1 ht0 (gV wd940 wd941 wd942 wd744 wd943) rfl rfl rfl (by decide +kernel) ⟨Nat.le_of_ble_eq_true rfl, Nat.le_of_ble_eq_true rfl⟩) hK hN hP hD [0, 3, 2] rfl (by decide) 0 8 rfl rfl rfl hl.1 rfl (Nat.le_of_ble_eq_true rfl) dX9_period_35 ⟨Nat.zero_le _, Nat.zero_le _⟩) hP hD hS hA [0, 3, 2] [1] rfl rfl (by decide) (by decide) [1, 0, 3, 2] (by decide) rfl rfl (fun H locs hP hD hS => ?_)
        refine lv_pop hx hb dX9_period_38 rfl ?_
        refine lv_iconst (v := 1) hx hb dX9_period_39 (by decide) ?_
        refine lv_istore_n (lv' := [(2, .int 1), (0, .ref aM), (1, .int y1_23)]) hx hb dX9_period_40 rfl hl (by decide) rfl (fun ls hl => ?_)
        refine lv_iconst (v := 0) hx hb dX9_period_41 (by decide) ?_
        refine lv_istore_n (lv' := [(3, .int 0), (2, .int 1), (0, .ref aM), (1, .int y1_23)]) hx hb dX9_period_42 rfl hl (by decide) rfl (fun ls hl => ?_)
        exact L43 5000 (1 : Int32) (0 : Int32) p1_35 H locs ls hP hD hS (lv_sub hl [2, 3, 1, 0] rfl) hok
  unfold fX9_period at hok
  obtain ⟨H, hH⟩ : ∃ H, H = s.heap := ⟨_, rfl⟩
  obtain ⟨locs, hlc⟩ : ∃ x : List Loc, x = [] := ⟨_, rfl⟩
  have hP : va_P D vwCl (wX9_period cy aM qM vM vM_st vM_trial vM_r) H := by rw [hH]; exact hP
  have hS : va_S A s.heap H locs := by rw [hH, hlc]; exact hS
  rw [show W p l e _ s m _ below meth c s.heap [] = W p l e _ s m _ below meth c H locs from by rw [hH, hlc]]
  refine lv_aload_n hx hb dX9_period_0 rfl (lv_at hl 0 rfl) ?_
  obtain ⟨vM_1, hc1, hok⟩ := k_bind hok
  refine kCv (wc := (wX9_good cy aM qM vM)) (wc2 := (wX9_good cy aM qM vM_1)) (wr := [(qM 17, rI cy 9 vM_st), (qM 22, rI cy 9 vM_trial), (qM 15, rI cy 224 vM_r)]) (ws2 := (wX9_period cy aM qM vM_1 vM_st vM_trial vM_r)) (kRunV (As := []) (rest := []) ⟨hx, hb, hml, hown, ht0⟩ (kX9_good l D cy _ aM qM vM vM_1 hc1 _ rfl) (cwV 0 ht0 (gV wd870 wd871 wd872 wd744 wd873) rfl rfl rfl (by decide +kernel) ⟨Nat.le_of_ble_eq_true rfl, Nat.le_of_ble_eq_true rfl⟩) hK hN hP hD [0] rfl (by decide) 0 8 rfl rfl rfl hl.1 rfl (Nat.le_of_ble_eq_true rfl) dX9_period_1 ⟨Nat.zero_le _, Nat.zero_le _⟩) hP hD hS hA [0] [1, 2, 3] rfl rfl (by decide) (by decide) [3, 0, 1, 2] (by decide) rfl rfl (fun H locs hP hD hS => ?_)
  refine lv_aload_n hx hb dX9_period_4 rfl (lv_at hl 0 rfl) ?_
  refine va_get (D := D) (ci := 8) (v := .int (vM_1 14)) (C := RX9) (T := TX9) (N := 29) hx hb ht0 niX9 hown hK hP 0 rfl rfl 14 (by decide) (ht0 _ wd855) (fun _ h9 => h9) rfl dX9_period_5 ?_
  refine lv_if_ne (tgt := 17) hx hb dX9_period_8 (by decide) (fun c8 => ?_) (fun c8 => ?_)
  · have hok := k_neg c8 hok
    refine lv_aload_n hx hb dX9_period_17 rfl (lv_at hl 0 rfl) ?_
    obtain ⟨vM_trial_18, hc18, hok⟩ := k_bind hok
    refine kCv (wc := (wX9_begin cy aM qM vM_1 vM_st vM_trial)) (wc2 := (wX9_begin cy aM qM vM_1 vM_st vM_trial_18)) (wr := [(qM 15, rI cy 224 vM_r)]) (ws2 := (wX9_period cy aM qM vM_1 vM_st vM_trial_18 vM_r)) (kRunV (As := []) (rest := []) ⟨hx, hb, hml, hown, ht0⟩ (kX9_begin l D cy _ aM qM vM_1 vM_st vM_trial vM_trial_18 hc18 _ rfl) (cwV 0 ht0 (gV wd948 wd949 wd950 wd744 wd951) rfl rfl rfl (by decide +kernel) ⟨Nat.le_of_ble_eq_true rfl, Nat.le_of_ble_eq_true rfl⟩) hK hN hP hD [0, 1, 2] rfl (by decide) 0 8 rfl rfl rfl hl.1 rfl (Nat.le_of_ble_eq_true rfl) dX9_period_18 ⟨Nat.zero_le _, Nat.zero_le _⟩) hP hD hS hA [0, 1, 2] [3] rfl rfl (by decide) (by decide) [1, 2, 3, 0] (by decide) rfl rfl (fun H locs hP hD hS => ?_)
    refine lv_iconst (v := 1) hx hb dX9_period_21 (by decide) ?_
    refine lv_istore_n (lv' := [(1, .int 1), (0, .ref aM)]) hx hb dX9_period_22 rfl hl (by decide) rfl (fun ls hl => ?_)
    exact L23 5000 (1 : Int32) vM_trial_18 vM_1 H locs ls hP hD hS (lv_sub hl [1, 0] rfl) hok
  · have hok := k_pos c8 hok
    refine lv_aload_n hx hb dX9_period_11 rfl (lv_at hl 0 rfl) ?_
    refine lv_iconst (v := 1) hx hb dX9_period_12 (by decide) ?_
    obtain ⟨⟨r13, vM_13⟩, hc13, hok⟩ := k_bind hok
    try dsimp only at hok
    refine kCi (wc := (wX9_no cy aM qM vM_1)) (wc2 := (wX9_no cy aM qM vM_13)) (wr := [(qM 17, rI cy 9 vM_st), (qM 22, rI cy 9 vM_trial), (qM 15, rI cy 224 vM_r)]) (ws2 := (wX9_period cy aM qM vM_13 vM_st vM_trial vM_r)) (kRunV (As := [.int 1]) (rest := []) ⟨hx, hb, hml, hown, ht0⟩ (kX9_no l D cy _ aM qM vM_1 (1 : Int32) r13 vM_13 hc13 _ rfl) (cwV 1 ht0 (gV wd862 wd863 wd864 wd744 wd865) rfl rfl rfl (by decide +kernel) ⟨Nat.le_of_ble_eq_true rfl, Nat.le_of_ble_eq_true rfl⟩) hK hN hP hD [0] rfl (by decide) 0 8 rfl rfl rfl hl.1 rfl (Nat.le_of_ble_eq_true rfl) dX9_period_13 ⟨Nat.zero_le _, Nat.zero_le _⟩) hP hD hS hA [0] [1, 2, 3] rfl rfl (by decide) (by decide) [3, 0, 1, 2] (by decide) rfl rfl (fun H locs hP hD hS => ?_)
    cases hok
    subst hQe; exact W.iret hx hb hr (fun t ht hW => ⟨⟨_, (), rfl, rfl, by rw [ht]; exact hP, va_K.moved hW.alike hK, hD⟩, hS.F ht⟩) hS.2.2 dX9_period_16
def wsX9_steps : List Cond := .code yX9_steps cX9_steps 6 (some .int) :: W0
abbrev wX9_steps (cy : Nat → ClassId) (aM : Nat) (qM : Nat → Nat) (vM : Nat → Int32) (vM_r : Nat → Int32) (vM_st : Nat → Int32) (vM_trial : Nat → Int32) : va_W := [(aM, oX9 vM qM), (qM 15, rI cy 224 vM_r), (qM 17, rI cy 9 vM_st), (qM 22, rI cy 9 vM_trial)]
set_option maxHeartbeats 4000000 in
set_option maxRecDepth 100000 in
theorem kX9_steps (l : Launch) (D : va_G) (cy : Nat → ClassId) (sz : Nat) (aM : Nat) (qM : Nat → Nat) (vM : Nat → Int32) (vM_r : Nat → Int32) (vM_st : Nat → Int32) (vM_trial : Nat → Int32) (x1 : Int32) (x2 : Int32) (zr : Int32) (z_vM : Nat → Int32) (z_vM_trial : Nat → Int32) (hok : fX9_steps vM vM_r vM_st vM_trial x1 x2 = some (zr, z_vM, z_vM_trial)) (A : Nat → Prop) (hAe : va_A (wX9_steps cy aM qM vM vM_r vM_st vM_trial) sz = A) : Met l yX9_steps wsX9_steps ({ frames := 5, cells := 0, slots := 0, locals := 114 } : Room) (kPre D cy [.ref aM, .int x1, .int x2] (wX9_steps cy aM qM vM vM_r vM_st vM_trial) sz) (kQi D cy zr A (wX9_steps cy aM qM z_vM vM_r vM_st z_vM_trial)) 0 0 A := by
  refine Met.ofW (cc := cX9_steps) (maxL := 6) (ret := (some .int)) (by decide) rfl ?_
  intro p e s m args below meth c s₁ B hml hv
  obtain ⟨rfl, hsz, hP, hK, hD0, hN⟩ := hv
  have hx := B.exec
  have hb := B.bytes
  have hr := B.returns
  have ht0 : ∀ w ∈ W0, w.before _ s = true := fun w h => atoms_spec (ws := wsX9_steps) B.pre w (List.mem_cons_of_mem _ h)
  have hown : s.vm.findClass RX9 = some m.cls := findClass_of_methodNamed B.named
  have hlocks := B.notSynchronized
  subst hsz
  have hD : va_D A (wX9_steps cy aM qM vM vM_r vM_st vM_trial) := by rw [← hAe]; exact hD0.self
  have hA : ∀ q : Nat, s.heap.size ≤ q → A q := fun q h => by rw [← hAe]; exact Or.inr h
  have hS : va_S A s.heap s.heap [] := va_S.rf
  have hl := lv_entry ([.ref aM, .int x1, .int x2]) (n := 6) (Nat.le_of_ble_eq_true rfl)
  rw [lg_entry_eq]
  generalize (lg_sl ([.ref aM, .int x1, .int x2]) ++ List.replicate (6 - (lg_sl ([.ref aM, .int x1, .int x2])).length) Slot.unset).toArray = ls at hl ⊢
  have hl : lv_has ls 6 [(0, .ref aM), (1, .int x1), (2, .int x2)] := hl
  generalize hQe : MQ below (kQi D cy zr A (wX9_steps cy aM qM z_vM vM_r vM_st z_vM_trial)) ([.ref aM, .int x1, .int x2] : List Value).toArray s 0 0 A = Q
  have L38 : ∀ (fuel : Nat) (y4_38 : Int32) (y5_38 : Int32) (vM_trial_38 : Nat → Int32) (vM_38 : Nat → Int32), ∀ (H : Heap) (locs : List Loc) (ls : Array Slot), va_P D vwCl (wX9_steps cy aM qM vM_38 vM_r vM_st vM_trial_38) H → va_D A (wX9_steps cy aM qM vM_38 vM_r vM_st vM_trial_38) → va_S A s.heap H locs → lv_has ls 6 [(0, .ref aM), (1, .int x1), (2, .int x2), (4, .int y4_38), (5, .int y5_38)] → lp (fX9_steps_B38 vM_r x1 x2) fuel (y4_38, y5_38, vM_trial_38, vM_38) = some (zr, z_vM, z_vM_trial) → W p l e ({ frames := 5, cells := 0, slots := 0, locals := 114 } : Room) s m ([.ref aM, .int x1, .int x2] : List Value).toArray below meth c H locs 0 0 Q (F0 m 38 ls []) := by
    intro fuel
    induction fuel with
    | zero => intro y4_38 y5_38 vM_trial_38 vM_38 H locs ls hP hD hS hl hok; exact (lp_0 hok).elim
    | succ fuel ih38 =>
      intro y4_38 y5_38 vM_trial_38 vM_38 H locs ls hP hD hS hl hok
      obtain ⟨y38, hok, hL38, hR38⟩ := lp_step hok
      unfold fX9_steps_B38 at hok
      try dsimp only at hok
      refine lv_iload hx hb dX9_steps_38 (lv_at hl 4 rfl) ?_
      refine lv_iload_n hx hb dX9_steps_40 rfl (lv_at hl 2 rfl) ?_
      refine lv_icmp_ge (tgt := 67) hx hb dX9_steps_41 (by decide) (fun c41 => ?_) (fun c41 => ?_)
      · have hok := k_pos c41 hok
        obtain ⟨e38, hok, he38⟩ := ex_some hok
        have hok := hok.trans (congrArg some (hL38 _ he38))
        refine lv_iload hx hb dX9_steps_67 (lv_at hl 3 rfl) ?_
        cases hok
        subst hQe; exact W.iret hx hb hr (fun t ht hW => ⟨⟨_, (), rfl, rfl, by rw [ht]; exact hP, va_K.moved hW.alike hK, hD⟩, hS.F ht⟩) hS.2.2 dX9_steps_69
      · have hok := k_neg c41 hok
        refine lv_iload hx hb dX9_steps_44 (lv_at hl 3 rfl) ?_
        refine lv_aload_n hx hb dX9_steps_46 rfl (lv_at hl 0 rfl) ?_
        refine lv_aload_n hx hb dX9_steps_47 rfl (lv_at hl 0 rfl) ?_
        refine va_get (D := D) (ci := 8) (v := .ref (qM 22)) (C := RX9) (T := TX9) (N := 29) hx hb ht0 niX9 hown hK hP 0 rfl rfl 22 (by decide) (ht0 _ wd921) (fun _ h9 => h9) rfl dX9_steps_48 ?_
        obtain ⟨⟨r51, p1_51⟩, hc51, hok⟩ := k_bind hok
        try dsimp only at hok
        refine kCi (wc := (wX9_nightOf cy aM (qM 22) qM vM_38 vM_r 9 vM_trial_38)) (wc2 := (wX9_nightOf cy aM (qM 22) qM vM_38 vM_r 9 p1_51)) (wr := [(qM 17, rI cy 9 vM_st)]) (ws2 := (wX9_steps cy aM qM vM_38 vM_r vM_st p1_51)) (kRunV (As := [.ref (qM 22)]) (rest := [.int y4_38]) ⟨hx, hb, hml, hown, ht0⟩ (kX9_nightOf l D cy _ aM (qM 22) qM vM_38 vM_r 9 vM_trial_38 r51 p1_51 hc51 _ rfl) (cwV 1 ht0 (gV wd940 wd941 wd942 wd744 wd943) rfl rfl rfl (by decide +kernel) ⟨Nat.le_of_ble_eq_true rfl, Nat.le_of_ble_eq_true rfl⟩) hK hN hP hD [0, 1, 3] rfl (by decide) 0 8 rfl rfl rfl hl.1 rfl (Nat.le_of_ble_eq_true rfl) dX9_steps_51 ⟨Nat.zero_le _, Nat.zero_le _⟩) hP hD hS hA [0, 1, 3] [2] rfl rfl (by decide) (by decide) [1, 2, 0, 3] (by decide) rfl rfl (fun H locs hP hD hS => ?_)
        refine lv_iload_n hx hb dX9_steps_54 rfl (lv_at hl 1 rfl) ?_
        refine lv_ishr hx hb dX9_steps_55 ?_
        refine lv_iconst (v := 1) hx hb dX9_steps_56 (by decide) ?_
        refine lv_iand hx hb dX9_steps_57 ?_
        refine lv_iadd hx hb dX9_steps_58 ?_
        refine lv_istore (lv' := [(4, .int (y4_38 + ((isr r51 x1) &&& (1 : Int32)))), (0, .ref aM), (1, .int x1), (2, .int x2), (5, .int y5_38)]) hx hb dX9_steps_59 hl (by decide) rfl (fun ls hl => ?_)
        refine lv_iinc (v := (y5_38 + 1)) (lv' := [(5, .int (y5_38 + 1)), (4, .int (y4_38 + ((isr r51 x1) &&& (1 : Int32)))), (0, .ref aM), (1, .int x1), (2, .int x2)]) hx hb dX9_steps_61 hl (k := 4) rfl (by first | rfl | decide) (by decide) rfl (fun ls hl => ?_)
        refine lv_goto (tgt := 38) hx hb dX9_steps_64 (by decide) ?_
        exact ih38 (y4_38 + ((isr r51 x1) &&& (1 : Int32))) (y5_38 + 1) p1_51 vM_38 H locs ls hP hD hS (lv_sub hl [2, 3, 4, 1, 0] rfl) (hR38 _ (Option.some.inj hok).symm)
  unfold fX9_steps at hok
  obtain ⟨H, hH⟩ : ∃ H, H = s.heap := ⟨_, rfl⟩
  obtain ⟨locs, hlc⟩ : ∃ x : List Loc, x = [] := ⟨_, rfl⟩
  have hP : va_P D vwCl (wX9_steps cy aM qM vM vM_r vM_st vM_trial) H := by rw [hH]; exact hP
  have hS : va_S A s.heap H locs := by rw [hH, hlc]; exact hS
  rw [show W p l e _ s m _ below meth c s.heap [] = W p l e _ s m _ below meth c H locs from by rw [hH, hlc]]
  refine lv_aload_n hx hb dX9_steps_0 rfl (lv_at hl 0 rfl) ?_
  obtain ⟨vM_1, hc1, hok⟩ := k_bind hok
  refine kCv (wc := (wX9_good cy aM qM vM)) (wc2 := (wX9_good cy aM qM vM_1)) (wr := [(qM 15, rI cy 224 vM_r), (qM 17, rI cy 9 vM_st), (qM 22, rI cy 9 vM_trial)]) (ws2 := (wX9_steps cy aM qM vM_1 vM_r vM_st vM_trial)) (kRunV (As := []) (rest := []) ⟨hx, hb, hml, hown, ht0⟩ (kX9_good l D cy _ aM qM vM vM_1 hc1 _ rfl) (cwV 0 ht0 (gV wd870 wd871 wd872 wd744 wd873) rfl rfl rfl (by decide +kernel) ⟨Nat.le_of_ble_eq_true rfl, Nat.le_of_ble_eq_true rfl⟩) hK hN hP hD [0] rfl (by decide) 0 8 rfl rfl rfl hl.1 rfl (Nat.le_of_ble_eq_true rfl) dX9_steps_1 ⟨Nat.zero_le _, Nat.zero_le _⟩) hP hD hS hA [0] [1, 2, 3] rfl rfl (by decide) (by decide) [3, 0, 1, 2] (by decide) rfl rfl (fun H locs hP hD hS => ?_)
  refine lv_aload_n hx hb dX9_steps_4 rfl (lv_at hl 0 rfl) ?_
  refine lv_aload_n hx hb dX9_steps_5 rfl (lv_at hl 0 rfl) ?_
  refine lv_iload_n hx hb dX9_steps_6 rfl (lv_at hl 1 rfl) ?_
  obtain ⟨r7, hc7, hok⟩ := k_bind hok
  refine kCi (wc := (wX9_isThing cy aM qM vM_1 vM_r)) (wc2 := (wX9_isThing cy aM qM vM_1 vM_r)) (wr := [(qM 17, rI cy 9 vM_st), (qM 22, rI cy 9 vM_trial)]) (ws2 := (wX9_steps cy aM qM vM_1 vM_r vM_st vM_trial)) (kRunV (As := [.int x1]) (rest := [.ref aM]) ⟨hx, hb, hml, hown, ht0⟩ (kX9_isThing l D cy _ aM qM vM_1 vM_r x1 r7 hc7 _ rfl) (cwV 1 ht0 (gV wd925 wd926 wd927 wd744 wd928) rfl rfl rfl (by decide +kernel) ⟨Nat.le_of_ble_eq_true rfl, Nat.le_of_ble_eq_true rfl⟩) hK hN hP hD [0, 1] rfl (by decide) 0 8 rfl rfl rfl hl.1 rfl (Nat.le_of_ble_eq_true rfl) dX9_steps_7 ⟨Nat.zero_le _, Nat.zero_le _⟩) hP hD hS hA [0, 1] [2, 3] rfl rfl (by decide) (by decide) [2, 3, 0, 1] (by decide) rfl rfl (fun H locs hP hD hS => ?_)
  refine lv_iload_n hx hb dX9_steps_10 rfl (lv_at hl 2 rfl) ?_
  refine lv_sipush (v := 200) hx hb dX9_steps_11 (by decide) ?_
  obtain ⟨r14, hc14, hok⟩ := k_bind hok
  refine kCi (wc := (wX9_why cy aM)) (wc2 := (wX9_why cy aM)) (wr := [(aM, oX9 vM_1 qM), (qM 15, rI cy 224 vM_r), (qM 17, rI cy 9 vM_st), (qM 22, rI cy 9 vM_trial)]) (ws2 := (wX9_steps cy aM qM vM_1 vM_r vM_st vM_trial)) (kRunV (As := [.int r7, .int x2, .int 200]) (rest := []) ⟨hx, hb, hml, hown, ht0⟩ (kX9_why l D cy _ aM r7 x2 (200 : Int32) r14 hc14 _ rfl) (cwV 3 ht0 (gV wd944 wd945 wd946 wd744 wd947) rfl rfl rfl (by decide +kernel) ⟨Nat.le_of_ble_eq_true rfl, Nat.le_of_ble_eq_true rfl⟩) hK hN hP hD [] rfl (by decide) 0 8 rfl rfl rfl hl.1 rfl (Nat.le_of_ble_eq_true rfl) dX9_steps_14 ⟨Nat.zero_le _, Nat.zero_le _⟩) hP hD hS hA [] [0, 1, 2, 3] rfl rfl (by decide) (by decide) [0, 1, 2, 3] (by decide) rfl rfl (fun H locs hP hD hS => ?_)
  refine lv_istore_n (lv' := [(3, .int r14), (0, .ref aM), (1, .int x1), (2, .int x2)]) hx hb dX9_steps_17 rfl hl (by decide) rfl (fun ls hl => ?_)
  refine lv_iload_n hx hb dX9_steps_18 rfl (lv_at hl 0 rfl) ?_
  refine lv_if_eq (tgt := 28) hx hb dX9_steps_19 (by decide) (fun c19 => ?_) (fun c19 => ?_)
  · have hok := k_pos c19 hok
    refine lv_aload_n hx hb dX9_steps_28 rfl (lv_at hl 1 rfl) ?_
    obtain ⟨vM_trial_29, hc29, hok⟩ := k_bind hok
    refine kCv (wc := (wX9_begin cy aM qM vM_1 vM_st vM_trial)) (wc2 := (wX9_begin cy aM qM vM_1 vM_st vM_trial_29)) (wr := [(qM 15, rI cy 224 vM_r)]) (ws2 := (wX9_steps cy aM qM vM_1 vM_r vM_st vM_trial_29)) (kRunV (As := []) (rest := []) ⟨hx, hb, hml, hown, ht0⟩ (kX9_begin l D cy _ aM qM vM_1 vM_st vM_trial vM_trial_29 hc29 _ rfl) (cwV 0 ht0 (gV wd948 wd949 wd950 wd744 wd951) rfl rfl rfl (by decide +kernel) ⟨Nat.le_of_ble_eq_true rfl, Nat.le_of_ble_eq_true rfl⟩) hK hN hP hD [0, 2, 3] rfl (by decide) 0 8 rfl rfl rfl hl.1 rfl (Nat.le_of_ble_eq_true rfl) dX9_steps_29 ⟨Nat.zero_le _, Nat.zero_le _⟩) hP hD hS hA [0, 2, 3] [1] rfl rfl (by decide) (by decide) [1, 0, 2, 3] (by decide) rfl rfl (fun H locs hP hD hS => ?_)
    refine lv_iconst (v := 0) hx hb dX9_steps_32 (by decide) ?_
    refine lv_istore (lv' := [(4, .int 0), (3, .int r14), (0, .ref aM), (1, .int x1), (2, .int x2)]) hx hb dX9_steps_33 hl (by decide) rfl (fun ls hl => ?_)
    refine lv_iconst (v := 0) hx hb dX9_steps_35 (by decide) ?_
    refine lv_istore (lv' := [(5, .int 0), (4, .int 0), (3, .int r14), (0, .ref aM), (1, .int x1), (2, .int x2)]) hx hb dX9_steps_36 hl (by decide) rfl (fun ls hl => ?_)
    exact L38 5000 (0 : Int32) (0 : Int32) vM_trial_29 vM_1 H locs ls hP hD hS (lv_sub hl [3, 4, 5, 1, 0] rfl) hok
  · have hok := k_neg c19 hok
    refine lv_aload_n hx hb dX9_steps_22 rfl (lv_at hl 1 rfl) ?_
    refine lv_iload_n hx hb dX9_steps_23 rfl (lv_at hl 0 rfl) ?_
    obtain ⟨⟨r24, vM_24⟩, hc24, hok⟩ := k_bind hok
    try dsimp only at hok
    refine kCi (wc := (wX9_no cy aM qM vM_1)) (wc2 := (wX9_no cy aM qM vM_24)) (wr := [(qM 15, rI cy 224 vM_r), (qM 17, rI cy 9 vM_st), (qM 22, rI cy 9 vM_trial)]) (ws2 := (wX9_steps cy aM qM vM_24 vM_r vM_st vM_trial)) (kRunV (As := [.int r14]) (rest := []) ⟨hx, hb, hml, hown, ht0⟩ (kX9_no l D cy _ aM qM vM_1 r14 r24 vM_24 hc24 _ rfl) (cwV 1 ht0 (gV wd862 wd863 wd864 wd744 wd865) rfl rfl rfl (by decide +kernel) ⟨Nat.le_of_ble_eq_true rfl, Nat.le_of_ble_eq_true rfl⟩) hK hN hP hD [0] rfl (by decide) 0 8 rfl rfl rfl hl.1 rfl (Nat.le_of_ble_eq_true rfl) dX9_steps_24 ⟨Nat.zero_le _, Nat.zero_le _⟩) hP hD hS hA [0] [1, 2, 3] rfl rfl (by decide) (by decide) [3, 0, 1, 2] (by decide) rfl rfl (fun H locs hP hD hS => ?_)
    cases hok
    subst hQe; exact W.iret hx hb hr (fun t ht hW => ⟨⟨_, (), rfl, rfl, by rw [ht]; exact hP, va_K.moved hW.alike hK, hD⟩, hS.F ht⟩) hS.2.2 dX9_steps_27
def wsX9_meetings : List Cond := .code yX9_meetings cX9_meetings 7 (some .int) :: W0
abbrev wX9_meetings (cy : Nat → ClassId) (aM : Nat) (qM : Nat → Nat) (vM : Nat → Int32) (vM_r : Nat → Int32) (vM_st : Nat → Int32) (vM_trial : Nat → Int32) : va_W := [(aM, oX9 vM qM), (qM 15, rI cy 224 vM_r), (qM 17, rI cy 9 vM_st), (qM 22, rI cy 9 vM_trial)]
set_option maxHeartbeats 4000000 in
set_option maxRecDepth 100000 in
theorem kX9_meetings (l : Launch) (D : va_G) (cy : Nat → ClassId) (sz : Nat) (aM : Nat) (qM : Nat → Nat) (vM : Nat → Int32) (vM_r : Nat → Int32) (vM_st : Nat → Int32) (vM_trial : Nat → Int32) (x1 : Int32) (x2 : Int32) (x3 : Int32) (zr : Int32) (z_vM : Nat → Int32) (z_vM_trial : Nat → Int32) (hok : fX9_meetings vM vM_r vM_st vM_trial x1 x2 x3 = some (zr, z_vM, z_vM_trial)) (A : Nat → Prop) (hAe : va_A (wX9_meetings cy aM qM vM vM_r vM_st vM_trial) sz = A) : Met l yX9_meetings wsX9_meetings ({ frames := 5, cells := 0, slots := 0, locals := 114 } : Room) (kPre D cy [.ref aM, .int x1, .int x2, .int x3] (wX9_meetings cy aM qM vM vM_r vM_st vM_trial) sz) (kQi D cy zr A (wX9_meetings cy aM qM z_vM vM_r vM_st z_vM_trial)) 0 0 A := by
  refine Met.ofW (cc := cX9_meetings) (maxL := 7) (ret := (some .int)) (by decide) rfl ?_
  intro p e s m args below meth c s₁ B hml hv
  obtain ⟨rfl, hsz, hP, hK, hD0, hN⟩ := hv
  have hx := B.exec
  have hb := B.bytes
  have hr := B.returns
  have ht0 : ∀ w ∈ W0, w.before _ s = true := fun w h => atoms_spec (ws := wsX9_meetings) B.pre w (List.mem_cons_of_mem _ h)
  have hown : s.vm.findClass RX9 = some m.cls := findClass_of_methodNamed B.named
  have hlocks := B.notSynchronized
  subst hsz
  have hD : va_D A (wX9_meetings cy aM qM vM vM_r vM_st vM_trial) := by rw [← hAe]; exact hD0.self
  have hA : ∀ q : Nat, s.heap.size ≤ q → A q := fun q h => by rw [← hAe]; exact Or.inr h
  have hS : va_S A s.heap s.heap [] := va_S.rf
  have hl := lv_entry ([.ref aM, .int x1, .int x2, .int x3]) (n := 7) (Nat.le_of_ble_eq_true rfl)
  rw [lg_entry_eq]
  generalize (lg_sl ([.ref aM, .int x1, .int x2, .int x3]) ++ List.replicate (7 - (lg_sl ([.ref aM, .int x1, .int x2, .int x3])).length) Slot.unset).toArray = ls at hl ⊢
  have hl : lv_has ls 7 [(0, .ref aM), (1, .int x1), (2, .int x2), (3, .int x3)] := hl
  generalize hQe : MQ below (kQi D cy zr A (wX9_meetings cy aM qM z_vM vM_r vM_st z_vM_trial)) ([.ref aM, .int x1, .int x2, .int x3] : List Value).toArray s 0 0 A = Q
  have L42 : ∀ (fuel : Nat) (y5_42 : Int32) (y6_42 : Int32) (vM_trial_42 : Nat → Int32) (vM_42 : Nat → Int32), ∀ (H : Heap) (locs : List Loc) (ls : Array Slot), va_P D vwCl (wX9_meetings cy aM qM vM_42 vM_r vM_st vM_trial_42) H → va_D A (wX9_meetings cy aM qM vM_42 vM_r vM_st vM_trial_42) → va_S A s.heap H locs → lv_has ls 7 [(0, .ref aM), (1, .int x1), (2, .int x2), (3, .int x3), (5, .int y5_42), (6, .int y6_42)] → lp (fX9_meetings_B42 vM_r x1 x2 x3) fuel (y5_42, y6_42, vM_trial_42, vM_42) = some (zr, z_vM, z_vM_trial) → W p l e ({ frames := 5, cells := 0, slots := 0, locals := 114 } : Room) s m ([.ref aM, .int x1, .int x2, .int x3] : List Value).toArray below meth c H locs 0 0 Q (F0 m 42 ls []) := by
    intro fuel
    induction fuel with
    | zero => intro y5_42 y6_42 vM_trial_42 vM_42 H locs ls hP hD hS hl hok; exact (lp_0 hok).elim
    | succ fuel ih42 =>
      intro y5_42 y6_42 vM_trial_42 vM_42 H locs ls hP hD hS hl hok
      obtain ⟨y42, hok, hL42, hR42⟩ := lp_step hok
      have J83 : ∀ (t0_83 : Int32) (vM_trial_83 : Nat → Int32), ∀ (H : Heap) (locs : List Loc) (ls : Array Slot), va_P D vwCl (wX9_meetings cy aM qM vM_42 vM_r vM_st vM_trial_83) H → va_D A (wX9_meetings cy aM qM vM_42 vM_r vM_st vM_trial_83) → va_S A s.heap H locs → lv_has ls 7 [(0, .ref aM), (1, .int x1), (2, .int x2), (3, .int x3), (6, .int y6_42)] → fX9_meetings_J83 y5_42 y6_42 vM_42 t0_83 vM_trial_83 = some y42 → W p l e ({ frames := 5, cells := 0, slots := 0, locals := 114 } : Room) s m ([.ref aM, .int x1, .int x2, .int x3] : List Value).toArray below meth c H locs 0 0 Q (F0 m 83 ls [.int t0_83, .int y5_42]) := by
        intro t0_83 vM_trial_83 H locs ls hP hD hS hl hok
        unfold fX9_meetings_J83 at hok
        refine lv_iadd hx hb dX9_meetings_83 ?_
        refine lv_istore (lv' := [(5, .int (y5_42 + t0_83)), (0, .ref aM), (1, .int x1), (2, .int x2), (3, .int x3), (6, .int y6_42)]) hx hb dX9_meetings_84 hl (by decide) rfl (fun ls hl => ?_)
        refine lv_iinc (v := (y6_42 + 1)) (lv' := [(6, .int (y6_42 + 1)), (5, .int (y5_42 + t0_83)), (0, .ref aM), (1, .int x1), (2, .int x2), (3, .int x3)]) hx hb dX9_meetings_86 hl (k := 5) rfl (by first | rfl | decide) (by decide) rfl (fun ls hl => ?_)
        refine lv_goto (tgt := 42) hx hb dX9_meetings_89 (by decide) ?_
        exact ih42 (y5_42 + t0_83) (y6_42 + 1) vM_trial_83 vM_42 H locs ls hP hD hS (lv_sub hl [2, 3, 4, 5, 1, 0] rfl) (hR42 _ (Option.some.inj hok).symm)
      unfold fX9_meetings_B42 at hok
      try dsimp only at hok
      refine lv_iload hx hb dX9_meetings_42 (lv_at hl 5 rfl) ?_
      refine lv_iload_n hx hb dX9_meetings_44 rfl (lv_at hl 3 rfl) ?_
      refine lv_icmp_ge (tgt := 92) hx hb dX9_meetings_45 (by decide) (fun c45 => ?_) (fun c45 => ?_)
      · have hok := k_pos c45 hok
        obtain ⟨e42, hok, he42⟩ := ex_some hok
        have hok := hok.trans (congrArg some (hL42 _ he42))
        refine lv_iload hx hb dX9_meetings_92 (lv_at hl 4 rfl) ?_
        cases hok
        subst hQe; exact W.iret hx hb hr (fun t ht hW => ⟨⟨_, (), rfl, rfl, by rw [ht]; exact hP, va_K.moved hW.alike hK, hD⟩, hS.F ht⟩) hS.2.2 dX9_meetings_94
      · have hok := k_neg c45 hok
        refine lv_aload_n hx hb dX9_meetings_48 rfl (lv_at hl 0 rfl) ?_
        refine lv_aload_n hx hb dX9_meetings_49 rfl (lv_at hl 0 rfl) ?_
        refine va_get (D := D) (ci := 8) (v := .ref (qM 22)) (C := RX9) (T := TX9) (N := 29) hx hb ht0 niX9 hown hK hP 0 rfl rfl 22 (by decide) (ht0 _ wd921) (fun _ h9 => h9) rfl dX9_meetings_50 ?_
        obtain ⟨⟨r53, p1_53⟩, hc53, hok⟩ := k_bind hok
        try dsimp only at hok
        refine kCi (wc := (wX9_nightOf cy aM (qM 22) qM vM_42 vM_r 9 vM_trial_42)) (wc2 := (wX9_nightOf cy aM (qM 22) qM vM_42 vM_r 9 p1_53)) (wr := [(qM 17, rI cy 9 vM_st)]) (ws2 := (wX9_meetings cy aM qM vM_42 vM_r vM_st p1_53)) (kRunV (As := [.ref (qM 22)]) (rest := []) ⟨hx, hb, hml, hown, ht0⟩ (kX9_nightOf l D cy _ aM (qM 22) qM vM_42 vM_r 9 vM_trial_42 r53 p1_53 hc53 _ rfl) (cwV 1 ht0 (gV wd940 wd941 wd942 wd744 wd943) rfl rfl rfl (by decide +kernel) ⟨Nat.le_of_ble_eq_true rfl, Nat.le_of_ble_eq_true rfl⟩) hK hN hP hD [0, 1, 3] rfl (by decide) 0 8 rfl rfl rfl hl.1 rfl (Nat.le_of_ble_eq_true rfl) dX9_meetings_53 ⟨Nat.zero_le _, Nat.zero_le _⟩) hP hD hS hA [0, 1, 3] [2] rfl rfl (by decide) (by decide) [1, 2, 0, 3] (by decide) rfl rfl (fun H locs hP hD hS => ?_)
        refine lv_pop hx hb dX9_meetings_56 rfl ?_
        refine lv_iload hx hb dX9_meetings_57 (lv_at hl 4 rfl) ?_
        refine lv_aload_n hx hb dX9_meetings_59 rfl (lv_at hl 0 rfl) ?_
        refine lv_aload_n hx hb dX9_meetings_60 rfl (lv_at hl 0 rfl) ?_
        refine va_get (D := D) (ci := 8) (v := .ref (qM 22)) (C := RX9) (T := TX9) (N := 29) hx hb ht0 niX9 hown hK hP 0 rfl rfl 22 (by decide) (ht0 _ wd921) (fun _ h9 => h9) rfl dX9_meetings_61 ?_
        refine lv_iload_n hx hb dX9_meetings_64 rfl (lv_at hl 1 rfl) ?_
        obtain ⟨g65, hok⟩ := gd_some hok
        refine va_iald hx hb hK hP 3 0 rfl rfl (okI_in g65) dX9_meetings_65 ?_
        refine lv_aload_n hx hb dX9_meetings_66 rfl (lv_at hl 0 rfl) ?_
        refine va_get (D := D) (ci := 8) (v := .ref (qM 22)) (C := RX9) (T := TX9) (N := 29) hx hb ht0 niX9 hown hK hP 0 rfl rfl 22 (by decide) (ht0 _ wd921) (fun _ h9 => h9) rfl dX9_meetings_67 ?_
        refine lv_iload_n hx hb dX9_meetings_70 rfl (lv_at hl 2 rfl) ?_
        obtain ⟨g71, hok⟩ := gd_some hok
        refine va_iald hx hb hK hP 3 0 rfl rfl (okI_in g71) dX9_meetings_71 ?_
        obtain ⟨r72, hc72, hok⟩ := k_bind hok
        refine kCi (wc := (wX9_areDoored cy aM qM vM_42 vM_r)) (wc2 := (wX9_areDoored cy aM qM vM_42 vM_r)) (wr := [(qM 17, rI cy 9 vM_st), (qM 22, rI cy 9 p1_53)]) (ws2 := (wX9_meetings cy aM qM vM_42 vM_r vM_st p1_53)) (kRunV (As := [.int (p1_53 x1.toNatClampNeg), .int (p1_53 x2.toNatClampNeg)]) (rest := [.int y5_42]) ⟨hx, hb, hml, hown, ht0⟩ (kX9_areDoored l D cy _ aM qM vM_42 vM_r (p1_53 x1.toNatClampNeg) (p1_53 x2.toNatClampNeg) r72 hc72 _ rfl) (cwV 2 ht0 (gV wd933 wd934 wd935 wd744 wd936) rfl rfl rfl (by decide +kernel) ⟨Nat.le_of_ble_eq_true rfl, Nat.le_of_ble_eq_true rfl⟩) hK hN hP hD [0, 1] rfl (by decide) 0 8 rfl rfl rfl hl.1 rfl (Nat.le_of_ble_eq_true rfl) dX9_meetings_72 ⟨Nat.zero_le _, Nat.zero_le _⟩) hP hD hS hA [0, 1] [2, 3] rfl rfl (by decide) (by decide) [2, 3, 0, 1] (by decide) rfl rfl (fun H locs hP hD hS => ?_)
        refine lv_if_eq (tgt := 82) hx hb dX9_meetings_75 (by decide) (fun c75 => ?_) (fun c75 => ?_)
        · have hok := k_pos c75 hok
          refine lv_iconst (v := 0) hx hb dX9_meetings_82 (by decide) ?_
          exact J83 (0 : Int32) p1_53 H locs ls hP hD hS (lv_sub hl [0, 1, 2, 3, 5] rfl) hok
        · have hok := k_neg c75 hok
          refine lv_iconst (v := 1) hx hb dX9_meetings_78 (by decide) ?_
          refine lv_goto (tgt := 83) hx hb dX9_meetings_79 (by decide) ?_
          exact J83 (1 : Int32) p1_53 H locs ls hP hD hS (lv_sub hl [0, 1, 2, 3, 5] rfl) hok
  unfold fX9_meetings at hok
  obtain ⟨H, hH⟩ : ∃ H, H = s.heap := ⟨_, rfl⟩
  obtain ⟨locs, hlc⟩ : ∃ x : List Loc, x = [] := ⟨_, rfl⟩
  have hP : va_P D vwCl (wX9_meetings cy aM qM vM vM_r vM_st vM_trial) H := by rw [hH]; exact hP
  have hS : va_S A s.heap H locs := by rw [hH, hlc]; exact hS
  rw [show W p l e _ s m _ below meth c s.heap [] = W p l e _ s m _ below meth c H locs from by rw [hH, hlc]]
  refine lv_aload_n hx hb dX9_meetings_0 rfl (lv_at hl 0 rfl) ?_
  obtain ⟨vM_1, hc1, hok⟩ := k_bind hok
  refine kCv (wc := (wX9_good cy aM qM vM)) (wc2 := (wX9_good cy aM qM vM_1)) (wr := [(qM 15, rI cy 224 vM_r), (qM 17, rI cy 9 vM_st), (qM 22, rI cy 9 vM_trial)]) (ws2 := (wX9_meetings cy aM qM vM_1 vM_r vM_st vM_trial)) (kRunV (As := []) (rest := []) ⟨hx, hb, hml, hown, ht0⟩ (kX9_good l D cy _ aM qM vM vM_1 hc1 _ rfl) (cwV 0 ht0 (gV wd870 wd871 wd872 wd744 wd873) rfl rfl rfl (by decide +kernel) ⟨Nat.le_of_ble_eq_true rfl, Nat.le_of_ble_eq_true rfl⟩) hK hN hP hD [0] rfl (by decide) 0 8 rfl rfl rfl hl.1 rfl (Nat.le_of_ble_eq_true rfl) dX9_meetings_1 ⟨Nat.zero_le _, Nat.zero_le _⟩) hP hD hS hA [0] [1, 2, 3] rfl rfl (by decide) (by decide) [3, 0, 1, 2] (by decide) rfl rfl (fun H locs hP hD hS => ?_)
  refine lv_aload_n hx hb dX9_meetings_4 rfl (lv_at hl 0 rfl) ?_
  refine lv_aload_n hx hb dX9_meetings_5 rfl (lv_at hl 0 rfl) ?_
  refine lv_iload_n hx hb dX9_meetings_6 rfl (lv_at hl 1 rfl) ?_
  refine lv_iload_n hx hb dX9_meetings_7 rfl (lv_at hl 2 rfl) ?_
  obtain ⟨r8, hc8, hok⟩ := k_bind hok
  refine kCi (wc := (wX9_areTwo cy aM qM vM_1 vM_r)) (wc2 := (wX9_areTwo cy aM qM vM_1 vM_r)) (wr := [(qM 17, rI cy 9 vM_st), (qM 22, rI cy 9 vM_trial)]) (ws2 := (wX9_meetings cy aM qM vM_1 vM_r vM_st vM_trial)) (kRunV (As := [.int x1, .int x2]) (rest := [.ref aM]) ⟨hx, hb, hml, hown, ht0⟩ (kX9_areTwo l D cy _ aM qM vM_1 vM_r x1 x2 r8 hc8 _ rfl) (cwV 2 ht0 (gV wd952 wd953 wd954 wd744 wd955) rfl rfl rfl (by decide +kernel) ⟨Nat.le_of_ble_eq_true rfl, Nat.le_of_ble_eq_true rfl⟩) hK hN hP hD [0, 1] rfl (by decide) 0 8 rfl rfl rfl hl.1 rfl (Nat.le_of_ble_eq_true rfl) dX9_meetings_8 ⟨Nat.zero_le _, Nat.zero_le _⟩) hP hD hS hA [0, 1] [2, 3] rfl rfl (by decide) (by decide) [2, 3, 0, 1] (by decide) rfl rfl (fun H locs hP hD hS => ?_)
  refine lv_iload_n hx hb dX9_meetings_11 rfl (lv_at hl 3 rfl) ?_
  refine lv_sipush (v := 200) hx hb dX9_meetings_12 (by decide) ?_
  obtain ⟨r15, hc15, hok⟩ := k_bind hok
  refine kCi (wc := (wX9_why cy aM)) (wc2 := (wX9_why cy aM)) (wr := [(aM, oX9 vM_1 qM), (qM 15, rI cy 224 vM_r), (qM 17, rI cy 9 vM_st), (qM 22, rI cy 9 vM_trial)]) (ws2 := (wX9_meetings cy aM qM vM_1 vM_r vM_st vM_trial)) (kRunV (As := [.int r8, .int x3, .int 200]) (rest := []) ⟨hx, hb, hml, hown, ht0⟩ (kX9_why l D cy _ aM r8 x3 (200 : Int32) r15 hc15 _ rfl) (cwV 3 ht0 (gV wd944 wd945 wd946 wd744 wd947) rfl rfl rfl (by decide +kernel) ⟨Nat.le_of_ble_eq_true rfl, Nat.le_of_ble_eq_true rfl⟩) hK hN hP hD [] rfl (by decide) 0 8 rfl rfl rfl hl.1 rfl (Nat.le_of_ble_eq_true rfl) dX9_meetings_15 ⟨Nat.zero_le _, Nat.zero_le _⟩) hP hD hS hA [] [0, 1, 2, 3] rfl rfl (by decide) (by decide) [0, 1, 2, 3] (by decide) rfl rfl (fun H locs hP hD hS => ?_)
  refine lv_istore (lv' := [(4, .int r15), (0, .ref aM), (1, .int x1), (2, .int x2), (3, .int x3)]) hx hb dX9_meetings_18 hl (by decide) rfl (fun ls hl => ?_)
  refine lv_iload hx hb dX9_meetings_20 (lv_at hl 0 rfl) ?_
  refine lv_if_eq (tgt := 32) hx hb dX9_meetings_22 (by decide) (fun c22 => ?_) (fun c22 => ?_)
  · have hok := k_pos c22 hok
    refine lv_aload_n hx hb dX9_meetings_32 rfl (lv_at hl 1 rfl) ?_
    obtain ⟨vM_trial_33, hc33, hok⟩ := k_bind hok
    refine kCv (wc := (wX9_begin cy aM qM vM_1 vM_st vM_trial)) (wc2 := (wX9_begin cy aM qM vM_1 vM_st vM_trial_33)) (wr := [(qM 15, rI cy 224 vM_r)]) (ws2 := (wX9_meetings cy aM qM vM_1 vM_r vM_st vM_trial_33)) (kRunV (As := []) (rest := []) ⟨hx, hb, hml, hown, ht0⟩ (kX9_begin l D cy _ aM qM vM_1 vM_st vM_trial vM_trial_33 hc33 _ rfl) (cwV 0 ht0 (gV wd948 wd949 wd950 wd744 wd951) rfl rfl rfl (by decide +kernel) ⟨Nat.le_of_ble_eq_true rfl, Nat.le_of_ble_eq_true rfl⟩) hK hN hP hD [0, 2, 3] rfl (by decide) 0 8 rfl rfl rfl hl.1 rfl (Nat.le_of_ble_eq_true rfl) dX9_meetings_33 ⟨Nat.zero_le _, Nat.zero_le _⟩) hP hD hS hA [0, 2, 3] [1] rfl rfl (by decide) (by decide) [1, 0, 2, 3] (by decide) rfl rfl (fun H locs hP hD hS => ?_)
    refine lv_iconst (v := 0) hx hb dX9_meetings_36 (by decide) ?_
    refine lv_istore (lv' := [(5, .int 0), (4, .int r15), (0, .ref aM), (1, .int x1), (2, .int x2), (3, .int x3)]) hx hb dX9_meetings_37 hl (by decide) rfl (fun ls hl => ?_)
    refine lv_iconst (v := 0) hx hb dX9_meetings_39 (by decide) ?_
    refine lv_istore (lv' := [(6, .int 0), (5, .int 0), (4, .int r15), (0, .ref aM), (1, .int x1), (2, .int x2), (3, .int x3)]) hx hb dX9_meetings_40 hl (by decide) rfl (fun ls hl => ?_)
    exact L42 5000 (0 : Int32) (0 : Int32) vM_trial_33 vM_1 H locs ls hP hD hS (lv_sub hl [3, 4, 5, 6, 1, 0] rfl) hok
  · have hok := k_neg c22 hok
    refine lv_aload_n hx hb dX9_meetings_25 rfl (lv_at hl 1 rfl) ?_
    refine lv_iload hx hb dX9_meetings_26 (lv_at hl 0 rfl) ?_
    obtain ⟨⟨r28, vM_28⟩, hc28, hok⟩ := k_bind hok
    try dsimp only at hok
    refine kCi (wc := (wX9_no cy aM qM vM_1)) (wc2 := (wX9_no cy aM qM vM_28)) (wr := [(qM 15, rI cy 224 vM_r), (qM 17, rI cy 9 vM_st), (qM 22, rI cy 9 vM_trial)]) (ws2 := (wX9_meetings cy aM qM vM_28 vM_r vM_st vM_trial)) (kRunV (As := [.int r15]) (rest := []) ⟨hx, hb, hml, hown, ht0⟩ (kX9_no l D cy _ aM qM vM_1 r15 r28 vM_28 hc28 _ rfl) (cwV 1 ht0 (gV wd862 wd863 wd864 wd744 wd865) rfl rfl rfl (by decide +kernel) ⟨Nat.le_of_ble_eq_true rfl, Nat.le_of_ble_eq_true rfl⟩) hK hN hP hD [0] rfl (by decide) 0 8 rfl rfl rfl hl.1 rfl (Nat.le_of_ble_eq_true rfl) dX9_meetings_28 ⟨Nat.zero_le _, Nat.zero_le _⟩) hP hD hS hA [0] [1, 2, 3] rfl rfl (by decide) (by decide) [3, 0, 1, 2] (by decide) rfl rfl (fun H locs hP hD hS => ?_)
    cases hok
    subst hQe; exact W.iret hx hb hr (fun t ht hW => ⟨⟨_, (), rfl, rfl, by rw [ht]; exact hP, va_K.moved hW.alike hK, hD⟩, hS.F ht⟩) hS.2.2 dX9_meetings_31
def wsX9_goneBy : List Cond := .code yX9_goneBy cX9_goneBy 5 (some .int) :: W0
abbrev wX9_goneBy (cy : Nat → ClassId) (aM : Nat) (qM : Nat → Nat) (vM : Nat → Int32) (vM_st : Nat → Int32) (vM_trial : Nat → Int32) (vM_r : Nat → Int32) : va_W := [(aM, oX9 vM qM), (qM 17, rI cy 9 vM_st), (qM 22, rI cy 9 vM_trial), (qM 15, rI cy 224 vM_r)]
set_option maxHeartbeats 4000000 in
set_option maxRecDepth 100000 in
theorem kX9_goneBy (l : Launch) (D : va_G) (cy : Nat → ClassId) (sz : Nat) (aM : Nat) (qM : Nat → Nat) (vM : Nat → Int32) (vM_st : Nat → Int32) (vM_trial : Nat → Int32) (vM_r : Nat → Int32) (x1 : Int32) (x2 : Int32) (zr : Int32) (z_vM_trial : Nat → Int32) (hok : fX9_goneBy vM vM_st vM_trial vM_r x1 x2 = some (zr, z_vM_trial)) (A : Nat → Prop) (hAe : va_A (wX9_goneBy cy aM qM vM vM_st vM_trial vM_r) sz = A) : Met l yX9_goneBy wsX9_goneBy ({ frames := 5, cells := 0, slots := 0, locals := 114 } : Room) (kPre D cy [.ref aM, .int x1, .int x2] (wX9_goneBy cy aM qM vM vM_st vM_trial vM_r) sz) (kQi D cy zr A (wX9_goneBy cy aM qM vM vM_st z_vM_trial vM_r)) 0 0 A := by
  refine Met.ofW (cc := cX9_goneBy) (maxL := 5) (ret := (some .int)) (by decide) rfl ?_
  intro p e s m args below meth c s₁ B hml hv
  obtain ⟨rfl, hsz, hP, hK, hD0, hN⟩ := hv
  have hx := B.exec
  have hb := B.bytes
  have hr := B.returns
  have ht0 : ∀ w ∈ W0, w.before _ s = true := fun w h => atoms_spec (ws := wsX9_goneBy) B.pre w (List.mem_cons_of_mem _ h)
  have hown : s.vm.findClass RX9 = some m.cls := findClass_of_methodNamed B.named
  have hlocks := B.notSynchronized
  subst hsz
  have hD : va_D A (wX9_goneBy cy aM qM vM vM_st vM_trial vM_r) := by rw [← hAe]; exact hD0.self
  have hA : ∀ q : Nat, s.heap.size ≤ q → A q := fun q h => by rw [← hAe]; exact Or.inr h
  have hS : va_S A s.heap s.heap [] := va_S.rf
  have hl := lv_entry ([.ref aM, .int x1, .int x2]) (n := 5) (Nat.le_of_ble_eq_true rfl)
  rw [lg_entry_eq]
  generalize (lg_sl ([.ref aM, .int x1, .int x2]) ++ List.replicate (5 - (lg_sl ([.ref aM, .int x1, .int x2])).length) Slot.unset).toArray = ls at hl ⊢
  have hl : lv_has ls 5 [(0, .ref aM), (1, .int x1), (2, .int x2)] := hl
  generalize hQe : MQ below (kQi D cy zr A (wX9_goneBy cy aM qM vM vM_st z_vM_trial vM_r)) ([.ref aM, .int x1, .int x2] : List Value).toArray s 0 0 A = Q
  have L20 : ∀ (fuel : Nat) (y3_20 : Int32) (y4_20 : Int32) (vM_trial_20 : Nat → Int32), ∀ (H : Heap) (locs : List Loc) (ls : Array Slot), va_P D vwCl (wX9_goneBy cy aM qM vM vM_st vM_trial_20 vM_r) H → va_D A (wX9_goneBy cy aM qM vM vM_st vM_trial_20 vM_r) → va_S A s.heap H locs → lv_has ls 5 [(0, .ref aM), (2, .int x2), (3, .int y3_20), (4, .int y4_20)] → lp (fX9_goneBy_B20 vM vM_r x2) fuel (y3_20, y4_20, vM_trial_20) = some (zr, z_vM_trial) → W p l e ({ frames := 5, cells := 0, slots := 0, locals := 114 } : Room) s m ([.ref aM, .int x1, .int x2] : List Value).toArray below meth c H locs 0 0 Q (F0 m 20 ls []) := by
    intro fuel
    induction fuel with
    | zero => intro y3_20 y4_20 vM_trial_20 H locs ls hP hD hS hl hok; exact (lp_0 hok).elim
    | succ fuel ih20 =>
      intro y3_20 y4_20 vM_trial_20 H locs ls hP hD hS hl hok
      obtain ⟨y20, hok, hL20, hR20⟩ := lp_step hok
      unfold fX9_goneBy_B20 at hok
      try dsimp only at hok
      refine lv_iload hx hb dX9_goneBy_20 (lv_at hl 3 rfl) ?_
      refine lv_iload_n hx hb dX9_goneBy_22 rfl (lv_at hl 1 rfl) ?_
      refine lv_icmp_ge (tgt := 46) hx hb dX9_goneBy_23 (by decide) (fun c23 => ?_) (fun c23 => ?_)
      · have hok := k_pos c23 hok
        obtain ⟨e20, hok, he20⟩ := ex_some hok
        have hok := hok.trans (congrArg some (hL20 _ he20))
        refine lv_iload_n hx hb dX9_goneBy_46 rfl (lv_at hl 2 rfl) ?_
        cases hok
        subst hQe; exact W.iret hx hb hr (fun t ht hW => ⟨⟨_, (), rfl, rfl, by rw [ht]; exact hP, va_K.moved hW.alike hK, hD⟩, hS.F ht⟩) hS.2.2 dX9_goneBy_47
      · have hok := k_neg c23 hok
        refine lv_iload_n hx hb dX9_goneBy_26 rfl (lv_at hl 2 rfl) ?_
        refine lv_aload_n hx hb dX9_goneBy_27 rfl (lv_at hl 0 rfl) ?_
        refine lv_aload_n hx hb dX9_goneBy_28 rfl (lv_at hl 0 rfl) ?_
        refine va_get (D := D) (ci := 8) (v := .ref (qM 22)) (C := RX9) (T := TX9) (N := 29) hx hb ht0 niX9 hown hK hP 0 rfl rfl 22 (by decide) (ht0 _ wd921) (fun _ h9 => h9) rfl dX9_goneBy_29 ?_
        obtain ⟨⟨r32, p1_32⟩, hc32, hok⟩ := k_bind hok
        try dsimp only at hok
        refine kCi (wc := (wX9_nightOf cy aM (qM 22) qM vM vM_r 9 vM_trial_20)) (wc2 := (wX9_nightOf cy aM (qM 22) qM vM vM_r 9 p1_32)) (wr := [(qM 17, rI cy 9 vM_st)]) (ws2 := (wX9_goneBy cy aM qM vM vM_st p1_32 vM_r)) (kRunV (As := [.ref (qM 22)]) (rest := [.int y3_20]) ⟨hx, hb, hml, hown, ht0⟩ (kX9_nightOf l D cy _ aM (qM 22) qM vM vM_r 9 vM_trial_20 r32 p1_32 hc32 _ rfl) (cwV 1 ht0 (gV wd940 wd941 wd942 wd744 wd943) rfl rfl rfl (by decide +kernel) ⟨Nat.le_of_ble_eq_true rfl, Nat.le_of_ble_eq_true rfl⟩) hK hN hP hD [0, 3, 2] rfl (by decide) 0 8 rfl rfl rfl hl.1 rfl (Nat.le_of_ble_eq_true rfl) dX9_goneBy_32 ⟨Nat.zero_le _, Nat.zero_le _⟩) hP hD hS hA [0, 3, 2] [1] rfl rfl (by decide) (by decide) [1, 0, 3, 2] (by decide) rfl rfl (fun H locs hP hD hS => ?_)
        obtain ⟨r35, hc35, hok⟩ := k_bind hok
        refine kCi (wc := (wX9_ones cy )) (wc2 := (wX9_ones cy )) (wr := [(aM, oX9 vM qM), (qM 17, rI cy 9 vM_st), (qM 22, rI cy 9 p1_32), (qM 15, rI cy 224 vM_r)]) (ws2 := (wX9_goneBy cy aM qM vM vM_st p1_32 vM_r)) (kRunS (As := [.int r32]) (rest := [.int y3_20]) ⟨hx, hb, hml, hown, ht0⟩ (kX9_ones l D cy _ r32 r35 hc35 _ rfl) (va_cwS 1 ht0 (gS wd922 wd923 wd744 wd924) rfl rfl rfl (by decide +kernel) ⟨Nat.le_of_ble_eq_true rfl, Nat.le_of_ble_eq_true rfl⟩) hK hN hP hD [] rfl (by decide) rfl hl.1 rfl (Nat.le_of_ble_eq_true rfl) dX9_goneBy_35 ⟨Nat.zero_le _, Nat.zero_le _⟩) hP hD hS hA [] [0, 1, 2, 3] rfl rfl (by decide) (by decide) [0, 1, 2, 3] (by decide) rfl rfl (fun H locs hP hD hS => ?_)
        refine lv_iadd hx hb dX9_goneBy_38 ?_
        refine lv_istore_n (lv' := [(3, .int (y3_20 + r35)), (0, .ref aM), (2, .int x2), (4, .int y4_20)]) hx hb dX9_goneBy_39 rfl hl (by decide) rfl (fun ls hl => ?_)
        refine lv_iinc (v := (y4_20 + 1)) (lv' := [(4, .int (y4_20 + 1)), (3, .int (y3_20 + r35)), (0, .ref aM), (2, .int x2)]) hx hb dX9_goneBy_40 hl (k := 3) rfl (by first | rfl | decide) (by decide) rfl (fun ls hl => ?_)
        refine lv_goto (tgt := 20) hx hb dX9_goneBy_43 (by decide) ?_
        exact ih20 (y3_20 + r35) (y4_20 + 1) p1_32 H locs ls hP hD hS (lv_sub hl [2, 3, 1, 0] rfl) (hR20 _ (Option.some.inj hok).symm)
  unfold fX9_goneBy at hok
  obtain ⟨H, hH⟩ : ∃ H, H = s.heap := ⟨_, rfl⟩
  obtain ⟨locs, hlc⟩ : ∃ x : List Loc, x = [] := ⟨_, rfl⟩
  have hP : va_P D vwCl (wX9_goneBy cy aM qM vM vM_st vM_trial vM_r) H := by rw [hH]; exact hP
  have hS : va_S A s.heap H locs := by rw [hH, hlc]; exact hS
  rw [show W p l e _ s m _ below meth c s.heap [] = W p l e _ s m _ below meth c H locs from by rw [hH, hlc]]
  refine lv_aload_n hx hb dX9_goneBy_0 rfl (lv_at hl 0 rfl) ?_
  obtain ⟨vM_trial_1, hc1, hok⟩ := k_bind hok
  refine kCv (wc := (wX9_begin cy aM qM vM vM_st vM_trial)) (wc2 := (wX9_begin cy aM qM vM vM_st vM_trial_1)) (wr := [(qM 15, rI cy 224 vM_r)]) (ws2 := (wX9_goneBy cy aM qM vM vM_st vM_trial_1 vM_r)) (kRunV (As := []) (rest := []) ⟨hx, hb, hml, hown, ht0⟩ (kX9_begin l D cy _ aM qM vM vM_st vM_trial vM_trial_1 hc1 _ rfl) (cwV 0 ht0 (gV wd948 wd949 wd950 wd744 wd951) rfl rfl rfl (by decide +kernel) ⟨Nat.le_of_ble_eq_true rfl, Nat.le_of_ble_eq_true rfl⟩) hK hN hP hD [0, 1, 2] rfl (by decide) 0 8 rfl rfl rfl hl.1 rfl (Nat.le_of_ble_eq_true rfl) dX9_goneBy_1 ⟨Nat.zero_le _, Nat.zero_le _⟩) hP hD hS hA [0, 1, 2] [3] rfl rfl (by decide) (by decide) [1, 2, 3, 0] (by decide) rfl rfl (fun H locs hP hD hS => ?_)
  refine lv_aload_n hx hb dX9_goneBy_4 rfl (lv_at hl 0 rfl) ?_
  refine va_get (D := D) (ci := 8) (v := .ref (qM 22)) (C := RX9) (T := TX9) (N := 29) hx hb ht0 niX9 hown hK hP 0 rfl rfl 22 (by decide) (ht0 _ wd921) (fun _ h9 => h9) rfl dX9_goneBy_5 ?_
  refine lv_bipush (v := 7) hx hb dX9_goneBy_8 (by decide) ?_
  refine lv_dup2_11 hx hb dX9_goneBy_10 rfl rfl ?_
  obtain ⟨g11, hok⟩ := gd_some hok
  refine va_iald hx hb hK hP 2 0 rfl rfl (okI_in g11) dX9_goneBy_11 ?_
  refine lv_iload_n hx hb dX9_goneBy_12 rfl (lv_at hl 1 rfl) ?_
  refine lv_ior hx hb dX9_goneBy_13 ?_
  obtain ⟨g14, hok⟩ := gd_some hok
  refine va_iast hx hb hK hP hD hS 2 0 rfl rfl (okI_in g14) dX9_goneBy_14 (fun H locs hP hD hS => ?_)
  have hP : va_P D vwCl (wX9_goneBy cy aM qM vM vM_st (upd vM_trial_1 (7 : Int32).toNatClampNeg ((vM_trial_1 (7 : Int32).toNatClampNeg) ||| x1)) vM_r) H := hP
  have hD : va_D A (wX9_goneBy cy aM qM vM vM_st (upd vM_trial_1 (7 : Int32).toNatClampNeg ((vM_trial_1 (7 : Int32).toNatClampNeg) ||| x1)) vM_r) := hD
  refine lv_iconst (v := 0) hx hb dX9_goneBy_15 (by decide) ?_
  refine lv_istore_n (lv' := [(3, .int 0), (0, .ref aM), (1, .int x1), (2, .int x2)]) hx hb dX9_goneBy_16 rfl hl (by decide) rfl (fun ls hl => ?_)
  refine lv_iconst (v := 0) hx hb dX9_goneBy_17 (by decide) ?_
  refine lv_istore (lv' := [(4, .int 0), (3, .int 0), (0, .ref aM), (1, .int x1), (2, .int x2)]) hx hb dX9_goneBy_18 hl (by decide) rfl (fun ls hl => ?_)
  exact L20 5000 (0 : Int32) (0 : Int32) (upd vM_trial_1 (7 : Int32).toNatClampNeg ((vM_trial_1 (7 : Int32).toNatClampNeg) ||| x1)) H locs ls hP hD hS (lv_sub hl [2, 4, 1, 0] rfl) hok
