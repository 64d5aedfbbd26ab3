def wsX9_wantLine : List Cond := .code yX9_wantLine cX9_wantLine 3 none :: W0
abbrev wX9_wantLine (cy : Nat → ClassId) (aM : Nat) (qM : Nat → Nat) (vM : Nat → Int32) (vM_fresh : Nat → Int32) (vM_letters : Nat → Int32) (vM_tape : Nat → Int32) : va_W := [(aM, oX9 vM qM), (qM 16, rI cy 224 vM_fresh), (qM 12, rI cy 8 vM_letters), (qM 1, rI cy 900 vM_tape)]
set_option maxHeartbeats 4000000 in
set_option maxRecDepth 100000 in
theorem kX9_wantLine (l : Launch) (D : va_G) (cy : Nat → ClassId) (ad : (Nat → Nat) × (Nat → Nat)) (sz : Nat) (aM : Nat) (qM : Nat → Nat) (vM : Nat → Int32) (vM_fresh : Nat → Int32) (vM_letters : Nat → Int32) (vM_tape : Nat → Int32) (z_vM : Nat → Int32) (z_vM_fresh : Nat → Int32) (z_vM_letters : Nat → Int32) (hok : fX9_wantLine vM vM_fresh vM_letters vM_tape = some (z_vM, z_vM_fresh, z_vM_letters)) (A : Nat → Prop) (hAe : va_A (wX9_wantLine cy aM qM vM vM_fresh vM_letters vM_tape) sz = A) : Met l yX9_wantLine wsX9_wantLine ({ frames := 8, cells := 0, slots := 0, locals := 173 } : Room) (kPreS D cy ad [.ref aM] (wX9_wantLine cy aM qM vM vM_fresh vM_letters vM_tape) sz A) (kQv D cy A (wX9_wantLine cy aM qM z_vM z_vM_fresh z_vM_letters vM_tape)) 0 0 A := by
  refine Met.ofW (cc := cX9_wantLine) (maxL := 3) (ret := none) (by decide) rfl ?_
  intro p e s m args below meth c s₁ B hml hv
  obtain ⟨rfl, ⟨hsz, hP, hK, hD0, hN⟩, hSt⟩ := hv
  have hx := B.exec
  have hb := B.bytes
  have hr := B.returns
  have ht0 : ∀ w ∈ W0, w.before _ s = true := fun w h => atoms_spec (ws := wsX9_wantLine) B.pre w (List.mem_cons_of_mem _ h)
  have hown : s.vm.findClass RX9 = some m.cls := findClass_of_methodNamed B.named
  have hlocks := B.notSynchronized
  subst hsz
  have hD : va_D A (wX9_wantLine cy aM qM vM vM_fresh vM_letters vM_tape) := by rw [← hAe]; exact hD0.self
  have hA : ∀ q : Nat, s.heap.size ≤ q → A q := fun q h => by rw [← hAe]; exact Or.inr h
  have hS : va_S A s.heap s.heap [] := va_S.rf
  have hl := lv_entry ([.ref aM]) (n := 3) (Nat.le_of_ble_eq_true rfl)
  rw [lg_entry_eq]
  generalize (lg_sl ([.ref aM]) ++ List.replicate (3 - (lg_sl ([.ref aM])).length) Slot.unset).toArray = ls at hl ⊢
  have hl : lv_has ls 3 [(0, .ref aM)] := hl
  generalize hQe : MQ below (kQv D cy A (wX9_wantLine cy aM qM z_vM z_vM_fresh z_vM_letters vM_tape)) ([.ref aM] : List Value).toArray s 0 0 A = Q
  have J136 : ∀ (vM_fresh_136 : Nat → Int32) (vM_letters_136 : Nat → Int32) (vM_136 : Nat → Int32), ∀ (H : Heap) (locs : List Loc) (ls : Array Slot), va_P D vwCl (wX9_wantLine cy aM qM vM_136 vM_fresh_136 vM_letters_136 vM_tape) H → va_D A (wX9_wantLine cy aM qM vM_136 vM_fresh_136 vM_letters_136 vM_tape) → va_S A s.heap H locs → lv_has ls 3 [] → fX9_wantLine_J136 vM_fresh_136 vM_letters_136 vM_136 = some (z_vM, z_vM_fresh, z_vM_letters) → W p l e ({ frames := 8, cells := 0, slots := 0, locals := 173 } : Room) s m ([.ref aM] : List Value).toArray below meth c H locs 0 0 Q (F0 m 136 ls []) := by
    intro vM_fresh_136 vM_letters_136 vM_136 H locs ls hP hD hS hl hok
    unfold fX9_wantLine_J136 at hok
    cases hok
    subst hQe; exact W.vret hx hb hr (fun t ht hW => ⟨⟨(), rfl, trivial, by rw [ht]; exact hP, va_K.moved hW.alike hK, hD⟩, hS.F ht⟩) hS.2.2 dX9_wantLine_136
  unfold fX9_wantLine at hok
  obtain ⟨H, hH⟩ : ∃ H, H = s.heap := ⟨_, rfl⟩
  obtain ⟨locs, hlc⟩ : ∃ x : List Loc, x = [] := ⟨_, rfl⟩
  have hP : va_P D vwCl (wX9_wantLine cy aM qM vM vM_fresh vM_letters vM_tape) H := by rw [hH]; exact hP
  have hS : va_S A s.heap H locs := by rw [hH, hlc]; exact hS
  rw [show W p l e _ s m _ below meth c s.heap [] = W p l e _ s m _ below meth c H locs from by rw [hH, hlc]]
  refine lv_aload_n hx hb dX9_wantLine_0 rfl (lv_at hl 0 rfl) ?_
  refine va_get (D := D) (ci := 8) (v := .int (vM 13)) (C := RX9) (T := TX9) (N := 29) hx hb ht0 niX9 hown hK hP 0 rfl rfl 13 (by decide) (ht0 _ wd757) (fun _ h9 => h9) rfl dX9_wantLine_1 ?_
  refine lv_if_eq (tgt := 8) hx hb dX9_wantLine_4 (by decide) (fun c4 => ?_) (fun c4 => ?_)
  · have hok := k_pos c4 hok
    refine lv_bipush (v := 83) hx hb dX9_wantLine_8 (by decide) ?_
    refine lv_iconst (v := 4) hx hb dX9_wantLine_10 (by decide) ?_
    refine lv_aload_n hx hb dX9_wantLine_11 rfl (lv_at hl 0 rfl) ?_
    refine va_get (D := D) (ci := 8) (v := .ref (qM 16)) (C := RX9) (T := TX9) (N := 29) hx hb ht0 niX9 hown hK hP 0 rfl rfl 16 (by decide) (ht0 _ wd778) (fun _ h9 => h9) rfl dX9_wantLine_12 ?_
    refine lv_bipush (v := 6) hx hb dX9_wantLine_15 (by decide) ?_
    obtain ⟨g17, hok⟩ := gd_some hok
    refine va_iald hx hb hK hP 1 0 rfl rfl (okI_in g17) dX9_wantLine_17 ?_
    refine lv_imul hx hb dX9_wantLine_18 ?_
    refine lv_iadd hx hb dX9_wantLine_19 ?_
    refine lv_istore_n (lv' := [(1, .int ((83 : Int32) + ((4 : Int32) * (vM_fresh (6 : Int32).toNatClampNeg)))), (0, .ref aM)]) hx hb dX9_wantLine_20 rfl hl (by decide) rfl (fun ls hl => ?_)
    refine lv_aload_n hx hb dX9_wantLine_21 rfl (lv_at hl 1 rfl) ?_
    refine va_get (D := D) (ci := 8) (v := .ref (qM 16)) (C := RX9) (T := TX9) (N := 29) hx hb ht0 niX9 hown hK hP 0 rfl rfl 16 (by decide) (ht0 _ wd778) (fun _ h9 => h9) rfl dX9_wantLine_22 ?_
    refine lv_iload_n hx hb dX9_wantLine_25 rfl (lv_at hl 0 rfl) ?_
    refine lv_aload_n hx hb dX9_wantLine_26 rfl (lv_at hl 1 rfl) ?_
    refine lv_iconst (v := 4) hx hb dX9_wantLine_27 (by decide) ?_
    refine lv_bipush (v := 10) hx hb dX9_wantLine_28 (by decide) ?_
    obtain ⟨⟨r30, vM_30, vM_letters_30⟩, hc30, hok⟩ := k_bind hok
    try dsimp only at hok
    refine kCi (wc := (wX9_named cy aM qM vM vM_letters vM_fresh vM_tape)) (wc2 := (wX9_named cy aM qM vM_30 vM_letters_30 vM_fresh vM_tape)) (wr := []) (ws2 := (wX9_wantLine cy aM qM vM_30 vM_fresh vM_letters_30 vM_tape)) (kRunVS (As := [.int 4, .int 10]) (rest := [.int ((83 : Int32) + ((4 : Int32) * (vM_fresh (6 : Int32).toNatClampNeg))), .ref (qM 16)]) ⟨hx, hb, hml, hown, ht0⟩ (kX9_named l D cy ad _ aM qM vM vM_letters vM_fresh vM_tape (4 : Int32) (10 : Int32) r30 vM_30 vM_letters_30 hc30 _ rfl) (cwV 2 ht0 (gV wd790 wd791 wd792 wd744 wd793) rfl rfl rfl (by decide +kernel) ⟨Nat.le_of_ble_eq_true rfl, Nat.le_of_ble_eq_true rfl⟩) hK hN hP hD hSt hS hA [0, 2, 1, 3] rfl (by decide) 0 8 rfl rfl rfl hl.1 rfl (Nat.le_of_ble_eq_true rfl) dX9_wantLine_30 ⟨Nat.zero_le _, Nat.zero_le _⟩) hP hD hS hA [0, 2, 1, 3] [] rfl rfl (by decide) (by decide) [0, 2, 1, 3] (by decide) rfl rfl (fun H locs hP hD hS => ?_)
    obtain ⟨g33, hok⟩ := gd_some hok
    refine va_iast hx hb hK hP hD hS 1 0 rfl rfl (okI_in g33) dX9_wantLine_33 (fun H locs hP hD hS => ?_)
    have hP : va_P D vwCl (wX9_wantLine cy aM qM vM_30 (upd vM_fresh ((83 : Int32) + ((4 : Int32) * (vM_fresh (6 : Int32).toNatClampNeg))).toNatClampNeg r30) vM_letters_30 vM_tape) H := hP
    have hD : va_D A (wX9_wantLine cy aM qM vM_30 (upd vM_fresh ((83 : Int32) + ((4 : Int32) * (vM_fresh (6 : Int32).toNatClampNeg))).toNatClampNeg r30) vM_letters_30 vM_tape) := hD
    refine lv_aload_n hx hb dX9_wantLine_34 rfl (lv_at hl 1 rfl) ?_
    refine va_ldcS (own := RX9) (tx := "in") (index := 232) (q := ad.1 9) hx hb hown (hSt.2.1 (RX9, 232, "in", 9) (List.mem_of_getElem? (i := 39) rfl)) dX9_wantLine_35 ?_
    obtain ⟨⟨vM_37, vM_letters_37⟩, hc37, hok⟩ := k_bind hok
    try dsimp only at hok
    refine kCv (wc := (wX9_must cy aM qM vM_30 vM_letters_30 vM_tape)) (wc2 := (wX9_must cy aM qM vM_37 vM_letters_37 vM_tape)) (wr := [(qM 16, rI cy 224 (upd vM_fresh ((83 : Int32) + ((4 : Int32) * (vM_fresh (6 : Int32).toNatClampNeg))).toNatClampNeg r30))]) (ws2 := (wX9_wantLine cy aM qM vM_37 (upd vM_fresh ((83 : Int32) + ((4 : Int32) * (vM_fresh (6 : Int32).toNatClampNeg))).toNatClampNeg r30) vM_letters_37 vM_tape)) (kRunVS (As := [.ref (ad.1 9)]) (rest := []) ⟨hx, hb, hml, hown, ht0⟩ (kX9_must l D cy ad _ aM qM vM_30 vM_letters_30 vM_tape 9 vM_37 vM_letters_37 hc37 _ rfl) (cwV 1 ht0 (gV wd798 wd799 wd800 wd744 wd801) rfl rfl rfl (by decide +kernel) ⟨Nat.le_of_ble_eq_true rfl, Nat.le_of_ble_eq_true rfl⟩) hK hN hP hD hSt hS hA [0, 2, 3] rfl (by decide) 0 8 rfl rfl rfl hl.1 rfl (Nat.le_of_ble_eq_true rfl) dX9_wantLine_37 ⟨Nat.zero_le _, Nat.zero_le _⟩) hP hD hS hA [0, 2, 3] [1] rfl rfl (by decide) (by decide) [1, 0, 2, 3] (by decide) rfl rfl (fun H locs hP hD hS => ?_)
    refine lv_aload_n hx hb dX9_wantLine_40 rfl (lv_at hl 1 rfl) ?_
    obtain ⟨⟨r41, vM_41, vM_letters_41⟩, hc41, hok⟩ := k_bind hok
    try dsimp only at hok
    refine kCi (wc := (wX9_ringName cy aM qM vM_37 vM_letters_37 (upd vM_fresh ((83 : Int32) + ((4 : Int32) * (vM_fresh (6 : Int32).toNatClampNeg))).toNatClampNeg r30) vM_tape)) (wc2 := (wX9_ringName cy aM qM vM_41 vM_letters_41 (upd vM_fresh ((83 : Int32) + ((4 : Int32) * (vM_fresh (6 : Int32).toNatClampNeg))).toNatClampNeg r30) vM_tape)) (wr := []) (ws2 := (wX9_wantLine cy aM qM vM_41 (upd vM_fresh ((83 : Int32) + ((4 : Int32) * (vM_fresh (6 : Int32).toNatClampNeg))).toNatClampNeg r30) vM_letters_41 vM_tape)) (kRunVS (As := []) (rest := []) ⟨hx, hb, hml, hown, ht0⟩ (kX9_ringName l D cy ad _ aM qM vM_37 vM_letters_37 (upd vM_fresh ((83 : Int32) + ((4 : Int32) * (vM_fresh (6 : Int32).toNatClampNeg))).toNatClampNeg r30) vM_tape r41 vM_41 vM_letters_41 hc41 _ rfl) (cwV 0 ht0 (gV wd814 wd815 wd816 wd744 wd817) rfl rfl rfl (by decide +kernel) ⟨Nat.le_of_ble_eq_true rfl, Nat.le_of_ble_eq_true rfl⟩) hK hN hP hD hSt hS hA [0, 2, 1, 3] rfl (by decide) 0 8 rfl rfl rfl hl.1 rfl (Nat.le_of_ble_eq_true rfl) dX9_wantLine_41 ⟨Nat.zero_le _, Nat.zero_le _⟩) hP hD hS hA [0, 2, 1, 3] [] rfl rfl (by decide) (by decide) [0, 2, 1, 3] (by decide) rfl rfl (fun H locs hP hD hS => ?_)
    refine lv_istore_n (lv' := [(2, .int r41), (1, .int ((83 : Int32) + ((4 : Int32) * (vM_fresh (6 : Int32).toNatClampNeg)))), (0, .ref aM)]) hx hb dX9_wantLine_44 rfl hl (by decide) rfl (fun ls hl => ?_)
    refine lv_aload_n hx hb dX9_wantLine_45 rfl (lv_at hl 2 rfl) ?_
    refine va_ldcS (own := RX9) (tx := "at") (index := 233) (q := ad.1 0) hx hb hown (hSt.2.1 (RX9, 233, "at", 0) (List.mem_of_getElem? (i := 40) rfl)) dX9_wantLine_46 ?_
    obtain ⟨⟨vM_48, vM_letters_48⟩, hc48, hok⟩ := k_bind hok
    try dsimp only at hok
    refine kCv (wc := (wX9_must cy aM qM vM_41 vM_letters_41 vM_tape)) (wc2 := (wX9_must cy aM qM vM_48 vM_letters_48 vM_tape)) (wr := [(qM 16, rI cy 224 (upd vM_fresh ((83 : Int32) + ((4 : Int32) * (vM_fresh (6 : Int32).toNatClampNeg))).toNatClampNeg r30))]) (ws2 := (wX9_wantLine cy aM qM vM_48 (upd vM_fresh ((83 : Int32) + ((4 : Int32) * (vM_fresh (6 : Int32).toNatClampNeg))).toNatClampNeg r30) vM_letters_48 vM_tape)) (kRunVS (As := [.ref (ad.1 0)]) (rest := []) ⟨hx, hb, hml, hown, ht0⟩ (kX9_must l D cy ad _ aM qM vM_41 vM_letters_41 vM_tape 0 vM_48 vM_letters_48 hc48 _ rfl) (cwV 1 ht0 (gV wd798 wd799 wd800 wd744 wd801) rfl rfl rfl (by decide +kernel) ⟨Nat.le_of_ble_eq_true rfl, Nat.le_of_ble_eq_true rfl⟩) hK hN hP hD hSt hS hA [0, 2, 3] rfl (by decide) 0 8 rfl rfl rfl hl.1 rfl (Nat.le_of_ble_eq_true rfl) dX9_wantLine_48 ⟨Nat.zero_le _, Nat.zero_le _⟩) hP hD hS hA [0, 2, 3] [1] rfl rfl (by decide) (by decide) [1, 0, 2, 3] (by decide) rfl rfl (fun H locs hP hD hS => ?_)
    refine lv_aload_n hx hb dX9_wantLine_51 rfl (lv_at hl 2 rfl) ?_
    refine va_get (D := D) (ci := 8) (v := .int (vM_48 13)) (C := RX9) (T := TX9) (N := 29) hx hb ht0 niX9 hown hK hP 0 rfl rfl 13 (by decide) (ht0 _ wd757) (fun _ h9 => h9) rfl dX9_wantLine_52 ?_
    refine lv_if_eq (tgt := 59) hx hb dX9_wantLine_55 (by decide) (fun c55 => ?_) (fun c55 => ?_)
    · have hok := k_pos c55 hok
      refine lv_aload_n hx hb dX9_wantLine_59 rfl (lv_at hl 2 rfl) ?_
      refine va_get (D := D) (ci := 8) (v := .ref (qM 16)) (C := RX9) (T := TX9) (N := 29) hx hb ht0 niX9 hown hK hP 0 rfl rfl 16 (by decide) (ht0 _ wd778) (fun _ h9 => h9) rfl dX9_wantLine_60 ?_
      refine lv_iload_n hx hb dX9_wantLine_63 rfl (lv_at hl 1 rfl) ?_
      refine lv_iconst (v := 1) hx hb dX9_wantLine_64 (by decide) ?_
      refine lv_iadd hx hb dX9_wantLine_65 ?_
      refine lv_aload_n hx hb dX9_wantLine_66 rfl (lv_at hl 2 rfl) ?_
      refine lv_iload_n hx hb dX9_wantLine_67 rfl (lv_at hl 0 rfl) ?_
      obtain ⟨⟨r68, vM_68⟩, hc68, hok⟩ := k_bind hok
      try dsimp only at hok
      refine kCi (wc := (wX9_placeHere cy aM qM vM_48 (upd vM_fresh ((83 : Int32) + ((4 : Int32) * (vM_fresh (6 : Int32).toNatClampNeg))).toNatClampNeg r30))) (wc2 := (wX9_placeHere cy aM qM vM_68 (upd vM_fresh ((83 : Int32) + ((4 : Int32) * (vM_fresh (6 : Int32).toNatClampNeg))).toNatClampNeg r30))) (wr := [(qM 12, rI cy 8 vM_letters_48), (qM 1, rI cy 900 vM_tape)]) (ws2 := (wX9_wantLine cy aM qM vM_68 (upd vM_fresh ((83 : Int32) + ((4 : Int32) * (vM_fresh (6 : Int32).toNatClampNeg))).toNatClampNeg r30) vM_letters_48 vM_tape)) (kRunV (As := [.int r41]) (rest := [.int (((83 : Int32) + ((4 : Int32) * (vM_fresh (6 : Int32).toNatClampNeg))) + (1 : Int32)), .ref (qM 16)]) ⟨hx, hb, hml, hown, ht0⟩ (kX9_placeHere l D cy _ aM qM vM_48 (upd vM_fresh ((83 : Int32) + ((4 : Int32) * (vM_fresh (6 : Int32).toNatClampNeg))).toNatClampNeg r30) r41 r68 vM_68 hc68 _ rfl) (cwV 1 ht0 (gV wd818 wd819 wd820 wd744 wd821) rfl rfl rfl (by decide +kernel) ⟨Nat.le_of_ble_eq_true rfl, Nat.le_of_ble_eq_true rfl⟩) hK hN hP hD [0, 1] rfl (by decide) 0 8 rfl rfl rfl hl.1 rfl (Nat.le_of_ble_eq_true rfl) dX9_wantLine_68 ⟨Nat.zero_le _, Nat.zero_le _⟩) hP hD hS hA [0, 1] [2, 3] rfl rfl (by decide) (by decide) [2, 3, 0, 1] (by decide) rfl rfl (fun H locs hP hD hS => ?_)
      obtain ⟨g71, hok⟩ := gd_some hok
      refine va_iast hx hb hK hP hD hS 1 0 rfl rfl (okI_in g71) dX9_wantLine_71 (fun H locs hP hD hS => ?_)
      have hP : va_P D vwCl (wX9_wantLine cy aM qM vM_68 (upd (upd vM_fresh ((83 : Int32) + ((4 : Int32) * (vM_fresh (6 : Int32).toNatClampNeg))).toNatClampNeg r30) (((83 : Int32) + ((4 : Int32) * (vM_fresh (6 : Int32).toNatClampNeg))) + (1 : Int32)).toNatClampNeg r68) vM_letters_48 vM_tape) H := hP
      have hD : va_D A (wX9_wantLine cy aM qM vM_68 (upd (upd vM_fresh ((83 : Int32) + ((4 : Int32) * (vM_fresh (6 : Int32).toNatClampNeg))).toNatClampNeg r30) (((83 : Int32) + ((4 : Int32) * (vM_fresh (6 : Int32).toNatClampNeg))) + (1 : Int32)).toNatClampNeg r68) vM_letters_48 vM_tape) := hD
      refine lv_aload_n hx hb dX9_wantLine_72 rfl (lv_at hl 2 rfl) ?_
      refine va_get (D := D) (ci := 8) (v := .int (vM_68 13)) (C := RX9) (T := TX9) (N := 29) hx hb ht0 niX9 hown hK hP 0 rfl rfl 13 (by decide) (ht0 _ wd757) (fun _ h9 => h9) rfl dX9_wantLine_73 ?_
      refine lv_if_eq (tgt := 80) hx hb dX9_wantLine_76 (by decide) (fun c76 => ?_) (fun c76 => ?_)
      · have hok := k_pos c76 hok
        refine lv_aload_n hx hb dX9_wantLine_80 rfl (lv_at hl 2 rfl) ?_
        obtain ⟨⟨vM_81, vM_letters_81⟩, hc81, hok⟩ := k_bind hok
        try dsimp only at hok
        refine kCv (wc := (wX9_next cy aM qM vM_68 vM_tape vM_letters_48)) (wc2 := (wX9_next cy aM qM vM_81 vM_tape vM_letters_81)) (wr := [(qM 16, rI cy 224 (upd (upd vM_fresh ((83 : Int32) + ((4 : Int32) * (vM_fresh (6 : Int32).toNatClampNeg))).toNatClampNeg r30) (((83 : Int32) + ((4 : Int32) * (vM_fresh (6 : Int32).toNatClampNeg))) + (1 : Int32)).toNatClampNeg r68))]) (ws2 := (wX9_wantLine cy aM qM vM_81 (upd (upd vM_fresh ((83 : Int32) + ((4 : Int32) * (vM_fresh (6 : Int32).toNatClampNeg))).toNatClampNeg r30) (((83 : Int32) + ((4 : Int32) * (vM_fresh (6 : Int32).toNatClampNeg))) + (1 : Int32)).toNatClampNeg r68) vM_letters_81 vM_tape)) (kRunV (As := []) (rest := []) ⟨hx, hb, hml, hown, ht0⟩ (kX9_next l D cy _ aM qM vM_68 vM_tape vM_letters_48 vM_81 vM_letters_81 hc81 _ rfl) (cwV 0 ht0 (gV wd766 wd767 wd768 wd744 wd769) rfl rfl rfl (by decide +kernel) ⟨Nat.le_of_ble_eq_true rfl, Nat.le_of_ble_eq_true rfl⟩) hK hN hP hD [0, 3, 2] rfl (by decide) 0 8 rfl rfl rfl hl.1 rfl (Nat.le_of_ble_eq_true rfl) dX9_wantLine_81 ⟨Nat.zero_le _, Nat.zero_le _⟩) hP hD hS hA [0, 3, 2] [1] rfl rfl (by decide) (by decide) [1, 0, 3, 2] (by decide) rfl rfl (fun H locs hP hD hS => ?_)
        refine lv_aload_n hx hb dX9_wantLine_84 rfl (lv_at hl 2 rfl) ?_
        refine va_get (D := D) (ci := 8) (v := .ref (qM 16)) (C := RX9) (T := TX9) (N := 29) hx hb ht0 niX9 hown hK hP 0 rfl rfl 16 (by decide) (ht0 _ wd778) (fun _ h9 => h9) rfl dX9_wantLine_85 ?_
        refine lv_iload_n hx hb dX9_wantLine_88 rfl (lv_at hl 1 rfl) ?_
        refine lv_iconst (v := 2) hx hb dX9_wantLine_89 (by decide) ?_
        refine lv_iadd hx hb dX9_wantLine_90 ?_
        refine lv_aload_n hx hb dX9_wantLine_91 rfl (lv_at hl 2 rfl) ?_
        refine va_ldcS (own := RX9) (tx := "night") (index := 235) (q := ad.1 12) hx hb hown (hSt.2.1 (RX9, 235, "night", 12) (List.mem_of_getElem? (i := 42) rfl)) dX9_wantLine_92 ?_
        refine lv_iconst (v := 1) hx hb dX9_wantLine_94 (by decide) ?_
        refine lv_bipush (v := 60) hx hb dX9_wantLine_95 (by decide) ?_
        obtain ⟨⟨r97, vM_97, vM_letters_97⟩, hc97, hok⟩ := k_bind hok
        try dsimp only at hok
        refine kCi (wc := (wX9_after cy aM qM vM_81 vM_letters_81 vM_tape)) (wc2 := (wX9_after cy aM qM vM_97 vM_letters_97 vM_tape)) (wr := [(qM 16, rI cy 224 (upd (upd vM_fresh ((83 : Int32) + ((4 : Int32) * (vM_fresh (6 : Int32).toNatClampNeg))).toNatClampNeg r30) (((83 : Int32) + ((4 : Int32) * (vM_fresh (6 : Int32).toNatClampNeg))) + (1 : Int32)).toNatClampNeg r68))]) (ws2 := (wX9_wantLine cy aM qM vM_97 (upd (upd vM_fresh ((83 : Int32) + ((4 : Int32) * (vM_fresh (6 : Int32).toNatClampNeg))).toNatClampNeg r30) (((83 : Int32) + ((4 : Int32) * (vM_fresh (6 : Int32).toNatClampNeg))) + (1 : Int32)).toNatClampNeg r68) vM_letters_97 vM_tape)) (kRunVS (As := [.ref (ad.1 12), .int 1, .int 60]) (rest := [.int (((83 : Int32) + ((4 : Int32) * (vM_fresh (6 : Int32).toNatClampNeg))) + (2 : Int32)), .ref (qM 16)]) ⟨hx, hb, hml, hown, ht0⟩ (kX9_after l D cy ad _ aM qM vM_81 vM_letters_81 vM_tape 12 (1 : Int32) (60 : Int32) r97 vM_97 vM_letters_97 hc97 _ rfl) (cwV 3 ht0 (gV wd806 wd807 wd808 wd744 wd809) rfl rfl rfl (by decide +kernel) ⟨Nat.le_of_ble_eq_true rfl, Nat.le_of_ble_eq_true rfl⟩) hK hN hP hD hSt hS hA [0, 2, 3] rfl (by decide) 0 8 rfl rfl rfl hl.1 rfl (Nat.le_of_ble_eq_true rfl) dX9_wantLine_97 ⟨Nat.zero_le _, Nat.zero_le _⟩) hP hD hS hA [0, 2, 3] [1] rfl rfl (by decide) (by decide) [1, 0, 2, 3] (by decide) rfl rfl (fun H locs hP hD hS => ?_)
        obtain ⟨g100, hok⟩ := gd_some hok
        refine va_iast hx hb hK hP hD hS 1 0 rfl rfl (okI_in g100) dX9_wantLine_100 (fun H locs hP hD hS => ?_)
        have hP : va_P D vwCl (wX9_wantLine cy aM qM vM_97 (upd (upd (upd vM_fresh ((83 : Int32) + ((4 : Int32) * (vM_fresh (6 : Int32).toNatClampNeg))).toNatClampNeg r30) (((83 : Int32) + ((4 : Int32) * (vM_fresh (6 : Int32).toNatClampNeg))) + (1 : Int32)).toNatClampNeg r68) (((83 : Int32) + ((4 : Int32) * (vM_fresh (6 : Int32).toNatClampNeg))) + (2 : Int32)).toNatClampNeg r97) vM_letters_97 vM_tape) H := hP
        have hD : va_D A (wX9_wantLine cy aM qM vM_97 (upd (upd (upd vM_fresh ((83 : Int32) + ((4 : Int32) * (vM_fresh (6 : Int32).toNatClampNeg))).toNatClampNeg r30) (((83 : Int32) + ((4 : Int32) * (vM_fresh (6 : Int32).toNatClampNeg))) + (1 : Int32)).toNatClampNeg r68) (((83 : Int32) + ((4 : Int32) * (vM_fresh (6 : Int32).toNatClampNeg))) + (2 : Int32)).toNatClampNeg r97) vM_letters_97 vM_tape) := hD
        refine lv_aload_n hx hb dX9_wantLine_101 rfl (lv_at hl 2 rfl) ?_
        refine va_get (D := D) (ci := 8) (v := .ref (qM 16)) (C := RX9) (T := TX9) (N := 29) hx hb ht0 niX9 hown hK hP 0 rfl rfl 16 (by decide) (ht0 _ wd778) (fun _ h9 => h9) rfl dX9_wantLine_102 ?_
        refine lv_iload_n hx hb dX9_wantLine_105 rfl (lv_at hl 1 rfl) ?_
        refine lv_iconst (v := 3) hx hb dX9_wantLine_106 (by decide) ?_
        refine lv_iadd hx hb dX9_wantLine_107 ?_
        refine lv_aload_n hx hb dX9_wantLine_108 rfl (lv_at hl 2 rfl) ?_
        refine va_ldcS (own := RX9) (tx := "pays") (index := 237) (q := ad.1 13) hx hb hown (hSt.2.1 (RX9, 237, "pays", 13) (List.mem_of_getElem? (i := 43) rfl)) dX9_wantLine_109 ?_
        refine lv_iconst (v := 1) hx hb dX9_wantLine_111 (by decide) ?_
        refine lv_bipush (v := 99) hx hb dX9_wantLine_112 (by decide) ?_
        obtain ⟨⟨r114, vM_114, vM_letters_114⟩, hc114, hok⟩ := k_bind hok
        try dsimp only at hok
        refine kCi (wc := (wX9_after cy aM qM vM_97 vM_letters_97 vM_tape)) (wc2 := (wX9_after cy aM qM vM_114 vM_letters_114 vM_tape)) (wr := [(qM 16, rI cy 224 (upd (upd (upd vM_fresh ((83 : Int32) + ((4 : Int32) * (vM_fresh (6 : Int32).toNatClampNeg))).toNatClampNeg r30) (((83 : Int32) + ((4 : Int32) * (vM_fresh (6 : Int32).toNatClampNeg))) + (1 : Int32)).toNatClampNeg r68) (((83 : Int32) + ((4 : Int32) * (vM_fresh (6 : Int32).toNatClampNeg))) + (2 : Int32)).toNatClampNeg r97))]) (ws2 := (wX9_wantLine cy aM qM vM_114 (upd (upd (upd vM_fresh ((83 : Int32) + ((4 : Int32) * (vM_fresh (6 : Int32).toNatClampNeg))).toNatClampNeg r30) (((83 : Int32) + ((4 : Int32) * (vM_fresh (6 : Int32).toNatClampNeg))) + (1 : Int32)).toNatClampNeg r68) (((83 : Int32) + ((4 : Int32) * (vM_fresh (6 : Int32).toNatClampNeg))) + (2 : Int32)).toNatClampNeg r97) vM_letters_114 vM_tape)) (kRunVS (As := [.ref (ad.1 13), .int 1, .int 99]) (rest := [.int (((83 : Int32) + ((4 : Int32) * (vM_fresh (6 : Int32).toNatClampNeg))) + (3 : Int32)), .ref (qM 16)]) ⟨hx, hb, hml, hown, ht0⟩ (kX9_after l D cy ad _ aM qM vM_97 vM_letters_97 vM_tape 13 (1 : Int32) (99 : Int32) r114 vM_114 vM_letters_114 hc114 _ rfl) (cwV 3 ht0 (gV wd806 wd807 wd808 wd744 wd809) rfl rfl rfl (by decide +kernel) ⟨Nat.le_of_ble_eq_true rfl, Nat.le_of_ble_eq_true rfl⟩) hK hN hP hD hSt hS hA [0, 2, 3] rfl (by decide) 0 8 rfl rfl rfl hl.1 rfl (Nat.le_of_ble_eq_true rfl) dX9_wantLine_114 ⟨Nat.zero_le _, Nat.zero_le _⟩) hP hD hS hA [0, 2, 3] [1] rfl rfl (by decide) (by decide) [1, 0, 2, 3] (by decide) rfl rfl (fun H locs hP hD hS => ?_)
        obtain ⟨g117, hok⟩ := gd_some hok
        refine va_iast hx hb hK hP hD hS 1 0 rfl rfl (okI_in g117) dX9_wantLine_117 (fun H locs hP hD hS => ?_)
        have hP : va_P D vwCl (wX9_wantLine cy aM qM vM_114 (upd (upd (upd (upd vM_fresh ((83 : Int32) + ((4 : Int32) * (vM_fresh (6 : Int32).toNatClampNeg))).toNatClampNeg r30) (((83 : Int32) + ((4 : Int32) * (vM_fresh (6 : Int32).toNatClampNeg))) + (1 : Int32)).toNatClampNeg r68) (((83 : Int32) + ((4 : Int32) * (vM_fresh (6 : Int32).toNatClampNeg))) + (2 : Int32)).toNatClampNeg r97) (((83 : Int32) + ((4 : Int32) * (vM_fresh (6 : Int32).toNatClampNeg))) + (3 : Int32)).toNatClampNeg r114) vM_letters_114 vM_tape) H := hP
        have hD : va_D A (wX9_wantLine cy aM qM vM_114 (upd (upd (upd (upd vM_fresh ((83 : Int32) + ((4 : Int32) * (vM_fresh (6 : Int32).toNatClampNeg))).toNatClampNeg r30) (((83 : Int32) + ((4 : Int32) * (vM_fresh (6 : Int32).toNatClampNeg))) + (1 : Int32)).toNatClampNeg r68) (((83 : Int32) + ((4 : Int32) * (vM_fresh (6 : Int32).toNatClampNeg))) + (2 : Int32)).toNatClampNeg r97) (((83 : Int32) + ((4 : Int32) * (vM_fresh (6 : Int32).toNatClampNeg))) + (3 : Int32)).toNatClampNeg r114) vM_letters_114 vM_tape) := hD
        refine lv_aload_n hx hb dX9_wantLine_118 rfl (lv_at hl 2 rfl) ?_
        refine va_get (D := D) (ci := 8) (v := .int (vM_114 13)) (C := RX9) (T := TX9) (N := 29) hx hb ht0 niX9 hown hK hP 0 rfl rfl 13 (by decide) (ht0 _ wd757) (fun _ h9 => h9) rfl dX9_wantLine_119 ?_
        refine lv_if_ne (tgt := 136) hx hb dX9_wantLine_122 (by decide) (fun c122 => ?_) (fun c122 => ?_)
        · have hok := k_neg c122 hok
          exact J136 (upd (upd (upd (upd vM_fresh ((83 : Int32) + ((4 : Int32) * (vM_fresh (6 : Int32).toNatClampNeg))).toNatClampNeg r30) (((83 : Int32) + ((4 : Int32) * (vM_fresh (6 : Int32).toNatClampNeg))) + (1 : Int32)).toNatClampNeg r68) (((83 : Int32) + ((4 : Int32) * (vM_fresh (6 : Int32).toNatClampNeg))) + (2 : Int32)).toNatClampNeg r97) (((83 : Int32) + ((4 : Int32) * (vM_fresh (6 : Int32).toNatClampNeg))) + (3 : Int32)).toNatClampNeg r114) vM_letters_114 vM_114 H locs ls hP hD hS (lv_sub hl [] rfl) hok
        · have hok := k_pos c122 hok
          refine lv_aload_n hx hb dX9_wantLine_125 rfl (lv_at hl 2 rfl) ?_
          refine va_get (D := D) (ci := 8) (v := .ref (qM 16)) (C := RX9) (T := TX9) (N := 29) hx hb ht0 niX9 hown hK hP 0 rfl rfl 16 (by decide) (ht0 _ wd778) (fun _ h9 => h9) rfl dX9_wantLine_126 ?_
          refine lv_bipush (v := 6) hx hb dX9_wantLine_129 (by decide) ?_
          refine lv_dup2_11 hx hb dX9_wantLine_131 rfl rfl ?_
          obtain ⟨g132, hok⟩ := gd_some hok
          refine va_iald hx hb hK hP 1 0 rfl rfl (okI_in g132) dX9_wantLine_132 ?_
          refine lv_iconst (v := 1) hx hb dX9_wantLine_133 (by decide) ?_
          refine lv_iadd hx hb dX9_wantLine_134 ?_
          obtain ⟨g135, hok⟩ := gd_some hok
          refine va_iast hx hb hK hP hD hS 1 0 rfl rfl (okI_in g135) dX9_wantLine_135 (fun H locs hP hD hS => ?_)
          have hP : va_P D vwCl (wX9_wantLine cy aM qM vM_114 (upd (upd (upd (upd (upd vM_fresh ((83 : Int32) + ((4 : Int32) * (vM_fresh (6 : Int32).toNatClampNeg))).toNatClampNeg r30) (((83 : Int32) + ((4 : Int32) * (vM_fresh (6 : Int32).toNatClampNeg))) + (1 : Int32)).toNatClampNeg r68) (((83 : Int32) + ((4 : Int32) * (vM_fresh (6 : Int32).toNatClampNeg))) + (2 : Int32)).toNatClampNeg r97) (((83 : Int32) + ((4 : Int32) * (vM_fresh (6 : Int32).toNatClampNeg))) + (3 : Int32)).toNatClampNeg r114) (6 : Int32).toNatClampNeg (((upd (upd (upd (upd vM_fresh ((83 : Int32) + ((4 : Int32) * (vM_fresh (6 : Int32).toNatClampNeg))).toNatClampNeg r30) (((83 : Int32) + ((4 : Int32) * (vM_fresh (6 : Int32).toNatClampNeg))) + (1 : Int32)).toNatClampNeg r68) (((83 : Int32) + ((4 : Int32) * (vM_fresh (6 : Int32).toNatClampNeg))) + (2 : Int32)).toNatClampNeg r97) (((83 : Int32) + ((4 : Int32) * (vM_fresh (6 : Int32).toNatClampNeg))) + (3 : Int32)).toNatClampNeg r114) (6 : Int32).toNatClampNeg) + (1 : Int32))) vM_letters_114 vM_tape) H := hP
          have hD : va_D A (wX9_wantLine cy aM qM vM_114 (upd (upd (upd (upd (upd vM_fresh ((83 : Int32) + ((4 : Int32) * (vM_fresh (6 : Int32).toNatClampNeg))).toNatClampNeg r30) (((83 : Int32) + ((4 : Int32) * (vM_fresh (6 : Int32).toNatClampNeg))) + (1 : Int32)).toNatClampNeg r68) (((83 : Int32) + ((4 : Int32) * (vM_fresh (6 : Int32).toNatClampNeg))) + (2 : Int32)).toNatClampNeg r97) (((83 : Int32) + ((4 : Int32) * (vM_fresh (6 : Int32).toNatClampNeg))) + (3 : Int32)).toNatClampNeg r114) (6 : Int32).toNatClampNeg (((upd (upd (upd (upd vM_fresh ((83 : Int32) + ((4 : Int32) * (vM_fresh (6 : Int32).toNatClampNeg))).toNatClampNeg r30) (((83 : Int32) + ((4 : Int32) * (vM_fresh (6 : Int32).toNatClampNeg))) + (1 : Int32)).toNatClampNeg r68) (((83 : Int32) + ((4 : Int32) * (vM_fresh (6 : Int32).toNatClampNeg))) + (2 : Int32)).toNatClampNeg r97) (((83 : Int32) + ((4 : Int32) * (vM_fresh (6 : Int32).toNatClampNeg))) + (3 : Int32)).toNatClampNeg r114) (6 : Int32).toNatClampNeg) + (1 : Int32))) vM_letters_114 vM_tape) := hD
          exact J136 (upd (upd (upd (upd (upd vM_fresh ((83 : Int32) + ((4 : Int32) * (vM_fresh (6 : Int32).toNatClampNeg))).toNatClampNeg r30) (((83 : Int32) + ((4 : Int32) * (vM_fresh (6 : Int32).toNatClampNeg))) + (1 : Int32)).toNatClampNeg r68) (((83 : Int32) + ((4 : Int32) * (vM_fresh (6 : Int32).toNatClampNeg))) + (2 : Int32)).toNatClampNeg r97) (((83 : Int32) + ((4 : Int32) * (vM_fresh (6 : Int32).toNatClampNeg))) + (3 : Int32)).toNatClampNeg r114) (6 : Int32).toNatClampNeg (((upd (upd (upd (upd vM_fresh ((83 : Int32) + ((4 : Int32) * (vM_fresh (6 : Int32).toNatClampNeg))).toNatClampNeg r30) (((83 : Int32) + ((4 : Int32) * (vM_fresh (6 : Int32).toNatClampNeg))) + (1 : Int32)).toNatClampNeg r68) (((83 : Int32) + ((4 : Int32) * (vM_fresh (6 : Int32).toNatClampNeg))) + (2 : Int32)).toNatClampNeg r97) (((83 : Int32) + ((4 : Int32) * (vM_fresh (6 : Int32).toNatClampNeg))) + (3 : Int32)).toNatClampNeg r114) (6 : Int32).toNatClampNeg) + (1 : Int32))) vM_letters_114 vM_114 H locs ls hP hD hS (lv_sub hl [] rfl) hok
      · have hok := k_neg c76 hok
        cases hok
        subst hQe; exact W.vret hx hb hr (fun t ht hW => ⟨⟨(), rfl, trivial, by rw [ht]; exact hP, va_K.moved hW.alike hK, hD⟩, hS.F ht⟩) hS.2.2 dX9_wantLine_79
    · have hok := k_neg c55 hok
      cases hok
      subst hQe; exact W.vret hx hb hr (fun t ht hW => ⟨⟨(), rfl, trivial, by rw [ht]; exact hP, va_K.moved hW.alike hK, hD⟩, hS.F ht⟩) hS.2.2 dX9_wantLine_58
  · have hok := k_neg c4 hok
    cases hok
    subst hQe; exact W.vret hx hb hr (fun t ht hW => ⟨⟨(), rfl, trivial, by rw [ht]; exact hP, va_K.moved hW.alike hK, hD⟩, hS.F ht⟩) hS.2.2 dX9_wantLine_7
def wsX9_boxLine : List Cond := .code yX9_boxLine cX9_boxLine 5 none :: W0
abbrev wX9_boxLine (cy : Nat → ClassId) (aM : Nat) (qM : Nat → Nat) (vM : Nat → Int32) (vM_fresh : Nat → Int32) (vM_tape : Nat → Int32) (vM_letters : Nat → Int32) : va_W := [(aM, oX9 vM qM), (qM 16, rI cy 224 vM_fresh), (qM 1, rI cy 900 vM_tape), (qM 12, rI cy 8 vM_letters)]
set_option maxHeartbeats 4000000 in
set_option maxRecDepth 100000 in
theorem kX9_boxLine (l : Launch) (D : va_G) (cy : Nat → ClassId) (ad : (Nat → Nat) × (Nat → Nat)) (sz : Nat) (aM : Nat) (qM : Nat → Nat) (vM : Nat → Int32) (vM_fresh : Nat → Int32) (vM_tape : Nat → Int32) (vM_letters : Nat → Int32) (x1 : Int32) (z_vM : Nat → Int32) (z_vM_fresh : Nat → Int32) (z_vM_letters : Nat → Int32) (hok : fX9_boxLine vM vM_fresh vM_tape vM_letters x1 = some (z_vM, z_vM_fresh, z_vM_letters)) (A : Nat → Prop) (hAe : va_A (wX9_boxLine cy aM qM vM vM_fresh vM_tape vM_letters) sz = A) : Met l yX9_boxLine wsX9_boxLine ({ frames := 8, cells := 0, slots := 0, locals := 173 } : Room) (kPreS D cy ad [.ref aM, .int x1] (wX9_boxLine cy aM qM vM vM_fresh vM_tape vM_letters) sz A) (kQv D cy A (wX9_boxLine cy aM qM z_vM z_vM_fresh vM_tape z_vM_letters)) 0 0 A := by
  refine Met.ofW (cc := cX9_boxLine) (maxL := 5) (ret := none) (by decide) rfl ?_
  intro p e s m args below meth c s₁ B hml hv
  obtain ⟨rfl, ⟨hsz, hP, hK, hD0, hN⟩, hSt⟩ := hv
  have hx := B.exec
  have hb := B.bytes
  have hr := B.returns
  have ht0 : ∀ w ∈ W0, w.before _ s = true := fun w h => atoms_spec (ws := wsX9_boxLine) B.pre w (List.mem_cons_of_mem _ h)
  have hown : s.vm.findClass RX9 = some m.cls := findClass_of_methodNamed B.named
  have hlocks := B.notSynchronized
  subst hsz
  have hD : va_D A (wX9_boxLine cy aM qM vM vM_fresh vM_tape vM_letters) := by rw [← hAe]; exact hD0.self
  have hA : ∀ q : Nat, s.heap.size ≤ q → A q := fun q h => by rw [← hAe]; exact Or.inr h
  have hS : va_S A s.heap s.heap [] := va_S.rf
  have hl := lv_entry ([.ref aM, .int x1]) (n := 5) (Nat.le_of_ble_eq_true rfl)
  rw [lg_entry_eq]
  generalize (lg_sl ([.ref aM, .int x1]) ++ List.replicate (5 - (lg_sl ([.ref aM, .int x1])).length) Slot.unset).toArray = ls at hl ⊢
  have hl : lv_has ls 5 [(0, .ref aM), (1, .int x1)] := hl
  generalize hQe : MQ below (kQv D cy A (wX9_boxLine cy aM qM z_vM z_vM_fresh vM_tape z_vM_letters)) ([.ref aM, .int x1] : List Value).toArray s 0 0 A = Q
  have J145 : ∀ (vM_fresh_145 : Nat → Int32) (vM_letters_145 : Nat → Int32) (vM_145 : Nat → Int32), ∀ (H : Heap) (locs : List Loc) (ls : Array Slot), va_P D vwCl (wX9_boxLine cy aM qM vM_145 vM_fresh_145 vM_tape vM_letters_145) H → va_D A (wX9_boxLine cy aM qM vM_145 vM_fresh_145 vM_tape vM_letters_145) → va_S A s.heap H locs → lv_has ls 5 [] → fX9_boxLine_J145 vM_fresh_145 vM_letters_145 vM_145 = some (z_vM, z_vM_fresh, z_vM_letters) → W p l e ({ frames := 8, cells := 0, slots := 0, locals := 173 } : Room) s m ([.ref aM, .int x1] : List Value).toArray below meth c H locs 0 0 Q (F0 m 145 ls []) := by
    intro vM_fresh_145 vM_letters_145 vM_145 H locs ls hP hD hS hl hok
    unfold fX9_boxLine_J145 at hok
    cases hok
    subst hQe; exact W.vret hx hb hr (fun t ht hW => ⟨⟨(), rfl, trivial, by rw [ht]; exact hP, va_K.moved hW.alike hK, hD⟩, hS.F ht⟩) hS.2.2 dX9_boxLine_145
  have L32 : ∀ (fuel : Nat) (y3_32 : Int32) (y4_32 : Int32) (vM_32 : Nat → Int32), ∀ (H : Heap) (locs : List Loc) (ls : Array Slot), va_P D vwCl (wX9_boxLine cy aM qM vM_32 vM_fresh vM_tape vM_letters) H → va_D A (wX9_boxLine cy aM qM vM_32 vM_fresh vM_tape vM_letters) → va_S A s.heap H locs → lv_has ls 5 [(0, .ref aM), (1, .int x1), (2, .int ((107 : Int32) + ((3 : Int32) * (vM_fresh (7 : Int32).toNatClampNeg)))), (3, .int y3_32), (4, .int y4_32)] → lp (fX9_boxLine_B32 vM_fresh vM_tape vM_letters x1) fuel (y3_32, y4_32, vM_32) = some (z_vM, z_vM_fresh, z_vM_letters) → W p l e ({ frames := 8, cells := 0, slots := 0, locals := 173 } : Room) s m ([.ref aM, .int x1] : List Value).toArray below meth c H locs 0 0 Q (F0 m 32 ls []) := by
    intro fuel
    induction fuel with
    | zero => intro y3_32 y4_32 vM_32 H locs ls hP hD hS hl hok; exact (lp_0 hok).elim
    | succ fuel ih32 =>
      intro y3_32 y4_32 vM_32 H locs ls hP hD hS hl hok
      obtain ⟨y32, hok, hL32, hR32⟩ := lp_step hok
      have J76 : ∀ (vM_76 : Nat → Int32), ∀ (H : Heap) (locs : List Loc) (ls : Array Slot), va_P D vwCl (wX9_boxLine cy aM qM vM_76 vM_fresh vM_tape vM_letters) H → va_D A (wX9_boxLine cy aM qM vM_76 vM_fresh vM_tape vM_letters) → va_S A s.heap H locs → lv_has ls 5 [(0, .ref aM), (1, .int x1), (2, .int ((107 : Int32) + ((3 : Int32) * (vM_fresh (7 : Int32).toNatClampNeg)))), (3, .int y3_32), (4, .int y4_32)] → fX9_boxLine_J76 y3_32 y4_32 vM_76 = some y32 → W p l e ({ frames := 8, cells := 0, slots := 0, locals := 173 } : Room) s m ([.ref aM, .int x1] : List Value).toArray below meth c H locs 0 0 Q (F0 m 76 ls []) := by
        intro vM_76 H locs ls hP hD hS hl hok
        unfold fX9_boxLine_J76 at hok
        refine lv_iinc (v := (y4_32 + 1)) (lv' := [(4, .int (y4_32 + 1)), (0, .ref aM), (1, .int x1), (2, .int ((107 : Int32) + ((3 : Int32) * (vM_fresh (7 : Int32).toNatClampNeg)))), (3, .int y3_32)]) hx hb dX9_boxLine_76 hl (k := 4) rfl (by first | rfl | decide) (by decide) rfl (fun ls hl => ?_)
        refine lv_goto (tgt := 32) hx hb dX9_boxLine_79 (by decide) ?_
        exact ih32 y3_32 (y4_32 + 1) vM_76 H locs ls hP hD hS (lv_sub hl [1, 2, 3, 4, 0] rfl) (hR32 _ (Option.some.inj hok).symm)
      unfold fX9_boxLine_B32 at hok
      try dsimp only at hok
      refine lv_iload hx hb dX9_boxLine_32 (lv_at hl 4 rfl) ?_
      refine lv_aload_n hx hb dX9_boxLine_34 rfl (lv_at hl 0 rfl) ?_
      refine va_get (D := D) (ci := 8) (v := .ref (qM 16)) (C := RX9) (T := TX9) (N := 29) hx hb ht0 niX9 hown hK hP 0 rfl rfl 16 (by decide) (ht0 _ wd778) (fun _ h9 => h9) rfl dX9_boxLine_35 ?_
      refine lv_bipush (v := 7) hx hb dX9_boxLine_38 (by decide) ?_
      obtain ⟨g40, hok⟩ := gd_some hok
      refine va_iald hx hb hK hP 1 0 rfl rfl (okI_in g40) dX9_boxLine_40 ?_
      refine lv_icmp_ge (tgt := 82) hx hb dX9_boxLine_41 (by decide) (fun c41 => ?_) (fun c41 => ?_)
      · have hok := k_pos c41 hok
        obtain ⟨e32, hok, he32⟩ := ex_some hok
        have hok := hok.trans (congrArg some (hL32 _ he32))
        refine lv_aload_n hx hb dX9_boxLine_82 rfl (lv_at hl 0 rfl) ?_
        refine va_get (D := D) (ci := 8) (v := .int (vM_32 13)) (C := RX9) (T := TX9) (N := 29) hx hb ht0 niX9 hown hK hP 0 rfl rfl 13 (by decide) (ht0 _ wd757) (fun _ h9 => h9) rfl dX9_boxLine_83 ?_
        refine lv_if_eq (tgt := 90) hx hb dX9_boxLine_86 (by decide) (fun c86 => ?_) (fun c86 => ?_)
        · have hok := k_pos c86 hok
          refine lv_aload_n hx hb dX9_boxLine_90 rfl (lv_at hl 0 rfl) ?_
          obtain ⟨⟨vM_91, vM_letters_91⟩, hc91, hok⟩ := k_bind hok
          try dsimp only at hok
          refine kCv (wc := (wX9_next cy aM qM vM_32 vM_tape vM_letters)) (wc2 := (wX9_next cy aM qM vM_91 vM_tape vM_letters_91)) (wr := [(qM 16, rI cy 224 vM_fresh)]) (ws2 := (wX9_boxLine cy aM qM vM_91 vM_fresh vM_tape vM_letters_91)) (kRunV (As := []) (rest := []) ⟨hx, hb, hml, hown, ht0⟩ (kX9_next l D cy _ aM qM vM_32 vM_tape vM_letters vM_91 vM_letters_91 hc91 _ rfl) (cwV 0 ht0 (gV wd766 wd767 wd768 wd744 wd769) rfl rfl rfl (by decide +kernel) ⟨Nat.le_of_ble_eq_true rfl, Nat.le_of_ble_eq_true rfl⟩) hK hN hP hD [0, 2, 3] rfl (by decide) 0 8 rfl rfl rfl hl.1 rfl (Nat.le_of_ble_eq_true rfl) dX9_boxLine_91 ⟨Nat.zero_le _, Nat.zero_le _⟩) hP hD hS hA [0, 2, 3] [1] rfl rfl (by decide) (by decide) [1, 0, 2, 3] (by decide) rfl rfl (fun H locs hP hD hS => ?_)
          refine lv_aload_n hx hb dX9_boxLine_94 rfl (lv_at hl 0 rfl) ?_
          refine va_get (D := D) (ci := 8) (v := .ref (qM 16)) (C := RX9) (T := TX9) (N := 29) hx hb ht0 niX9 hown hK hP 0 rfl rfl 16 (by decide) (ht0 _ wd778) (fun _ h9 => h9) rfl dX9_boxLine_95 ?_
          refine lv_iload_n hx hb dX9_boxLine_98 rfl (lv_at hl 2 rfl) ?_
          refine lv_iload_n hx hb dX9_boxLine_99 rfl (lv_at hl 3 rfl) ?_
          obtain ⟨g100, hok⟩ := gd_some hok
          refine va_iast hx hb hK hP hD hS 1 0 rfl rfl (okI_in g100) dX9_boxLine_100 (fun H locs hP hD hS => ?_)
          have hP : va_P D vwCl (wX9_boxLine cy aM qM vM_91 (upd vM_fresh ((107 : Int32) + ((3 : Int32) * (vM_fresh (7 : Int32).toNatClampNeg))).toNatClampNeg y3_32) vM_tape vM_letters_91) H := hP
          have hD : va_D A (wX9_boxLine cy aM qM vM_91 (upd vM_fresh ((107 : Int32) + ((3 : Int32) * (vM_fresh (7 : Int32).toNatClampNeg))).toNatClampNeg y3_32) vM_tape vM_letters_91) := hD
          refine lv_aload_n hx hb dX9_boxLine_101 rfl (lv_at hl 0 rfl) ?_
          refine va_get (D := D) (ci := 8) (v := .ref (qM 16)) (C := RX9) (T := TX9) (N := 29) hx hb ht0 niX9 hown hK hP 0 rfl rfl 16 (by decide) (ht0 _ wd778) (fun _ h9 => h9) rfl dX9_boxLine_102 ?_
          refine lv_iload_n hx hb dX9_boxLine_105 rfl (lv_at hl 2 rfl) ?_
          refine lv_iconst (v := 1) hx hb dX9_boxLine_106 (by decide) ?_
          refine lv_iadd hx hb dX9_boxLine_107 ?_
          refine lv_aload_n hx hb dX9_boxLine_108 rfl (lv_at hl 0 rfl) ?_
          refine va_ldcS (own := RX9) (tx := "at") (index := 233) (q := ad.1 0) hx hb hown (hSt.2.1 (RX9, 233, "at", 0) (List.mem_of_getElem? (i := 40) rfl)) dX9_boxLine_109 ?_
          refine lv_iconst (v := 0) hx hb dX9_boxLine_111 (by decide) ?_
          refine lv_bipush (v := 11) hx hb dX9_boxLine_112 (by decide) ?_
          obtain ⟨⟨r114, vM_114, vM_letters_114⟩, hc114, hok⟩ := k_bind hok
          try dsimp only at hok
          refine kCi (wc := (wX9_after cy aM qM vM_91 vM_letters_91 vM_tape)) (wc2 := (wX9_after cy aM qM vM_114 vM_letters_114 vM_tape)) (wr := [(qM 16, rI cy 224 (upd vM_fresh ((107 : Int32) + ((3 : Int32) * (vM_fresh (7 : Int32).toNatClampNeg))).toNatClampNeg y3_32))]) (ws2 := (wX9_boxLine cy aM qM vM_114 (upd vM_fresh ((107 : Int32) + ((3 : Int32) * (vM_fresh (7 : Int32).toNatClampNeg))).toNatClampNeg y3_32) vM_tape vM_letters_114)) (kRunVS (As := [.ref (ad.1 0), .int 0, .int 11]) (rest := [.int (((107 : Int32) + ((3 : Int32) * (vM_fresh (7 : Int32).toNatClampNeg))) + (1 : Int32)), .ref (qM 16)]) ⟨hx, hb, hml, hown, ht0⟩ (kX9_after l D cy ad _ aM qM vM_91 vM_letters_91 vM_tape 0 (0 : Int32) (11 : Int32) r114 vM_114 vM_letters_114 hc114 _ rfl) (cwV 3 ht0 (gV wd806 wd807 wd808 wd744 wd809) rfl rfl rfl (by decide +kernel) ⟨Nat.le_of_ble_eq_true rfl, Nat.le_of_ble_eq_true rfl⟩) hK hN hP hD hSt hS hA [0, 3, 2] rfl (by decide) 0 8 rfl rfl rfl hl.1 rfl (Nat.le_of_ble_eq_true rfl) dX9_boxLine_114 ⟨Nat.zero_le _, Nat.zero_le _⟩) hP hD hS hA [0, 3, 2] [1] rfl rfl (by decide) (by decide) [1, 0, 3, 2] (by decide) rfl rfl (fun H locs hP hD hS => ?_)
          obtain ⟨g117, hok⟩ := gd_some hok
          refine va_iast hx hb hK hP hD hS 1 0 rfl rfl (okI_in g117) dX9_boxLine_117 (fun H locs hP hD hS => ?_)
          have hP : va_P D vwCl (wX9_boxLine cy aM qM vM_114 (upd (upd vM_fresh ((107 : Int32) + ((3 : Int32) * (vM_fresh (7 : Int32).toNatClampNeg))).toNatClampNeg y3_32) (((107 : Int32) + ((3 : Int32) * (vM_fresh (7 : Int32).toNatClampNeg))) + (1 : Int32)).toNatClampNeg r114) vM_tape vM_letters_114) H := hP
          have hD : va_D A (wX9_boxLine cy aM qM vM_114 (upd (upd vM_fresh ((107 : Int32) + ((3 : Int32) * (vM_fresh (7 : Int32).toNatClampNeg))).toNatClampNeg y3_32) (((107 : Int32) + ((3 : Int32) * (vM_fresh (7 : Int32).toNatClampNeg))) + (1 : Int32)).toNatClampNeg r114) vM_tape vM_letters_114) := hD
          refine lv_aload_n hx hb dX9_boxLine_118 rfl (lv_at hl 0 rfl) ?_
          refine va_get (D := D) (ci := 8) (v := .ref (qM 16)) (C := RX9) (T := TX9) (N := 29) hx hb ht0 niX9 hown hK hP 0 rfl rfl 16 (by decide) (ht0 _ wd778) (fun _ h9 => h9) rfl dX9_boxLine_119 ?_
          refine lv_iload_n hx hb dX9_boxLine_122 rfl (lv_at hl 2 rfl) ?_
          refine lv_iconst (v := 2) hx hb dX9_boxLine_123 (by decide) ?_
          refine lv_iadd hx hb dX9_boxLine_124 ?_
          refine lv_iload_n hx hb dX9_boxLine_125 rfl (lv_at hl 1 rfl) ?_
          obtain ⟨g126, hok⟩ := gd_some hok
          refine va_iast hx hb hK hP hD hS 1 0 rfl rfl (okI_in g126) dX9_boxLine_126 (fun H locs hP hD hS => ?_)
          have hP : va_P D vwCl (wX9_boxLine cy aM qM vM_114 (upd (upd (upd vM_fresh ((107 : Int32) + ((3 : Int32) * (vM_fresh (7 : Int32).toNatClampNeg))).toNatClampNeg y3_32) (((107 : Int32) + ((3 : Int32) * (vM_fresh (7 : Int32).toNatClampNeg))) + (1 : Int32)).toNatClampNeg r114) (((107 : Int32) + ((3 : Int32) * (vM_fresh (7 : Int32).toNatClampNeg))) + (2 : Int32)).toNatClampNeg x1) vM_tape vM_letters_114) H := hP
          have hD : va_D A (wX9_boxLine cy aM qM vM_114 (upd (upd (upd vM_fresh ((107 : Int32) + ((3 : Int32) * (vM_fresh (7 : Int32).toNatClampNeg))).toNatClampNeg y3_32) (((107 : Int32) + ((3 : Int32) * (vM_fresh (7 : Int32).toNatClampNeg))) + (1 : Int32)).toNatClampNeg r114) (((107 : Int32) + ((3 : Int32) * (vM_fresh (7 : Int32).toNatClampNeg))) + (2 : Int32)).toNatClampNeg x1) vM_tape vM_letters_114) := hD
          refine lv_aload_n hx hb dX9_boxLine_127 rfl (lv_at hl 0 rfl) ?_
          refine va_get (D := D) (ci := 8) (v := .int (vM_114 13)) (C := RX9) (T := TX9) (N := 29) hx hb ht0 niX9 hown hK hP 0 rfl rfl 13 (by decide) (ht0 _ wd757) (fun _ h9 => h9) rfl dX9_boxLine_128 ?_
          refine lv_if_ne (tgt := 145) hx hb dX9_boxLine_131 (by decide) (fun c131 => ?_) (fun c131 => ?_)
          · have hok := k_neg c131 hok
            exact J145 (upd (upd (upd vM_fresh ((107 : Int32) + ((3 : Int32) * (vM_fresh (7 : Int32).toNatClampNeg))).toNatClampNeg y3_32) (((107 : Int32) + ((3 : Int32) * (vM_fresh (7 : Int32).toNatClampNeg))) + (1 : Int32)).toNatClampNeg r114) (((107 : Int32) + ((3 : Int32) * (vM_fresh (7 : Int32).toNatClampNeg))) + (2 : Int32)).toNatClampNeg x1) vM_letters_114 vM_114 H locs ls hP hD hS (lv_sub hl [] rfl) hok
          · have hok := k_pos c131 hok
            refine lv_aload_n hx hb dX9_boxLine_134 rfl (lv_at hl 0 rfl) ?_
            refine va_get (D := D) (ci := 8) (v := .ref (qM 16)) (C := RX9) (T := TX9) (N := 29) hx hb ht0 niX9 hown hK hP 0 rfl rfl 16 (by decide) (ht0 _ wd778) (fun _ h9 => h9) rfl dX9_boxLine_135 ?_
            refine lv_bipush (v := 7) hx hb dX9_boxLine_138 (by decide) ?_
            refine lv_dup2_11 hx hb dX9_boxLine_140 rfl rfl ?_
            obtain ⟨g141, hok⟩ := gd_some hok
            refine va_iald hx hb hK hP 1 0 rfl rfl (okI_in g141) dX9_boxLine_141 ?_
            refine lv_iconst (v := 1) hx hb dX9_boxLine_142 (by decide) ?_
            refine lv_iadd hx hb dX9_boxLine_143 ?_
            obtain ⟨g144, hok⟩ := gd_some hok
            refine va_iast hx hb hK hP hD hS 1 0 rfl rfl (okI_in g144) dX9_boxLine_144 (fun H locs hP hD hS => ?_)
            have hP : va_P D vwCl (wX9_boxLine cy aM qM vM_114 (upd (upd (upd (upd vM_fresh ((107 : Int32) + ((3 : Int32) * (vM_fresh (7 : Int32).toNatClampNeg))).toNatClampNeg y3_32) (((107 : Int32) + ((3 : Int32) * (vM_fresh (7 : Int32).toNatClampNeg))) + (1 : Int32)).toNatClampNeg r114) (((107 : Int32) + ((3 : Int32) * (vM_fresh (7 : Int32).toNatClampNeg))) + (2 : Int32)).toNatClampNeg x1) (7 : Int32).toNatClampNeg (((upd (upd (upd vM_fresh ((107 : Int32) + ((3 : Int32) * (vM_fresh (7 : Int32).toNatClampNeg))).toNatClampNeg y3_32) (((107 : Int32) + ((3 : Int32) * (vM_fresh (7 : Int32).toNatClampNeg))) + (1 : Int32)).toNatClampNeg r114) (((107 : Int32) + ((3 : Int32) * (vM_fresh (7 : Int32).toNatClampNeg))) + (2 : Int32)).toNatClampNeg x1) (7 : Int32).toNatClampNeg) + (1 : Int32))) vM_tape vM_letters_114) H := hP
            have hD : va_D A (wX9_boxLine cy aM qM vM_114 (upd (upd (upd (upd vM_fresh ((107 : Int32) + ((3 : Int32) * (vM_fresh (7 : Int32).toNatClampNeg))).toNatClampNeg y3_32) (((107 : Int32) + ((3 : Int32) * (vM_fresh (7 : Int32).toNatClampNeg))) + (1 : Int32)).toNatClampNeg r114) (((107 : Int32) + ((3 : Int32) * (vM_fresh (7 : Int32).toNatClampNeg))) + (2 : Int32)).toNatClampNeg x1) (7 : Int32).toNatClampNeg (((upd (upd (upd vM_fresh ((107 : Int32) + ((3 : Int32) * (vM_fresh (7 : Int32).toNatClampNeg))).toNatClampNeg y3_32) (((107 : Int32) + ((3 : Int32) * (vM_fresh (7 : Int32).toNatClampNeg))) + (1 : Int32)).toNatClampNeg r114) (((107 : Int32) + ((3 : Int32) * (vM_fresh (7 : Int32).toNatClampNeg))) + (2 : Int32)).toNatClampNeg x1) (7 : Int32).toNatClampNeg) + (1 : Int32))) vM_tape vM_letters_114) := hD
            exact J145 (upd (upd (upd (upd vM_fresh ((107 : Int32) + ((3 : Int32) * (vM_fresh (7 : Int32).toNatClampNeg))).toNatClampNeg y3_32) (((107 : Int32) + ((3 : Int32) * (vM_fresh (7 : Int32).toNatClampNeg))) + (1 : Int32)).toNatClampNeg r114) (((107 : Int32) + ((3 : Int32) * (vM_fresh (7 : Int32).toNatClampNeg))) + (2 : Int32)).toNatClampNeg x1) (7 : Int32).toNatClampNeg (((upd (upd (upd vM_fresh ((107 : Int32) + ((3 : Int32) * (vM_fresh (7 : Int32).toNatClampNeg))).toNatClampNeg y3_32) (((107 : Int32) + ((3 : Int32) * (vM_fresh (7 : Int32).toNatClampNeg))) + (1 : Int32)).toNatClampNeg r114) (((107 : Int32) + ((3 : Int32) * (vM_fresh (7 : Int32).toNatClampNeg))) + (2 : Int32)).toNatClampNeg x1) (7 : Int32).toNatClampNeg) + (1 : Int32))) vM_letters_114 vM_114 H locs ls hP hD hS (lv_sub hl [] rfl) hok
        · have hok := k_neg c86 hok
          cases hok
          subst hQe; exact W.vret hx hb hr (fun t ht hW => ⟨⟨(), rfl, trivial, by rw [ht]; exact hP, va_K.moved hW.alike hK, hD⟩, hS.F ht⟩) hS.2.2 dX9_boxLine_89
      · have hok := k_neg c41 hok
        refine lv_aload_n hx hb dX9_boxLine_44 rfl (lv_at hl 0 rfl) ?_
        refine va_get (D := D) (ci := 8) (v := .int (vM_32 13)) (C := RX9) (T := TX9) (N := 29) hx hb ht0 niX9 hown hK hP 0 rfl rfl 13 (by decide) (ht0 _ wd757) (fun _ h9 => h9) rfl dX9_boxLine_45 ?_
        refine lv_if_ne (tgt := 76) hx hb dX9_boxLine_48 (by decide) (fun c48 => ?_) (fun c48 => ?_)
        · have hok := k_neg c48 hok
          exact J76 vM_32 H locs ls hP hD hS (lv_sub hl [0, 1, 2, 3, 4] rfl) hok
        · have hok := k_pos c48 hok
          refine lv_aload_n hx hb dX9_boxLine_51 rfl (lv_at hl 0 rfl) ?_
          refine va_get (D := D) (ci := 8) (v := .ref (qM 16)) (C := RX9) (T := TX9) (N := 29) hx hb ht0 niX9 hown hK hP 0 rfl rfl 16 (by decide) (ht0 _ wd778) (fun _ h9 => h9) rfl dX9_boxLine_52 ?_
          refine lv_bipush (v := 107) hx hb dX9_boxLine_55 (by decide) ?_
          refine lv_iconst (v := 3) hx hb dX9_boxLine_57 (by decide) ?_
          refine lv_iload hx hb dX9_boxLine_58 (lv_at hl 4 rfl) ?_
          refine lv_imul hx hb dX9_boxLine_60 ?_
          refine lv_iadd hx hb dX9_boxLine_61 ?_
          obtain ⟨g62, hok⟩ := gd_some hok
          refine va_iald hx hb hK hP 1 0 rfl rfl (okI_in g62) dX9_boxLine_62 ?_
          refine lv_iload_n hx hb dX9_boxLine_63 rfl (lv_at hl 3 rfl) ?_
          refine lv_icmp_ne (tgt := 76) hx hb dX9_boxLine_64 (by decide) (fun c64 => ?_) (fun c64 => ?_)
          · have hok := k_neg c64 hok
            exact J76 vM_32 H locs ls hP hD hS (lv_sub hl [0, 1, 2, 3, 4] rfl) hok
          · have hok := k_pos c64 hok
            refine lv_aload_n hx hb dX9_boxLine_67 rfl (lv_at hl 0 rfl) ?_
            refine lv_iconst (v := 3) hx hb dX9_boxLine_68 (by decide) ?_
            refine lv_aload_n hx hb dX9_boxLine_69 rfl (lv_at hl 0 rfl) ?_
            refine va_get (D := D) (ci := 8) (v := .int (vM_32 4)) (C := RX9) (T := TX9) (N := 29) hx hb ht0 niX9 hown hK hP 0 rfl rfl 4 (by decide) (ht0 _ wd756) (fun _ h9 => h9) rfl dX9_boxLine_70 ?_
            obtain ⟨vM_73, hc73, hok⟩ := k_bind hok
            refine kCv (wc := (wX9_wrong cy aM qM vM_32)) (wc2 := (wX9_wrong cy aM qM vM_73)) (wr := [(qM 16, rI cy 224 vM_fresh), (qM 1, rI cy 900 vM_tape), (qM 12, rI cy 8 vM_letters)]) (ws2 := (wX9_boxLine cy aM qM vM_73 vM_fresh vM_tape vM_letters)) (kRunV (As := [.int 3, .int (vM_32 4)]) (rest := []) ⟨hx, hb, hml, hown, ht0⟩ (kX9_wrong l D cy _ aM qM vM_32 (3 : Int32) (vM_32 4) vM_73 hc73 _ rfl) (cwV 2 ht0 (gV wd774 wd775 wd776 wd744 wd777) rfl rfl rfl (by decide +kernel) ⟨Nat.le_of_ble_eq_true rfl, Nat.le_of_ble_eq_true rfl⟩) hK hN hP hD [0] rfl (by decide) 0 8 rfl rfl rfl hl.1 rfl (Nat.le_of_ble_eq_true rfl) dX9_boxLine_73 ⟨Nat.zero_le _, Nat.zero_le _⟩) hP hD hS hA [0] [1, 2, 3] rfl rfl (by decide) (by decide) [3, 0, 1, 2] (by decide) rfl rfl (fun H locs hP hD hS => ?_)
            exact J76 vM_73 H locs ls hP hD hS (lv_sub hl [0, 1, 2, 3, 4] rfl) hok
  unfold fX9_boxLine at hok
  obtain ⟨H, hH⟩ : ∃ H, H = s.heap := ⟨_, rfl⟩
  obtain ⟨locs, hlc⟩ : ∃ x : List Loc, x = [] := ⟨_, rfl⟩
  have hP : va_P D vwCl (wX9_boxLine cy aM qM vM vM_fresh vM_tape vM_letters) H := by rw [hH]; exact hP
  have hS : va_S A s.heap H locs := by rw [hH, hlc]; exact hS
  rw [show W p l e _ s m _ below meth c s.heap [] = W p l e _ s m _ below meth c H locs from by rw [hH, hlc]]
  refine lv_aload_n hx hb dX9_boxLine_0 rfl (lv_at hl 0 rfl) ?_
  refine va_get (D := D) (ci := 8) (v := .int (vM 13)) (C := RX9) (T := TX9) (N := 29) hx hb ht0 niX9 hown hK hP 0 rfl rfl 13 (by decide) (ht0 _ wd757) (fun _ h9 => h9) rfl dX9_boxLine_1 ?_
  refine lv_if_eq (tgt := 8) hx hb dX9_boxLine_4 (by decide) (fun c4 => ?_) (fun c4 => ?_)
  · have hok := k_pos c4 hok
    refine lv_bipush (v := 107) hx hb dX9_boxLine_8 (by decide) ?_
    refine lv_iconst (v := 3) hx hb dX9_boxLine_10 (by decide) ?_
    refine lv_aload_n hx hb dX9_boxLine_11 rfl (lv_at hl 0 rfl) ?_
    refine va_get (D := D) (ci := 8) (v := .ref (qM 16)) (C := RX9) (T := TX9) (N := 29) hx hb ht0 niX9 hown hK hP 0 rfl rfl 16 (by decide) (ht0 _ wd778) (fun _ h9 => h9) rfl dX9_boxLine_12 ?_
    refine lv_bipush (v := 7) hx hb dX9_boxLine_15 (by decide) ?_
    obtain ⟨g17, hok⟩ := gd_some hok
    refine va_iald hx hb hK hP 1 0 rfl rfl (okI_in g17) dX9_boxLine_17 ?_
    refine lv_imul hx hb dX9_boxLine_18 ?_
    refine lv_iadd hx hb dX9_boxLine_19 ?_
    refine lv_istore_n (lv' := [(2, .int ((107 : Int32) + ((3 : Int32) * (vM_fresh (7 : Int32).toNatClampNeg)))), (0, .ref aM), (1, .int x1)]) hx hb dX9_boxLine_20 rfl hl (by decide) rfl (fun ls hl => ?_)
    refine lv_aload_n hx hb dX9_boxLine_21 rfl (lv_at hl 1 rfl) ?_
    refine lv_iconst (v := 0) hx hb dX9_boxLine_22 (by decide) ?_
    refine lv_bipush (v := 99) hx hb dX9_boxLine_23 (by decide) ?_
    obtain ⟨⟨r25, vM_25⟩, hc25, hok⟩ := k_bind hok
    try dsimp only at hok
    refine kCi (wc := (wX9_numberHere cy aM qM vM)) (wc2 := (wX9_numberHere cy aM qM vM_25)) (wr := [(qM 16, rI cy 224 vM_fresh), (qM 1, rI cy 900 vM_tape), (qM 12, rI cy 8 vM_letters)]) (ws2 := (wX9_boxLine cy aM qM vM_25 vM_fresh vM_tape vM_letters)) (kRunV (As := [.int 0, .int 99]) (rest := []) ⟨hx, hb, hml, hown, ht0⟩ (kX9_numberHere l D cy _ aM qM vM (0 : Int32) (99 : Int32) r25 vM_25 hc25 _ rfl) (cwV 2 ht0 (gV wd794 wd795 wd796 wd744 wd797) rfl rfl rfl (by decide +kernel) ⟨Nat.le_of_ble_eq_true rfl, Nat.le_of_ble_eq_true rfl⟩) hK hN hP hD [0] rfl (by decide) 0 8 rfl rfl rfl hl.1 rfl (Nat.le_of_ble_eq_true rfl) dX9_boxLine_25 ⟨Nat.zero_le _, Nat.zero_le _⟩) hP hD hS hA [0] [1, 2, 3] rfl rfl (by decide) (by decide) [3, 0, 1, 2] (by decide) rfl rfl (fun H locs hP hD hS => ?_)
    refine lv_istore_n (lv' := [(3, .int r25), (2, .int ((107 : Int32) + ((3 : Int32) * (vM_fresh (7 : Int32).toNatClampNeg)))), (0, .ref aM), (1, .int x1)]) hx hb dX9_boxLine_28 rfl hl (by decide) rfl (fun ls hl => ?_)
    refine lv_iconst (v := 0) hx hb dX9_boxLine_29 (by decide) ?_
    refine lv_istore (lv' := [(4, .int 0), (3, .int r25), (2, .int ((107 : Int32) + ((3 : Int32) * (vM_fresh (7 : Int32).toNatClampNeg)))), (0, .ref aM), (1, .int x1)]) hx hb dX9_boxLine_30 hl (by decide) rfl (fun ls hl => ?_)
    exact L32 5000 r25 (0 : Int32) vM_25 H locs ls hP hD hS (lv_sub hl [3, 4, 2, 1, 0] rfl) hok
  · have hok := k_neg c4 hok
    cases hok
    subst hQe; exact W.vret hx hb hr (fun t ht hW => ⟨⟨(), rfl, trivial, by rw [ht]; exact hP, va_K.moved hW.alike hK, hD⟩, hS.F ht⟩) hS.2.2 dX9_boxLine_7
def wsX9_readLine : List Cond := .code yX9_readLine cX9_readLine 1 none :: W0
abbrev wX9_readLine (cy : Nat → ClassId) (aM : Nat) (qM : Nat → Nat) (vM : Nat → Int32) (vM_letters : Nat → Int32) (vM_fresh : Nat → Int32) (vM_tape : Nat → Int32) : va_W := [(aM, oX9 vM qM), (qM 12, rI cy 8 vM_letters), (qM 16, rI cy 224 vM_fresh), (qM 1, rI cy 900 vM_tape)]
set_option maxHeartbeats 4000000 in
set_option maxRecDepth 100000 in
theorem kX9_readLine (l : Launch) (D : va_G) (cy : Nat → ClassId) (ad : (Nat → Nat) × (Nat → Nat)) (sz : Nat) (aM : Nat) (qM : Nat → Nat) (vM : Nat → Int32) (vM_letters : Nat → Int32) (vM_fresh : Nat → Int32) (vM_tape : Nat → Int32) (z_vM : Nat → Int32) (z_vM_letters : Nat → Int32) (z_vM_fresh : Nat → Int32) (hok : fX9_readLine vM vM_letters vM_fresh vM_tape = some (z_vM, z_vM_letters, z_vM_fresh)) (A : Nat → Prop) (hAe : va_A (wX9_readLine cy aM qM vM vM_letters vM_fresh vM_tape) sz = A) : Met l yX9_readLine wsX9_readLine ({ frames := 9, cells := 0, slots := 0, locals := 200 } : Room) (kPreS D cy ad [.ref aM] (wX9_readLine cy aM qM vM vM_letters vM_fresh vM_tape) sz A) (kQv D cy A (wX9_readLine cy aM qM z_vM z_vM_letters z_vM_fresh vM_tape)) 0 0 A := by
  refine Met.ofW (cc := cX9_readLine) (maxL := 1) (ret := none) (by decide) rfl ?_
  intro p e s m args below meth c s₁ B hml hv
  obtain ⟨rfl, ⟨hsz, hP, hK, hD0, hN⟩, hSt⟩ := hv
  have hx := B.exec
  have hb := B.bytes
  have hr := B.returns
  have ht0 : ∀ w ∈ W0, w.before _ s = true := fun w h => atoms_spec (ws := wsX9_readLine) B.pre w (List.mem_cons_of_mem _ h)
  have hown : s.vm.findClass RX9 = some m.cls := findClass_of_methodNamed B.named
  have hlocks := B.notSynchronized
  subst hsz
  have hD : va_D A (wX9_readLine cy aM qM vM vM_letters vM_fresh vM_tape) := by rw [← hAe]; exact hD0.self
  have hA : ∀ q : Nat, s.heap.size ≤ q → A q := fun q h => by rw [← hAe]; exact Or.inr h
  have hS : va_S A s.heap s.heap [] := va_S.rf
  have hl := lv_entry ([.ref aM]) (n := 1) (Nat.le_of_ble_eq_true rfl)
  rw [lg_entry_eq]
  generalize (lg_sl ([.ref aM]) ++ List.replicate (1 - (lg_sl ([.ref aM])).length) Slot.unset).toArray = ls at hl ⊢
  have hl : lv_has ls 1 [(0, .ref aM)] := hl
  generalize hQe : MQ below (kQv D cy A (wX9_readLine cy aM qM z_vM z_vM_letters z_vM_fresh vM_tape)) ([.ref aM] : List Value).toArray s 0 0 A = Q
  have J252 : ∀ (vM_fresh_252 : Nat → Int32) (vM_letters_252 : Nat → Int32) (vM_252 : Nat → Int32), ∀ (H : Heap) (locs : List Loc) (ls : Array Slot), va_P D vwCl (wX9_readLine cy aM qM vM_252 vM_letters_252 vM_fresh_252 vM_tape) H → va_D A (wX9_readLine cy aM qM vM_252 vM_letters_252 vM_fresh_252 vM_tape) → va_S A s.heap H locs → lv_has ls 1 [] → fX9_readLine_J252 vM_fresh_252 vM_letters_252 vM_252 = some (z_vM, z_vM_letters, z_vM_fresh) → W p l e ({ frames := 9, cells := 0, slots := 0, locals := 200 } : Room) s m ([.ref aM] : List Value).toArray below meth c H locs 0 0 Q (F0 m 252 ls []) := by
    intro vM_fresh_252 vM_letters_252 vM_252 H locs ls hP hD hS hl hok
    unfold fX9_readLine_J252 at hok
    cases hok
    subst hQe; exact W.vret hx hb hr (fun t ht hW => ⟨⟨(), rfl, trivial, by rw [ht]; exact hP, va_K.moved hW.alike hK, hD⟩, hS.F ht⟩) hS.2.2 dX9_readLine_252
  have J229 : ∀ (t0_229 : Int32) (vM_letters_229 : Nat → Int32) (vM_229 : Nat → Int32), ∀ (H : Heap) (locs : List Loc) (ls : Array Slot), va_P D vwCl (wX9_readLine cy aM qM vM_229 vM_letters_229 vM_fresh vM_tape) H → va_D A (wX9_readLine cy aM qM vM_229 vM_letters_229 vM_fresh vM_tape) → va_S A s.heap H locs → lv_has ls 1 [(0, .ref aM)] → fX9_readLine_J229 vM_fresh vM_tape t0_229 vM_letters_229 vM_229 = some (z_vM, z_vM_letters, z_vM_fresh) → W p l e ({ frames := 9, cells := 0, slots := 0, locals := 200 } : Room) s m ([.ref aM] : List Value).toArray below meth c H locs 0 0 Q (F0 m 229 ls [.int t0_229, .ref (ad.1 10), .ref aM]) := by
    intro t0_229 vM_letters_229 vM_229 H locs ls hP hD hS hl hok
    unfold fX9_readLine_J229 at hok
    obtain ⟨⟨r229, vM_229c, vM_letters_229c⟩, hc229, hok⟩ := k_bind hok
    try dsimp only at hok
    refine kCi (wc := (wX9_begins cy aM qM vM_229 vM_letters_229 vM_fresh vM_tape)) (wc2 := (wX9_begins cy aM qM vM_229c vM_letters_229c vM_fresh vM_tape)) (wr := []) (ws2 := (wX9_readLine cy aM qM vM_229c vM_letters_229c vM_fresh vM_tape)) (kRunVS (As := [.ref (ad.1 10), .int t0_229]) (rest := []) ⟨hx, hb, hml, hown, ht0⟩ (kX9_begins l D cy ad _ aM qM vM_229 vM_letters_229 vM_fresh vM_tape 10 t0_229 r229 vM_229c vM_letters_229c hc229 _ rfl) (cwV 2 ht0 (gV wd822 wd823 wd824 wd744 wd825) rfl rfl rfl (by decide +kernel) ⟨Nat.le_of_ble_eq_true rfl, Nat.le_of_ble_eq_true rfl⟩) hK hN hP hD hSt hS hA [0, 1, 2, 3] rfl (by decide) 0 8 rfl rfl rfl hl.1 rfl (Nat.le_of_ble_eq_true rfl) dX9_readLine_229 ⟨Nat.zero_le _, Nat.zero_le _⟩) hP hD hS hA [0, 1, 2, 3] [] rfl rfl (by decide) (by decide) [0, 1, 2, 3] (by decide) rfl rfl (fun H locs hP hD hS => ?_)
    refine lv_if_eq (tgt := 243) hx hb dX9_readLine_232 (by decide) (fun c232 => ?_) (fun c232 => ?_)
    · have hok := k_pos c232 hok
      refine lv_aload_n hx hb dX9_readLine_243 rfl (lv_at hl 0 rfl) ?_
      refine lv_iconst (v := 1) hx hb dX9_readLine_244 (by decide) ?_
      refine lv_aload_n hx hb dX9_readLine_245 rfl (lv_at hl 0 rfl) ?_
      refine va_get (D := D) (ci := 8) (v := .int (vM_229c 4)) (C := RX9) (T := TX9) (N := 29) hx hb ht0 niX9 hown hK hP 0 rfl rfl 4 (by decide) (ht0 _ wd756) (fun _ h9 => h9) rfl dX9_readLine_246 ?_
      obtain ⟨vM_249, hc249, hok⟩ := k_bind hok
      refine kCv (wc := (wX9_wrong cy aM qM vM_229c)) (wc2 := (wX9_wrong cy aM qM vM_249)) (wr := [(qM 12, rI cy 8 vM_letters_229c), (qM 16, rI cy 224 vM_fresh), (qM 1, rI cy 900 vM_tape)]) (ws2 := (wX9_readLine cy aM qM vM_249 vM_letters_229c vM_fresh vM_tape)) (kRunV (As := [.int 1, .int (vM_229c 4)]) (rest := []) ⟨hx, hb, hml, hown, ht0⟩ (kX9_wrong l D cy _ aM qM vM_229c (1 : Int32) (vM_229c 4) vM_249 hc249 _ rfl) (cwV 2 ht0 (gV wd774 wd775 wd776 wd744 wd777) rfl rfl rfl (by decide +kernel) ⟨Nat.le_of_ble_eq_true rfl, Nat.le_of_ble_eq_true rfl⟩) hK hN hP hD [0] rfl (by decide) 0 8 rfl rfl rfl hl.1 rfl (Nat.le_of_ble_eq_true rfl) dX9_readLine_249 ⟨Nat.zero_le _, Nat.zero_le _⟩) hP hD hS hA [0] [1, 2, 3] rfl rfl (by decide) (by decide) [3, 0, 1, 2] (by decide) rfl rfl (fun H locs hP hD hS => ?_)
      exact J252 vM_fresh vM_letters_229c vM_249 H locs ls hP hD hS (lv_sub hl [] rfl) hok
    · have hok := k_neg c232 hok
      refine lv_aload_n hx hb dX9_readLine_235 rfl (lv_at hl 0 rfl) ?_
      refine lv_iconst (v := 0) hx hb dX9_readLine_236 (by decide) ?_
      obtain ⟨⟨vM_237, vM_fresh_237, vM_letters_237⟩, hc237, hok⟩ := k_bind hok
      try dsimp only at hok
      refine kCv (wc := (wX9_boxLine cy aM qM vM_229c vM_fresh vM_tape vM_letters_229c)) (wc2 := (wX9_boxLine cy aM qM vM_237 vM_fresh_237 vM_tape vM_letters_237)) (wr := []) (ws2 := (wX9_readLine cy aM qM vM_237 vM_letters_237 vM_fresh_237 vM_tape)) (kRunVS (As := [.int 0]) (rest := []) ⟨hx, hb, hml, hown, ht0⟩ (kX9_boxLine l D cy ad _ aM qM vM_229c vM_fresh vM_tape vM_letters_229c (0 : Int32) vM_237 vM_fresh_237 vM_letters_237 hc237 _ rfl) (cwV 1 ht0 (gV wd826 wd827 wd828 wd744 wd829) rfl rfl rfl (by decide +kernel) ⟨Nat.le_of_ble_eq_true rfl, Nat.le_of_ble_eq_true rfl⟩) hK hN hP hD hSt hS hA [0, 2, 3, 1] rfl (by decide) 0 8 rfl rfl rfl hl.1 rfl (Nat.le_of_ble_eq_true rfl) dX9_readLine_237 ⟨Nat.zero_le _, Nat.zero_le _⟩) hP hD hS hA [0, 2, 3, 1] [] rfl rfl (by decide) (by decide) [0, 3, 1, 2] (by decide) rfl rfl (fun H locs hP hD hS => ?_)
      refine lv_goto (tgt := 252) hx hb dX9_readLine_240 (by decide) ?_
      exact J252 vM_fresh_237 vM_letters_237 vM_237 H locs ls hP hD hS (lv_sub hl [] rfl) hok
  have J195 : ∀ (t0_195 : Int32) (vM_letters_195 : Nat → Int32) (vM_195 : Nat → Int32), ∀ (H : Heap) (locs : List Loc) (ls : Array Slot), va_P D vwCl (wX9_readLine cy aM qM vM_195 vM_letters_195 vM_fresh vM_tape) H → va_D A (wX9_readLine cy aM qM vM_195 vM_letters_195 vM_fresh vM_tape) → va_S A s.heap H locs → lv_has ls 1 [(0, .ref aM)] → fX9_readLine_J195 vM_fresh vM_tape t0_195 vM_letters_195 vM_195 = some (z_vM, z_vM_letters, z_vM_fresh) → W p l e ({ frames := 9, cells := 0, slots := 0, locals := 200 } : Room) s m ([.ref aM] : List Value).toArray below meth c H locs 0 0 Q (F0 m 195 ls [.int t0_195, .ref (ad.1 7), .ref aM]) := by
    intro t0_195 vM_letters_195 vM_195 H locs ls hP hD hS hl hok
    unfold fX9_readLine_J195 at hok
    obtain ⟨⟨r195, vM_195c, vM_letters_195c⟩, hc195, hok⟩ := k_bind hok
    try dsimp only at hok
    refine kCi (wc := (wX9_begins cy aM qM vM_195 vM_letters_195 vM_fresh vM_tape)) (wc2 := (wX9_begins cy aM qM vM_195c vM_letters_195c vM_fresh vM_tape)) (wr := []) (ws2 := (wX9_readLine cy aM qM vM_195c vM_letters_195c vM_fresh vM_tape)) (kRunVS (As := [.ref (ad.1 7), .int t0_195]) (rest := []) ⟨hx, hb, hml, hown, ht0⟩ (kX9_begins l D cy ad _ aM qM vM_195 vM_letters_195 vM_fresh vM_tape 7 t0_195 r195 vM_195c vM_letters_195c hc195 _ rfl) (cwV 2 ht0 (gV wd822 wd823 wd824 wd744 wd825) rfl rfl rfl (by decide +kernel) ⟨Nat.le_of_ble_eq_true rfl, Nat.le_of_ble_eq_true rfl⟩) hK hN hP hD hSt hS hA [0, 1, 2, 3] rfl (by decide) 0 8 rfl rfl rfl hl.1 rfl (Nat.le_of_ble_eq_true rfl) dX9_readLine_195 ⟨Nat.zero_le _, Nat.zero_le _⟩) hP hD hS hA [0, 1, 2, 3] [] rfl rfl (by decide) (by decide) [0, 1, 2, 3] (by decide) rfl rfl (fun H locs hP hD hS => ?_)
    refine lv_if_eq (tgt := 209) hx hb dX9_readLine_198 (by decide) (fun c198 => ?_) (fun c198 => ?_)
    · have hok := k_pos c198 hok
      refine lv_aload_n hx hb dX9_readLine_209 rfl (lv_at hl 0 rfl) ?_
      refine va_ldcS (own := RX9) (tx := "lost") (index := 127) (q := ad.1 10) hx hb hown (hSt.2.1 (RX9, 127, "lost", 10) (List.mem_of_getElem? (i := 29) rfl)) dX9_readLine_210 ?_
      refine lv_aload_n hx hb dX9_readLine_212 rfl (lv_at hl 0 rfl) ?_
      refine va_get (D := D) (ci := 8) (v := .ref (qM 16)) (C := RX9) (T := TX9) (N := 29) hx hb ht0 niX9 hown hK hP 0 rfl rfl 16 (by decide) (ht0 _ wd778) (fun _ h9 => h9) rfl dX9_readLine_213 ?_
      refine lv_bipush (v := 7) hx hb dX9_readLine_216 (by decide) ?_
      obtain ⟨g218, hok⟩ := gd_some hok
      refine va_iald hx hb hK hP 2 0 rfl rfl (okI_in g218) dX9_readLine_218 ?_
      refine lv_bipush (v := 6) hx hb dX9_readLine_219 (by decide) ?_
      refine lv_icmp_ge (tgt := 228) hx hb dX9_readLine_221 (by decide) (fun c221 => ?_) (fun c221 => ?_)
      · have hok := k_pos c221 hok
        refine lv_iconst (v := 0) hx hb dX9_readLine_228 (by decide) ?_
        exact J229 (0 : Int32) vM_letters_195c vM_195c H locs ls hP hD hS (lv_sub hl [0] rfl) hok
      · have hok := k_neg c221 hok
        refine lv_iconst (v := 1) hx hb dX9_readLine_224 (by decide) ?_
        refine lv_goto (tgt := 229) hx hb dX9_readLine_225 (by decide) ?_
        exact J229 (1 : Int32) vM_letters_195c vM_195c H locs ls hP hD hS (lv_sub hl [0] rfl) hok
    · have hok := k_neg c198 hok
      refine lv_aload_n hx hb dX9_readLine_201 rfl (lv_at hl 0 rfl) ?_
      refine lv_iconst (v := 1) hx hb dX9_readLine_202 (by decide) ?_
      obtain ⟨⟨vM_203, vM_fresh_203, vM_letters_203⟩, hc203, hok⟩ := k_bind hok
      try dsimp only at hok
      refine kCv (wc := (wX9_boxLine cy aM qM vM_195c vM_fresh vM_tape vM_letters_195c)) (wc2 := (wX9_boxLine cy aM qM vM_203 vM_fresh_203 vM_tape vM_letters_203)) (wr := []) (ws2 := (wX9_readLine cy aM qM vM_203 vM_letters_203 vM_fresh_203 vM_tape)) (kRunVS (As := [.int 1]) (rest := []) ⟨hx, hb, hml, hown, ht0⟩ (kX9_boxLine l D cy ad _ aM qM vM_195c vM_fresh vM_tape vM_letters_195c (1 : Int32) vM_203 vM_fresh_203 vM_letters_203 hc203 _ rfl) (cwV 1 ht0 (gV wd826 wd827 wd828 wd744 wd829) rfl rfl rfl (by decide +kernel) ⟨Nat.le_of_ble_eq_true rfl, Nat.le_of_ble_eq_true rfl⟩) hK hN hP hD hSt hS hA [0, 2, 3, 1] rfl (by decide) 0 8 rfl rfl rfl hl.1 rfl (Nat.le_of_ble_eq_true rfl) dX9_readLine_203 ⟨Nat.zero_le _, Nat.zero_le _⟩) hP hD hS hA [0, 2, 3, 1] [] rfl rfl (by decide) (by decide) [0, 3, 1, 2] (by decide) rfl rfl (fun H locs hP hD hS => ?_)
      refine lv_goto (tgt := 252) hx hb dX9_readLine_206 (by decide) ?_
      exact J252 vM_fresh_203 vM_letters_203 vM_203 H locs ls hP hD hS (lv_sub hl [] rfl) hok
  have J162 : ∀ (t0_162 : Int32) (vM_letters_162 : Nat → Int32) (vM_162 : Nat → Int32), ∀ (H : Heap) (locs : List Loc) (ls : Array Slot), va_P D vwCl (wX9_readLine cy aM qM vM_162 vM_letters_162 vM_fresh vM_tape) H → va_D A (wX9_readLine cy aM qM vM_162 vM_letters_162 vM_fresh vM_tape) → va_S A s.heap H locs → lv_has ls 1 [(0, .ref aM)] → fX9_readLine_J162 vM_fresh vM_tape t0_162 vM_letters_162 vM_162 = some (z_vM, z_vM_letters, z_vM_fresh) → W p l e ({ frames := 9, cells := 0, slots := 0, locals := 200 } : Room) s m ([.ref aM] : List Value).toArray below meth c H locs 0 0 Q (F0 m 162 ls [.int t0_162, .ref (ad.1 21), .ref aM]) := by
    intro t0_162 vM_letters_162 vM_162 H locs ls hP hD hS hl hok
    unfold fX9_readLine_J162 at hok
    obtain ⟨⟨r162, vM_162c, vM_letters_162c⟩, hc162, hok⟩ := k_bind hok
    try dsimp only at hok
    refine kCi (wc := (wX9_begins cy aM qM vM_162 vM_letters_162 vM_fresh vM_tape)) (wc2 := (wX9_begins cy aM qM vM_162c vM_letters_162c vM_fresh vM_tape)) (wr := []) (ws2 := (wX9_readLine cy aM qM vM_162c vM_letters_162c vM_fresh vM_tape)) (kRunVS (As := [.ref (ad.1 21), .int t0_162]) (rest := []) ⟨hx, hb, hml, hown, ht0⟩ (kX9_begins l D cy ad _ aM qM vM_162 vM_letters_162 vM_fresh vM_tape 21 t0_162 r162 vM_162c vM_letters_162c hc162 _ rfl) (cwV 2 ht0 (gV wd822 wd823 wd824 wd744 wd825) rfl rfl rfl (by decide +kernel) ⟨Nat.le_of_ble_eq_true rfl, Nat.le_of_ble_eq_true rfl⟩) hK hN hP hD hSt hS hA [0, 1, 2, 3] rfl (by decide) 0 8 rfl rfl rfl hl.1 rfl (Nat.le_of_ble_eq_true rfl) dX9_readLine_162 ⟨Nat.zero_le _, Nat.zero_le _⟩) hP hD hS hA [0, 1, 2, 3] [] rfl rfl (by decide) (by decide) [0, 1, 2, 3] (by decide) rfl rfl (fun H locs hP hD hS => ?_)
    refine lv_if_eq (tgt := 175) hx hb dX9_readLine_165 (by decide) (fun c165 => ?_) (fun c165 => ?_)
    · have hok := k_pos c165 hok
      refine lv_aload_n hx hb dX9_readLine_175 rfl (lv_at hl 0 rfl) ?_
      refine va_ldcS (own := RX9) (tx := "found") (index := 125) (q := ad.1 7) hx hb hown (hSt.2.1 (RX9, 125, "found", 7) (List.mem_of_getElem? (i := 28) rfl)) dX9_readLine_176 ?_
      refine lv_aload_n hx hb dX9_readLine_178 rfl (lv_at hl 0 rfl) ?_
      refine va_get (D := D) (ci := 8) (v := .ref (qM 16)) (C := RX9) (T := TX9) (N := 29) hx hb ht0 niX9 hown hK hP 0 rfl rfl 16 (by decide) (ht0 _ wd778) (fun _ h9 => h9) rfl dX9_readLine_179 ?_
      refine lv_bipush (v := 7) hx hb dX9_readLine_182 (by decide) ?_
      obtain ⟨g184, hok⟩ := gd_some hok
      refine va_iald hx hb hK hP 2 0 rfl rfl (okI_in g184) dX9_readLine_184 ?_
      refine lv_bipush (v := 6) hx hb dX9_readLine_185 (by decide) ?_
      refine lv_icmp_ge (tgt := 194) hx hb dX9_readLine_187 (by decide) (fun c187 => ?_) (fun c187 => ?_)
      · have hok := k_pos c187 hok
        refine lv_iconst (v := 0) hx hb dX9_readLine_194 (by decide) ?_
        exact J195 (0 : Int32) vM_letters_162c vM_162c H locs ls hP hD hS (lv_sub hl [0] rfl) hok
      · have hok := k_neg c187 hok
        refine lv_iconst (v := 1) hx hb dX9_readLine_190 (by decide) ?_
        refine lv_goto (tgt := 195) hx hb dX9_readLine_191 (by decide) ?_
        exact J195 (1 : Int32) vM_letters_162c vM_162c H locs ls hP hD hS (lv_sub hl [0] rfl) hok
    · have hok := k_neg c165 hok
      refine lv_aload_n hx hb dX9_readLine_168 rfl (lv_at hl 0 rfl) ?_
      obtain ⟨⟨vM_169, vM_fresh_169, vM_letters_169⟩, hc169, hok⟩ := k_bind hok
      try dsimp only at hok
      refine kCv (wc := (wX9_wantLine cy aM qM vM_162c vM_fresh vM_letters_162c vM_tape)) (wc2 := (wX9_wantLine cy aM qM vM_169 vM_fresh_169 vM_letters_169 vM_tape)) (wr := []) (ws2 := (wX9_readLine cy aM qM vM_169 vM_letters_169 vM_fresh_169 vM_tape)) (kRunVS (As := []) (rest := []) ⟨hx, hb, hml, hown, ht0⟩ (kX9_wantLine l D cy ad _ aM qM vM_162c vM_fresh vM_letters_162c vM_tape vM_169 vM_fresh_169 vM_letters_169 hc169 _ rfl) (cwV 0 ht0 (gV wd830 wd831 wd832 wd744 wd833) rfl rfl rfl (by decide +kernel) ⟨Nat.le_of_ble_eq_true rfl, Nat.le_of_ble_eq_true rfl⟩) hK hN hP hD hSt hS hA [0, 2, 1, 3] rfl (by decide) 0 8 rfl rfl rfl hl.1 rfl (Nat.le_of_ble_eq_true rfl) dX9_readLine_169 ⟨Nat.zero_le _, Nat.zero_le _⟩) hP hD hS hA [0, 2, 1, 3] [] rfl rfl (by decide) (by decide) [0, 2, 1, 3] (by decide) rfl rfl (fun H locs hP hD hS => ?_)
      refine lv_goto (tgt := 252) hx hb dX9_readLine_172 (by decide) ?_
      exact J252 vM_fresh_169 vM_letters_169 vM_169 H locs ls hP hD hS (lv_sub hl [] rfl) hok
  have J129 : ∀ (t0_129 : Int32) (vM_letters_129 : Nat → Int32) (vM_129 : Nat → Int32), ∀ (H : Heap) (locs : List Loc) (ls : Array Slot), va_P D vwCl (wX9_readLine cy aM qM vM_129 vM_letters_129 vM_fresh vM_tape) H → va_D A (wX9_readLine cy aM qM vM_129 vM_letters_129 vM_fresh vM_tape) → va_S A s.heap H locs → lv_has ls 1 [(0, .ref aM)] → fX9_readLine_J129 vM_fresh vM_tape t0_129 vM_letters_129 vM_129 = some (z_vM, z_vM_letters, z_vM_fresh) → W p l e ({ frames := 9, cells := 0, slots := 0, locals := 200 } : Room) s m ([.ref aM] : List Value).toArray below meth c H locs 0 0 Q (F0 m 129 ls [.int t0_129, .ref (ad.1 20), .ref aM]) := by
    intro t0_129 vM_letters_129 vM_129 H locs ls hP hD hS hl hok
    unfold fX9_readLine_J129 at hok
    obtain ⟨⟨r129, vM_129c, vM_letters_129c⟩, hc129, hok⟩ := k_bind hok
    try dsimp only at hok
    refine kCi (wc := (wX9_begins cy aM qM vM_129 vM_letters_129 vM_fresh vM_tape)) (wc2 := (wX9_begins cy aM qM vM_129c vM_letters_129c vM_fresh vM_tape)) (wr := []) (ws2 := (wX9_readLine cy aM qM vM_129c vM_letters_129c vM_fresh vM_tape)) (kRunVS (As := [.ref (ad.1 20), .int t0_129]) (rest := []) ⟨hx, hb, hml, hown, ht0⟩ (kX9_begins l D cy ad _ aM qM vM_129 vM_letters_129 vM_fresh vM_tape 20 t0_129 r129 vM_129c vM_letters_129c hc129 _ rfl) (cwV 2 ht0 (gV wd822 wd823 wd824 wd744 wd825) rfl rfl rfl (by decide +kernel) ⟨Nat.le_of_ble_eq_true rfl, Nat.le_of_ble_eq_true rfl⟩) hK hN hP hD hSt hS hA [0, 1, 2, 3] rfl (by decide) 0 8 rfl rfl rfl hl.1 rfl (Nat.le_of_ble_eq_true rfl) dX9_readLine_129 ⟨Nat.zero_le _, Nat.zero_le _⟩) hP hD hS hA [0, 1, 2, 3] [] rfl rfl (by decide) (by decide) [0, 1, 2, 3] (by decide) rfl rfl (fun H locs hP hD hS => ?_)
    refine lv_if_eq (tgt := 142) hx hb dX9_readLine_132 (by decide) (fun c132 => ?_) (fun c132 => ?_)
    · have hok := k_pos c132 hok
      refine lv_aload_n hx hb dX9_readLine_142 rfl (lv_at hl 0 rfl) ?_
      refine va_ldcS (own := RX9) (tx := "want") (index := 123) (q := ad.1 21) hx hb hown (hSt.2.1 (RX9, 123, "want", 21) (List.mem_of_getElem? (i := 27) rfl)) dX9_readLine_143 ?_
      refine lv_aload_n hx hb dX9_readLine_145 rfl (lv_at hl 0 rfl) ?_
      refine va_get (D := D) (ci := 8) (v := .ref (qM 16)) (C := RX9) (T := TX9) (N := 29) hx hb ht0 niX9 hown hK hP 0 rfl rfl 16 (by decide) (ht0 _ wd778) (fun _ h9 => h9) rfl dX9_readLine_146 ?_
      refine lv_bipush (v := 6) hx hb dX9_readLine_149 (by decide) ?_
      obtain ⟨g151, hok⟩ := gd_some hok
      refine va_iald hx hb hK hP 2 0 rfl rfl (okI_in g151) dX9_readLine_151 ?_
      refine lv_bipush (v := 6) hx hb dX9_readLine_152 (by decide) ?_
      refine lv_icmp_ge (tgt := 161) hx hb dX9_readLine_154 (by decide) (fun c154 => ?_) (fun c154 => ?_)
      · have hok := k_pos c154 hok
        refine lv_iconst (v := 0) hx hb dX9_readLine_161 (by decide) ?_
        exact J162 (0 : Int32) vM_letters_129c vM_129c H locs ls hP hD hS (lv_sub hl [0] rfl) hok
      · have hok := k_neg c154 hok
        refine lv_iconst (v := 1) hx hb dX9_readLine_157 (by decide) ?_
        refine lv_goto (tgt := 162) hx hb dX9_readLine_158 (by decide) ?_
        exact J162 (1 : Int32) vM_letters_129c vM_129c H locs ls hP hD hS (lv_sub hl [0] rfl) hok
    · have hok := k_neg c132 hok
      refine lv_aload_n hx hb dX9_readLine_135 rfl (lv_at hl 0 rfl) ?_
      obtain ⟨⟨vM_136, vM_fresh_136, vM_letters_136⟩, hc136, hok⟩ := k_bind hok
      try dsimp only at hok
      refine kCv (wc := (wX9_thingLine cy aM qM vM_129c vM_fresh vM_letters_129c vM_tape)) (wc2 := (wX9_thingLine cy aM qM vM_136 vM_fresh_136 vM_letters_136 vM_tape)) (wr := []) (ws2 := (wX9_readLine cy aM qM vM_136 vM_letters_136 vM_fresh_136 vM_tape)) (kRunVS (As := []) (rest := []) ⟨hx, hb, hml, hown, ht0⟩ (kX9_thingLine l D cy ad _ aM qM vM_129c vM_fresh vM_letters_129c vM_tape vM_136 vM_fresh_136 vM_letters_136 hc136 _ rfl) (cwV 0 ht0 (gV wd834 wd835 wd836 wd744 wd837) rfl rfl rfl (by decide +kernel) ⟨Nat.le_of_ble_eq_true rfl, Nat.le_of_ble_eq_true rfl⟩) hK hN hP hD hSt hS hA [0, 2, 1, 3] rfl (by decide) 0 8 rfl rfl rfl hl.1 rfl (Nat.le_of_ble_eq_true rfl) dX9_readLine_136 ⟨Nat.zero_le _, Nat.zero_le _⟩) hP hD hS hA [0, 2, 1, 3] [] rfl rfl (by decide) (by decide) [0, 2, 1, 3] (by decide) rfl rfl (fun H locs hP hD hS => ?_)
      refine lv_goto (tgt := 252) hx hb dX9_readLine_139 (by decide) ?_
      exact J252 vM_fresh_136 vM_letters_136 vM_136 H locs ls hP hD hS (lv_sub hl [] rfl) hok
  have J97 : ∀ (t0_97 : Int32) (vM_letters_97 : Nat → Int32) (vM_97 : Nat → Int32), ∀ (H : Heap) (locs : List Loc) (ls : Array Slot), va_P D vwCl (wX9_readLine cy aM qM vM_97 vM_letters_97 vM_fresh vM_tape) H → va_D A (wX9_readLine cy aM qM vM_97 vM_letters_97 vM_fresh vM_tape) → va_S A s.heap H locs → lv_has ls 1 [(0, .ref aM)] → fX9_readLine_J97 vM_fresh vM_tape t0_97 vM_letters_97 vM_97 = some (z_vM, z_vM_letters, z_vM_fresh) → W p l e ({ frames := 9, cells := 0, slots := 0, locals := 200 } : Room) s m ([.ref aM] : List Value).toArray below meth c H locs 0 0 Q (F0 m 97 ls [.int t0_97, .ref (ad.1 6), .ref aM]) := by
    intro t0_97 vM_letters_97 vM_97 H locs ls hP hD hS hl hok
    unfold fX9_readLine_J97 at hok
    obtain ⟨⟨r97, vM_97c, vM_letters_97c⟩, hc97, hok⟩ := k_bind hok
    try dsimp only at hok
    refine kCi (wc := (wX9_begins cy aM qM vM_97 vM_letters_97 vM_fresh vM_tape)) (wc2 := (wX9_begins cy aM qM vM_97c vM_letters_97c vM_fresh vM_tape)) (wr := []) (ws2 := (wX9_readLine cy aM qM vM_97c vM_letters_97c vM_fresh vM_tape)) (kRunVS (As := [.ref (ad.1 6), .int t0_97]) (rest := []) ⟨hx, hb, hml, hown, ht0⟩ (kX9_begins l D cy ad _ aM qM vM_97 vM_letters_97 vM_fresh vM_tape 6 t0_97 r97 vM_97c vM_letters_97c hc97 _ rfl) (cwV 2 ht0 (gV wd822 wd823 wd824 wd744 wd825) rfl rfl rfl (by decide +kernel) ⟨Nat.le_of_ble_eq_true rfl, Nat.le_of_ble_eq_true rfl⟩) hK hN hP hD hSt hS hA [0, 1, 2, 3] rfl (by decide) 0 8 rfl rfl rfl hl.1 rfl (Nat.le_of_ble_eq_true rfl) dX9_readLine_97 ⟨Nat.zero_le _, Nat.zero_le _⟩) hP hD hS hA [0, 1, 2, 3] [] rfl rfl (by decide) (by decide) [0, 1, 2, 3] (by decide) rfl rfl (fun H locs hP hD hS => ?_)
    refine lv_if_eq (tgt := 110) hx hb dX9_readLine_100 (by decide) (fun c100 => ?_) (fun c100 => ?_)
    · have hok := k_pos c100 hok
      refine lv_aload_n hx hb dX9_readLine_110 rfl (lv_at hl 0 rfl) ?_
      refine va_ldcS (own := RX9) (tx := "thing") (index := 121) (q := ad.1 20) hx hb hown (hSt.2.1 (RX9, 121, "thing", 20) (List.mem_of_getElem? (i := 26) rfl)) dX9_readLine_111 ?_
      refine lv_aload_n hx hb dX9_readLine_113 rfl (lv_at hl 0 rfl) ?_
      refine va_get (D := D) (ci := 8) (v := .ref (qM 16)) (C := RX9) (T := TX9) (N := 29) hx hb ht0 niX9 hown hK hP 0 rfl rfl 16 (by decide) (ht0 _ wd778) (fun _ h9 => h9) rfl dX9_readLine_114 ?_
      refine lv_iconst (v := 3) hx hb dX9_readLine_117 (by decide) ?_
      obtain ⟨g118, hok⟩ := gd_some hok
      refine va_iald hx hb hK hP 2 0 rfl rfl (okI_in g118) dX9_readLine_118 ?_
      refine lv_bipush (v := 7) hx hb dX9_readLine_119 (by decide) ?_
      refine lv_icmp_ge (tgt := 128) hx hb dX9_readLine_121 (by decide) (fun c121 => ?_) (fun c121 => ?_)
      · have hok := k_pos c121 hok
        refine lv_iconst (v := 0) hx hb dX9_readLine_128 (by decide) ?_
        exact J129 (0 : Int32) vM_letters_97c vM_97c H locs ls hP hD hS (lv_sub hl [0] rfl) hok
      · have hok := k_neg c121 hok
        refine lv_iconst (v := 1) hx hb dX9_readLine_124 (by decide) ?_
        refine lv_goto (tgt := 129) hx hb dX9_readLine_125 (by decide) ?_
        exact J129 (1 : Int32) vM_letters_97c vM_97c H locs ls hP hD hS (lv_sub hl [0] rfl) hok
    · have hok := k_neg c100 hok
      refine lv_aload_n hx hb dX9_readLine_103 rfl (lv_at hl 0 rfl) ?_
      obtain ⟨⟨vM_104, vM_fresh_104, vM_letters_104⟩, hc104, hok⟩ := k_bind hok
      try dsimp only at hok
      refine kCv (wc := (wX9_doorLine cy aM qM vM_97c vM_fresh vM_letters_97c vM_tape)) (wc2 := (wX9_doorLine cy aM qM vM_104 vM_fresh_104 vM_letters_104 vM_tape)) (wr := []) (ws2 := (wX9_readLine cy aM qM vM_104 vM_letters_104 vM_fresh_104 vM_tape)) (kRunVS (As := []) (rest := []) ⟨hx, hb, hml, hown, ht0⟩ (kX9_doorLine l D cy ad _ aM qM vM_97c vM_fresh vM_letters_97c vM_tape vM_104 vM_fresh_104 vM_letters_104 hc104 _ rfl) (cwV 0 ht0 (gV wd838 wd839 wd840 wd744 wd841) rfl rfl rfl (by decide +kernel) ⟨Nat.le_of_ble_eq_true rfl, Nat.le_of_ble_eq_true rfl⟩) hK hN hP hD hSt hS hA [0, 2, 1, 3] rfl (by decide) 0 8 rfl rfl rfl hl.1 rfl (Nat.le_of_ble_eq_true rfl) dX9_readLine_104 ⟨Nat.zero_le _, Nat.zero_le _⟩) hP hD hS hA [0, 2, 1, 3] [] rfl rfl (by decide) (by decide) [0, 2, 1, 3] (by decide) rfl rfl (fun H locs hP hD hS => ?_)
      refine lv_goto (tgt := 252) hx hb dX9_readLine_107 (by decide) ?_
      exact J252 vM_fresh_104 vM_letters_104 vM_104 H locs ls hP hD hS (lv_sub hl [] rfl) hok
  have J66 : ∀ (t0_66 : Int32) (vM_letters_66 : Nat → Int32) (vM_66 : Nat → Int32), ∀ (H : Heap) (locs : List Loc) (ls : Array Slot), va_P D vwCl (wX9_readLine cy aM qM vM_66 vM_letters_66 vM_fresh vM_tape) H → va_D A (wX9_readLine cy aM qM vM_66 vM_letters_66 vM_fresh vM_tape) → va_S A s.heap H locs → lv_has ls 1 [(0, .ref aM)] → fX9_readLine_J66 vM_fresh vM_tape t0_66 vM_letters_66 vM_66 = some (z_vM, z_vM_letters, z_vM_fresh) → W p l e ({ frames := 9, cells := 0, slots := 0, locals := 200 } : Room) s m ([.ref aM] : List Value).toArray below meth c H locs 0 0 Q (F0 m 66 ls [.int t0_66, .ref (ad.1 11), .ref aM]) := by
    intro t0_66 vM_letters_66 vM_66 H locs ls hP hD hS hl hok
    unfold fX9_readLine_J66 at hok
    obtain ⟨⟨r66, vM_66c, vM_letters_66c⟩, hc66, hok⟩ := k_bind hok
    try dsimp only at hok
    refine kCi (wc := (wX9_begins cy aM qM vM_66 vM_letters_66 vM_fresh vM_tape)) (wc2 := (wX9_begins cy aM qM vM_66c vM_letters_66c vM_fresh vM_tape)) (wr := []) (ws2 := (wX9_readLine cy aM qM vM_66c vM_letters_66c vM_fresh vM_tape)) (kRunVS (As := [.ref (ad.1 11), .int t0_66]) (rest := []) ⟨hx, hb, hml, hown, ht0⟩ (kX9_begins l D cy ad _ aM qM vM_66 vM_letters_66 vM_fresh vM_tape 11 t0_66 r66 vM_66c vM_letters_66c hc66 _ rfl) (cwV 2 ht0 (gV wd822 wd823 wd824 wd744 wd825) rfl rfl rfl (by decide +kernel) ⟨Nat.le_of_ble_eq_true rfl, Nat.le_of_ble_eq_true rfl⟩) hK hN hP hD hSt hS hA [0, 1, 2, 3] rfl (by decide) 0 8 rfl rfl rfl hl.1 rfl (Nat.le_of_ble_eq_true rfl) dX9_readLine_66 ⟨Nat.zero_le _, Nat.zero_le _⟩) hP hD hS hA [0, 1, 2, 3] [] rfl rfl (by decide) (by decide) [0, 1, 2, 3] (by decide) rfl rfl (fun H locs hP hD hS => ?_)
    refine lv_if_eq (tgt := 79) hx hb dX9_readLine_69 (by decide) (fun c69 => ?_) (fun c69 => ?_)
    · have hok := k_pos c69 hok
      refine lv_aload_n hx hb dX9_readLine_79 rfl (lv_at hl 0 rfl) ?_
      refine va_ldcS (own := RX9) (tx := "door") (index := 119) (q := ad.1 6) hx hb hown (hSt.2.1 (RX9, 119, "door", 6) (List.mem_of_getElem? (i := 25) rfl)) dX9_readLine_80 ?_
      refine lv_aload_n hx hb dX9_readLine_82 rfl (lv_at hl 0 rfl) ?_
      refine va_get (D := D) (ci := 8) (v := .ref (qM 16)) (C := RX9) (T := TX9) (N := 29) hx hb ht0 niX9 hown hK hP 0 rfl rfl 16 (by decide) (ht0 _ wd778) (fun _ h9 => h9) rfl dX9_readLine_83 ?_
      refine lv_iconst (v := 5) hx hb dX9_readLine_86 (by decide) ?_
      obtain ⟨g87, hok⟩ := gd_some hok
      refine va_iald hx hb hK hP 2 0 rfl rfl (okI_in g87) dX9_readLine_87 ?_
      refine lv_iconst (v := 5) hx hb dX9_readLine_88 (by decide) ?_
      refine lv_icmp_ge (tgt := 96) hx hb dX9_readLine_89 (by decide) (fun c89 => ?_) (fun c89 => ?_)
      · have hok := k_pos c89 hok
        refine lv_iconst (v := 0) hx hb dX9_readLine_96 (by decide) ?_
        exact J97 (0 : Int32) vM_letters_66c vM_66c H locs ls hP hD hS (lv_sub hl [0] rfl) hok
      · have hok := k_neg c89 hok
        refine lv_iconst (v := 1) hx hb dX9_readLine_92 (by decide) ?_
        refine lv_goto (tgt := 97) hx hb dX9_readLine_93 (by decide) ?_
        exact J97 (1 : Int32) vM_letters_66c vM_66c H locs ls hP hD hS (lv_sub hl [0] rfl) hok
    · have hok := k_neg c69 hok
      refine lv_aload_n hx hb dX9_readLine_72 rfl (lv_at hl 0 rfl) ?_
      obtain ⟨⟨vM_73, vM_letters_73, vM_fresh_73⟩, hc73, hok⟩ := k_bind hok
      try dsimp only at hok
      refine kCv (wc := (wX9_narrowLine cy aM qM vM_66c vM_letters_66c vM_fresh vM_tape)) (wc2 := (wX9_narrowLine cy aM qM vM_73 vM_letters_73 vM_fresh_73 vM_tape)) (wr := []) (ws2 := (wX9_readLine cy aM qM vM_73 vM_letters_73 vM_fresh_73 vM_tape)) (kRunVS (As := []) (rest := []) ⟨hx, hb, hml, hown, ht0⟩ (kX9_narrowLine l D cy ad _ aM qM vM_66c vM_letters_66c vM_fresh vM_tape vM_73 vM_letters_73 vM_fresh_73 hc73 _ rfl) (cwV 0 ht0 (gV wd842 wd843 wd844 wd744 wd845) rfl rfl rfl (by decide +kernel) ⟨Nat.le_of_ble_eq_true rfl, Nat.le_of_ble_eq_true rfl⟩) hK hN hP hD hSt hS hA [0, 1, 2, 3] rfl (by decide) 0 8 rfl rfl rfl hl.1 rfl (Nat.le_of_ble_eq_true rfl) dX9_readLine_73 ⟨Nat.zero_le _, Nat.zero_le _⟩) hP hD hS hA [0, 1, 2, 3] [] rfl rfl (by decide) (by decide) [0, 1, 2, 3] (by decide) rfl rfl (fun H locs hP hD hS => ?_)
      refine lv_goto (tgt := 252) hx hb dX9_readLine_76 (by decide) ?_
      exact J252 vM_fresh_73 vM_letters_73 vM_73 H locs ls hP hD hS (lv_sub hl [] rfl) hok
  have J34 : ∀ (t0_34 : Int32), ∀ (H : Heap) (locs : List Loc) (ls : Array Slot), va_P D vwCl (wX9_readLine cy aM qM vM vM_letters vM_fresh vM_tape) H → va_D A (wX9_readLine cy aM qM vM vM_letters vM_fresh vM_tape) → va_S A s.heap H locs → lv_has ls 1 [(0, .ref aM)] → fX9_readLine_J34 vM vM_letters vM_fresh vM_tape t0_34 = some (z_vM, z_vM_letters, z_vM_fresh) → W p l e ({ frames := 9, cells := 0, slots := 0, locals := 200 } : Room) s m ([.ref aM] : List Value).toArray below meth c H locs 0 0 Q (F0 m 34 ls [.int t0_34, .ref (ad.1 18), .ref aM]) := by
    intro t0_34 H locs ls hP hD hS hl hok
    unfold fX9_readLine_J34 at hok
    obtain ⟨⟨r34, vM_34c, vM_letters_34c⟩, hc34, hok⟩ := k_bind hok
    try dsimp only at hok
    refine kCi (wc := (wX9_begins cy aM qM vM vM_letters vM_fresh vM_tape)) (wc2 := (wX9_begins cy aM qM vM_34c vM_letters_34c vM_fresh vM_tape)) (wr := []) (ws2 := (wX9_readLine cy aM qM vM_34c vM_letters_34c vM_fresh vM_tape)) (kRunVS (As := [.ref (ad.1 18), .int t0_34]) (rest := []) ⟨hx, hb, hml, hown, ht0⟩ (kX9_begins l D cy ad _ aM qM vM vM_letters vM_fresh vM_tape 18 t0_34 r34 vM_34c vM_letters_34c hc34 _ rfl) (cwV 2 ht0 (gV wd822 wd823 wd824 wd744 wd825) rfl rfl rfl (by decide +kernel) ⟨Nat.le_of_ble_eq_true rfl, Nat.le_of_ble_eq_true rfl⟩) hK hN hP hD hSt hS hA [0, 1, 2, 3] rfl (by decide) 0 8 rfl rfl rfl hl.1 rfl (Nat.le_of_ble_eq_true rfl) dX9_readLine_34 ⟨Nat.zero_le _, Nat.zero_le _⟩) hP hD hS hA [0, 1, 2, 3] [] rfl rfl (by decide) (by decide) [0, 1, 2, 3] (by decide) rfl rfl (fun H locs hP hD hS => ?_)
    refine lv_if_eq (tgt := 47) hx hb dX9_readLine_37 (by decide) (fun c37 => ?_) (fun c37 => ?_)
    · have hok := k_pos c37 hok
      refine lv_aload_n hx hb dX9_readLine_47 rfl (lv_at hl 0 rfl) ?_
      refine va_ldcS (own := RX9) (tx := "narrow") (index := 117) (q := ad.1 11) hx hb hown (hSt.2.1 (RX9, 117, "narrow", 11) (List.mem_of_getElem? (i := 24) rfl)) dX9_readLine_48 ?_
      refine lv_aload_n hx hb dX9_readLine_50 rfl (lv_at hl 0 rfl) ?_
      refine va_get (D := D) (ci := 8) (v := .ref (qM 16)) (C := RX9) (T := TX9) (N := 29) hx hb ht0 niX9 hown hK hP 0 rfl rfl 16 (by decide) (ht0 _ wd778) (fun _ h9 => h9) rfl dX9_readLine_51 ?_
      refine lv_iconst (v := 4) hx hb dX9_readLine_54 (by decide) ?_
      obtain ⟨g55, hok⟩ := gd_some hok
      refine va_iald hx hb hK hP 2 0 rfl rfl (okI_in g55) dX9_readLine_55 ?_
      refine lv_bipush (v := 6) hx hb dX9_readLine_56 (by decide) ?_
      refine lv_icmp_ge (tgt := 65) hx hb dX9_readLine_58 (by decide) (fun c58 => ?_) (fun c58 => ?_)
      · have hok := k_pos c58 hok
        refine lv_iconst (v := 0) hx hb dX9_readLine_65 (by decide) ?_
        exact J66 (0 : Int32) vM_letters_34c vM_34c H locs ls hP hD hS (lv_sub hl [0] rfl) hok
      · have hok := k_neg c58 hok
        refine lv_iconst (v := 1) hx hb dX9_readLine_61 (by decide) ?_
        refine lv_goto (tgt := 66) hx hb dX9_readLine_62 (by decide) ?_
        exact J66 (1 : Int32) vM_letters_34c vM_34c H locs ls hP hD hS (lv_sub hl [0] rfl) hok
    · have hok := k_neg c37 hok
      refine lv_aload_n hx hb dX9_readLine_40 rfl (lv_at hl 0 rfl) ?_
      obtain ⟨⟨vM_41, vM_fresh_41, vM_letters_41⟩, hc41, hok⟩ := k_bind hok
      try dsimp only at hok
      refine kCv (wc := (wX9_ringLine cy aM qM vM_34c vM_fresh vM_letters_34c vM_tape)) (wc2 := (wX9_ringLine cy aM qM vM_41 vM_fresh_41 vM_letters_41 vM_tape)) (wr := []) (ws2 := (wX9_readLine cy aM qM vM_41 vM_letters_41 vM_fresh_41 vM_tape)) (kRunVS (As := []) (rest := []) ⟨hx, hb, hml, hown, ht0⟩ (kX9_ringLine l D cy ad _ aM qM vM_34c vM_fresh vM_letters_34c vM_tape vM_41 vM_fresh_41 vM_letters_41 hc41 _ rfl) (cwV 0 ht0 (gV wd846 wd847 wd848 wd744 wd849) rfl rfl rfl (by decide +kernel) ⟨Nat.le_of_ble_eq_true rfl, Nat.le_of_ble_eq_true rfl⟩) hK hN hP hD hSt hS hA [0, 2, 1, 3] rfl (by decide) 0 8 rfl rfl rfl hl.1 rfl (Nat.le_of_ble_eq_true rfl) dX9_readLine_41 ⟨Nat.zero_le _, Nat.zero_le _⟩) hP hD hS hA [0, 2, 1, 3] [] rfl rfl (by decide) (by decide) [0, 2, 1, 3] (by decide) rfl rfl (fun H locs hP hD hS => ?_)
      refine lv_goto (tgt := 252) hx hb dX9_readLine_44 (by decide) ?_
      exact J252 vM_fresh_41 vM_letters_41 vM_41 H locs ls hP hD hS (lv_sub hl [] rfl) hok
  unfold fX9_readLine at hok
  obtain ⟨H, hH⟩ : ∃ H, H = s.heap := ⟨_, rfl⟩
  obtain ⟨locs, hlc⟩ : ∃ x : List Loc, x = [] := ⟨_, rfl⟩
  have hP : va_P D vwCl (wX9_readLine cy aM qM vM vM_letters vM_fresh vM_tape) H := by rw [hH]; exact hP
  have hS : va_S A s.heap H locs := by rw [hH, hlc]; exact hS
  rw [show W p l e _ s m _ below meth c s.heap [] = W p l e _ s m _ below meth c H locs from by rw [hH, hlc]]
  refine lv_aload_n hx hb dX9_readLine_0 rfl (lv_at hl 0 rfl) ?_
  refine va_ldcS (own := RX9) (tx := "house") (index := 113) (q := ad.1 8) hx hb hown (hSt.2.1 (RX9, 113, "house", 8) (List.mem_of_getElem? (i := 22) rfl)) dX9_readLine_1 ?_
  obtain ⟨r3, hc3, hok⟩ := k_bind hok
  refine kCi (wc := (wX9_isWord cy aM qM vM vM_letters)) (wc2 := (wX9_isWord cy aM qM vM vM_letters)) (wr := [(qM 16, rI cy 224 vM_fresh), (qM 1, rI cy 900 vM_tape)]) (ws2 := (wX9_readLine cy aM qM vM vM_letters vM_fresh vM_tape)) (kRunVS (As := [.ref (ad.1 8)]) (rest := []) ⟨hx, hb, hml, hown, ht0⟩ (kX9_isWord l D cy ad _ aM qM vM vM_letters 8 r3 hc3 _ rfl) (cwV 1 ht0 (gV wd762 wd763 wd764 wd744 wd765) rfl rfl rfl (by decide +kernel) ⟨Nat.le_of_ble_eq_true rfl, Nat.le_of_ble_eq_true rfl⟩) hK hN hP hD hSt hS hA [0, 1] rfl (by decide) 0 8 rfl rfl rfl hl.1 rfl (Nat.le_of_ble_eq_true rfl) dX9_readLine_3 ⟨Nat.zero_le _, Nat.zero_le _⟩) hP hD hS hA [0, 1] [2, 3] rfl rfl (by decide) (by decide) [2, 3, 0, 1] (by decide) rfl rfl (fun H locs hP hD hS => ?_)
  refine lv_if_eq (tgt := 16) hx hb dX9_readLine_6 (by decide) (fun c6 => ?_) (fun c6 => ?_)
  · have hok := k_pos c6 hok
    refine lv_aload_n hx hb dX9_readLine_16 rfl (lv_at hl 0 rfl) ?_
    refine va_ldcS (own := RX9) (tx := "ring") (index := 115) (q := ad.1 18) hx hb hown (hSt.2.1 (RX9, 115, "ring", 18) (List.mem_of_getElem? (i := 23) rfl)) dX9_readLine_17 ?_
    refine lv_aload_n hx hb dX9_readLine_19 rfl (lv_at hl 0 rfl) ?_
    refine va_get (D := D) (ci := 8) (v := .ref (qM 16)) (C := RX9) (T := TX9) (N := 29) hx hb ht0 niX9 hown hK hP 0 rfl rfl 16 (by decide) (ht0 _ wd778) (fun _ h9 => h9) rfl dX9_readLine_20 ?_
    refine lv_iconst (v := 2) hx hb dX9_readLine_23 (by decide) ?_
    obtain ⟨g24, hok⟩ := gd_some hok
    refine va_iald hx hb hK hP 2 0 rfl rfl (okI_in g24) dX9_readLine_24 ?_
    refine lv_iconst (v := 4) hx hb dX9_readLine_25 (by decide) ?_
    refine lv_icmp_ge (tgt := 33) hx hb dX9_readLine_26 (by decide) (fun c26 => ?_) (fun c26 => ?_)
    · have hok := k_pos c26 hok
      refine lv_iconst (v := 0) hx hb dX9_readLine_33 (by decide) ?_
      exact J34 (0 : Int32) H locs ls hP hD hS (lv_sub hl [0] rfl) hok
    · have hok := k_neg c26 hok
      refine lv_iconst (v := 1) hx hb dX9_readLine_29 (by decide) ?_
      refine lv_goto (tgt := 34) hx hb dX9_readLine_30 (by decide) ?_
      exact J34 (1 : Int32) H locs ls hP hD hS (lv_sub hl [0] rfl) hok
  · have hok := k_neg c6 hok
    refine lv_aload_n hx hb dX9_readLine_9 rfl (lv_at hl 0 rfl) ?_
    obtain ⟨⟨vM_10, vM_fresh_10, vM_letters_10⟩, hc10, hok⟩ := k_bind hok
    try dsimp only at hok
    refine kCv (wc := (wX9_houseLine cy aM qM vM vM_fresh vM_tape vM_letters)) (wc2 := (wX9_houseLine cy aM qM vM_10 vM_fresh_10 vM_tape vM_letters_10)) (wr := []) (ws2 := (wX9_readLine cy aM qM vM_10 vM_letters_10 vM_fresh_10 vM_tape)) (kRunVS (As := []) (rest := []) ⟨hx, hb, hml, hown, ht0⟩ (kX9_houseLine l D cy ad _ aM qM vM vM_fresh vM_tape vM_letters vM_10 vM_fresh_10 vM_letters_10 hc10 _ rfl) (cwV 0 ht0 (gV wd850 wd851 wd852 wd744 wd853) rfl rfl rfl (by decide +kernel) ⟨Nat.le_of_ble_eq_true rfl, Nat.le_of_ble_eq_true rfl⟩) hK hN hP hD hSt hS hA [0, 2, 3, 1] rfl (by decide) 0 8 rfl rfl rfl hl.1 rfl (Nat.le_of_ble_eq_true rfl) dX9_readLine_10 ⟨Nat.zero_le _, Nat.zero_le _⟩) hP hD hS hA [0, 2, 3, 1] [] rfl rfl (by decide) (by decide) [0, 3, 1, 2] (by decide) rfl rfl (fun H locs hP hD hS => ?_)
    refine lv_goto (tgt := 252) hx hb dX9_readLine_13 (by decide) ?_
    exact J252 vM_fresh_10 vM_letters_10 vM_10 H locs ls hP hD hS (lv_sub hl [] rfl) hok
def wsX9_house : List Cond := .code yX9_house cX9_house 3 (some .int) :: W0
abbrev wX9_house (cy : Nat → ClassId) (aM : Nat) (qM : Nat → Nat) (vM : Nat → Int32) (vM_tape : Nat → Int32) (vM_letters : Nat → Int32) (vM_fresh : Nat → Int32) (vM_r : Nat → Int32) (vM_st : Nat → Int32) : va_W := [(aM, oX9 vM qM), (qM 1, rI cy 900 vM_tape), (qM 12, rI cy 8 vM_letters), (qM 16, rI cy 224 vM_fresh), (qM 15, rI cy 224 vM_r), (qM 17, rI cy 9 vM_st)]
set_option maxHeartbeats 4000000 in
set_option maxRecDepth 100000 in
theorem kX9_house (l : Launch) (D : va_G) (cy : Nat → ClassId) (ad : (Nat → Nat) × (Nat → Nat)) (sz : Nat) (aM : Nat) (qM : Nat → Nat) (vM : Nat → Int32) (vM_tape : Nat → Int32) (vM_letters : Nat → Int32) (vM_fresh : Nat → Int32) (vM_r : Nat → Int32) (vM_st : Nat → Int32) (x1 : Int32) (zr : Int32) (z_vM : Nat → Int32) (z_vM_letters : Nat → Int32) (z_vM_fresh : Nat → Int32) (z_vM_r : Nat → Int32) (z_vM_st : Nat → Int32) (hok : fX9_house vM vM_tape vM_letters vM_fresh vM_r vM_st x1 = some (zr, z_vM, z_vM_letters, z_vM_fresh, z_vM_r, z_vM_st)) (A : Nat → Prop) (hAe : va_A (wX9_house cy aM qM vM vM_tape vM_letters vM_fresh vM_r vM_st) sz = A) : Met l yX9_house wsX9_house ({ frames := 10, cells := 0, slots := 0, locals := 220 } : Room) (kPreS D cy ad [.ref aM, .int x1] (wX9_house cy aM qM vM vM_tape vM_letters vM_fresh vM_r vM_st) sz A) (kQi D cy zr A (wX9_house cy aM qM z_vM vM_tape z_vM_letters z_vM_fresh z_vM_r z_vM_st)) 0 0 A := by
  refine Met.ofW (cc := cX9_house) (maxL := 3) (ret := (some .int)) (by decide) rfl ?_
  intro p e s m args below meth c s₁ B hml hv
  obtain ⟨rfl, ⟨hsz, hP, hK, hD0, hN⟩, hSt⟩ := hv
  have hx := B.exec
  have hb := B.bytes
  have hr := B.returns
  have ht0 : ∀ w ∈ W0, w.before _ s = true := fun w h => atoms_spec (ws := wsX9_house) B.pre w (List.mem_cons_of_mem _ h)
  have hown : s.vm.findClass RX9 = some m.cls := findClass_of_methodNamed B.named
  have hlocks := B.notSynchronized
  subst hsz
  have hD : va_D A (wX9_house cy aM qM vM vM_tape vM_letters vM_fresh vM_r vM_st) := by rw [← hAe]; exact hD0.self
  have hA : ∀ q : Nat, s.heap.size ≤ q → A q := fun q h => by rw [← hAe]; exact Or.inr h
  have hS : va_S A s.heap s.heap [] := va_S.rf
  have hl := lv_entry ([.ref aM, .int x1]) (n := 3) (Nat.le_of_ble_eq_true rfl)
  rw [lg_entry_eq]
  generalize (lg_sl ([.ref aM, .int x1]) ++ List.replicate (3 - (lg_sl ([.ref aM, .int x1])).length) Slot.unset).toArray = ls at hl ⊢
  have hl : lv_has ls 3 [(0, .ref aM), (1, .int x1)] := hl
  generalize hQe : MQ below (kQi D cy zr A (wX9_house cy aM qM z_vM vM_tape z_vM_letters z_vM_fresh z_vM_r z_vM_st)) ([.ref aM, .int x1] : List Value).toArray s 0 0 A = Q
  have L214 : ∀ (fuel : Nat) (y2_214 : Int32) (vM_fresh_214 : Nat → Int32) (vM_letters_214 : Nat → Int32) (vM_r_214 : Nat → Int32) (vM_st_214 : Nat → Int32) (vM_214 : Nat → Int32), ∀ (H : Heap) (locs : List Loc) (ls : Array Slot), va_P D vwCl (wX9_house cy aM qM vM_214 vM_tape vM_letters_214 vM_fresh_214 vM_r_214 vM_st_214) H → va_D A (wX9_house cy aM qM vM_214 vM_tape vM_letters_214 vM_fresh_214 vM_r_214 vM_st_214) → va_S A s.heap H locs → lv_has ls 3 [(0, .ref aM), (2, .int y2_214)] → lp (fX9_house_B214) fuel (y2_214, vM_fresh_214, vM_letters_214, vM_r_214, vM_st_214, vM_214) = some (zr, z_vM, z_vM_letters, z_vM_fresh, z_vM_r, z_vM_st) → W p l e ({ frames := 10, cells := 0, slots := 0, locals := 220 } : Room) s m ([.ref aM, .int x1] : List Value).toArray below meth c H locs 0 0 Q (F0 m 214 ls []) := by
    intro fuel
    induction fuel with
    | zero => intro y2_214 vM_fresh_214 vM_letters_214 vM_r_214 vM_st_214 vM_214 H locs ls hP hD hS hl hok; exact (lp_0 hok).elim
    | succ fuel ih214 =>
      intro y2_214 vM_fresh_214 vM_letters_214 vM_r_214 vM_st_214 vM_214 H locs ls hP hD hS hl hok
      obtain ⟨y214, hok, hL214, hR214⟩ := lp_step hok
      unfold fX9_house_B214 at hok
      try dsimp only at hok
      refine lv_iload_n hx hb dX9_house_214 rfl (lv_at hl 1 rfl) ?_
      refine lv_aload_n hx hb dX9_house_215 rfl (lv_at hl 0 rfl) ?_
      refine va_get (D := D) (ci := 8) (v := .ref (qM 15)) (C := RX9) (T := TX9) (N := 29) hx hb ht0 niX9 hown hK hP 0 rfl rfl 15 (by decide) (ht0 _ wd854) (fun _ h9 => h9) rfl dX9_house_216 ?_
      refine lv_iconst (v := 3) hx hb dX9_house_219 (by decide) ?_
      obtain ⟨g220, hok⟩ := gd_some hok
      refine va_iald hx hb hK hP 4 0 rfl rfl (okI_in g220) dX9_house_220 ?_
      refine lv_icmp_ge (tgt := 249) hx hb dX9_house_221 (by decide) (fun c221 => ?_) (fun c221 => ?_)
      · have hok := k_pos c221 hok
        obtain ⟨e214, hok, he214⟩ := ex_some hok
        have hok := hok.trans (congrArg some (hL214 _ he214))
        refine lv_aload_n hx hb dX9_house_249 rfl (lv_at hl 0 rfl) ?_
        refine lv_iconst (v := 1) hx hb dX9_house_250 (by decide) ?_
        refine va_put (D := D) (ci := 8) (v := .int 1) (ty := .boolean) (C := RX9) (T := TX9) (N := 29) hx hb ht0 niX9 tyX9 tyX9_ok nmX9 hown hK hP hD hS 0 rfl rfl 14 (by decide) (ht0 _ wd855) (fun _ h9 => h9) rfl (by decide +kernel) rfl rfl (Nat.le_of_ble_eq_true rfl) dX9_house_251 (fun H locs hP hD hS => ?_)
        have hP : va_P D vwCl (wX9_house cy aM qM (upd vM_214 14 (1 : Int32)) vM_tape vM_letters_214 vM_fresh_214 vM_r_214 vM_st_214) H := hP
        have hD : va_D A (wX9_house cy aM qM (upd vM_214 14 (1 : Int32)) vM_tape vM_letters_214 vM_fresh_214 vM_r_214 vM_st_214) := hD
        refine lv_aload_n hx hb dX9_house_254 rfl (lv_at hl 0 rfl) ?_
        refine lv_iconst (v := 0) hx hb dX9_house_255 (by decide) ?_
        refine va_put (D := D) (ci := 8) (v := .int 0) (ty := .int) (C := RX9) (T := TX9) (N := 29) hx hb ht0 niX9 tyX9 tyX9_ok nmX9 hown hK hP hD hS 0 rfl rfl 20 (by decide) (ht0 _ wd856) (fun _ h9 => h9) rfl (by decide +kernel) rfl rfl (Nat.le_of_ble_eq_true rfl) dX9_house_256 (fun H locs hP hD hS => ?_)
        have hP : va_P D vwCl (wX9_house cy aM qM (upd (upd vM_214 14 (1 : Int32)) 20 (0 : Int32)) vM_tape vM_letters_214 vM_fresh_214 vM_r_214 vM_st_214) H := hP
        have hD : va_D A (wX9_house cy aM qM (upd (upd vM_214 14 (1 : Int32)) 20 (0 : Int32)) vM_tape vM_letters_214 vM_fresh_214 vM_r_214 vM_st_214) := hD
        refine lv_aload_n hx hb dX9_house_259 rfl (lv_at hl 0 rfl) ?_
        refine lv_iconst (v := 0) hx hb dX9_house_260 (by decide) ?_
        refine va_put (D := D) (ci := 8) (v := .int 0) (ty := .int) (C := RX9) (T := TX9) (N := 29) hx hb ht0 niX9 tyX9 tyX9_ok nmX9 hown hK hP hD hS 0 rfl rfl 21 (by decide) (ht0 _ wd857) (fun _ h9 => h9) rfl (by decide +kernel) rfl rfl (Nat.le_of_ble_eq_true rfl) dX9_house_261 (fun H locs hP hD hS => ?_)
        have hP : va_P D vwCl (wX9_house cy aM qM (upd (upd (upd vM_214 14 (1 : Int32)) 20 (0 : Int32)) 21 (0 : Int32)) vM_tape vM_letters_214 vM_fresh_214 vM_r_214 vM_st_214) H := hP
        have hD : va_D A (wX9_house cy aM qM (upd (upd (upd vM_214 14 (1 : Int32)) 20 (0 : Int32)) 21 (0 : Int32)) vM_tape vM_letters_214 vM_fresh_214 vM_r_214 vM_st_214) := hD
        refine lv_aload_n hx hb dX9_house_264 rfl (lv_at hl 0 rfl) ?_
        refine va_get (D := D) (ci := 8) (v := .ref (qM 15)) (C := RX9) (T := TX9) (N := 29) hx hb ht0 niX9 hown hK hP 0 rfl rfl 15 (by decide) (ht0 _ wd854) (fun _ h9 => h9) rfl dX9_house_265 ?_
        refine lv_iconst (v := 2) hx hb dX9_house_268 (by decide) ?_
        obtain ⟨g269, hok⟩ := gd_some hok
        refine va_iald hx hb hK hP 4 0 rfl rfl (okI_in g269) dX9_house_269 ?_
        cases hok
        subst hQe; exact W.iret hx hb hr (fun t ht hW => ⟨⟨_, (), rfl, rfl, by rw [ht]; exact hP, va_K.moved hW.alike hK, hD⟩, hS.F ht⟩) hS.2.2 dX9_house_270
      · have hok := k_neg c221 hok
        refine lv_aload_n hx hb dX9_house_224 rfl (lv_at hl 0 rfl) ?_
        refine va_get (D := D) (ci := 8) (v := .ref (qM 17)) (C := RX9) (T := TX9) (N := 29) hx hb ht0 niX9 hown hK hP 0 rfl rfl 17 (by decide) (ht0 _ wd858) (fun _ h9 => h9) rfl dX9_house_225 ?_
        refine lv_iload_n hx hb dX9_house_228 rfl (lv_at hl 1 rfl) ?_
        refine lv_aload_n hx hb dX9_house_229 rfl (lv_at hl 0 rfl) ?_
        refine va_get (D := D) (ci := 8) (v := .ref (qM 15)) (C := RX9) (T := TX9) (N := 29) hx hb ht0 niX9 hown hK hP 0 rfl rfl 15 (by decide) (ht0 _ wd854) (fun _ h9 => h9) rfl dX9_house_230 ?_
        refine lv_bipush (v := 62) hx hb dX9_house_233 (by decide) ?_
        refine lv_iconst (v := 3) hx hb dX9_house_235 (by decide) ?_
        refine lv_iload_n hx hb dX9_house_236 rfl (lv_at hl 1 rfl) ?_
        refine lv_imul hx hb dX9_house_237 ?_
        refine lv_iadd hx hb dX9_house_238 ?_
        refine lv_iconst (v := 1) hx hb dX9_house_239 (by decide) ?_
        refine lv_iadd hx hb dX9_house_240 ?_
        obtain ⟨g241, hok⟩ := gd_some hok
        refine va_iald hx hb hK hP 4 0 rfl rfl (okI_in g241) dX9_house_241 ?_
        obtain ⟨g242, hok⟩ := gd_some hok
        refine va_iast hx hb hK hP hD hS 5 0 rfl rfl (okI_in g242) dX9_house_242 (fun H locs hP hD hS => ?_)
        have hP : va_P D vwCl (wX9_house cy aM qM vM_214 vM_tape vM_letters_214 vM_fresh_214 vM_r_214 (upd vM_st_214 y2_214.toNatClampNeg (vM_r_214 (((62 : Int32) + ((3 : Int32) * y2_214)) + (1 : Int32)).toNatClampNeg))) H := hP
        have hD : va_D A (wX9_house cy aM qM vM_214 vM_tape vM_letters_214 vM_fresh_214 vM_r_214 (upd vM_st_214 y2_214.toNatClampNeg (vM_r_214 (((62 : Int32) + ((3 : Int32) * y2_214)) + (1 : Int32)).toNatClampNeg))) := hD
        refine lv_iinc (v := (y2_214 + 1)) (lv' := [(2, .int (y2_214 + 1)), (0, .ref aM)]) hx hb dX9_house_243 hl (k := 1) rfl (by first | rfl | decide) (by decide) rfl (fun ls hl => ?_)
        refine lv_goto (tgt := 214) hx hb dX9_house_246 (by decide) ?_
        exact ih214 (y2_214 + 1) vM_fresh_214 vM_letters_214 vM_r_214 (upd vM_st_214 y2_214.toNatClampNeg (vM_r_214 (((62 : Int32) + ((3 : Int32) * y2_214)) + (1 : Int32)).toNatClampNeg)) vM_214 H locs ls hP hD hS (lv_sub hl [1, 0] rfl) (hR214 _ (Option.some.inj hok).symm)
  have L193 : ∀ (fuel : Nat) (y2_193 : Int32) (vM_fresh_193 : Nat → Int32) (vM_letters_193 : Nat → Int32) (vM_r_193 : Nat → Int32) (vM_st_193 : Nat → Int32) (vM_193 : Nat → Int32), ∀ (H : Heap) (locs : List Loc) (ls : Array Slot), va_P D vwCl (wX9_house cy aM qM vM_193 vM_tape vM_letters_193 vM_fresh_193 vM_r_193 vM_st_193) H → va_D A (wX9_house cy aM qM vM_193 vM_tape vM_letters_193 vM_fresh_193 vM_r_193 vM_st_193) → va_S A s.heap H locs → lv_has ls 3 [(0, .ref aM), (2, .int y2_193)] → lp (fX9_house_B193) fuel (y2_193, vM_fresh_193, vM_letters_193, vM_r_193, vM_st_193, vM_193) = some (zr, z_vM, z_vM_letters, z_vM_fresh, z_vM_r, z_vM_st) → W p l e ({ frames := 10, cells := 0, slots := 0, locals := 220 } : Room) s m ([.ref aM, .int x1] : List Value).toArray below meth c H locs 0 0 Q (F0 m 193 ls []) := by
    intro fuel
    induction fuel with
    | zero => intro y2_193 vM_fresh_193 vM_letters_193 vM_r_193 vM_st_193 vM_193 H locs ls hP hD hS hl hok; exact (lp_0 hok).elim
    | succ fuel ih193 =>
      intro y2_193 vM_fresh_193 vM_letters_193 vM_r_193 vM_st_193 vM_193 H locs ls hP hD hS hl hok
      obtain ⟨y193, hok, hL193, hR193⟩ := lp_step hok
      unfold fX9_house_B193 at hok
      try dsimp only at hok
      refine lv_iload_n hx hb dX9_house_193 rfl (lv_at hl 1 rfl) ?_
      refine lv_bipush (v := 9) hx hb dX9_house_194 (by decide) ?_
      refine lv_icmp_ge (tgt := 212) hx hb dX9_house_196 (by decide) (fun c196 => ?_) (fun c196 => ?_)
      · have hok := k_pos c196 hok
        obtain ⟨e193, hok, he193⟩ := ex_some hok
        have hok := hok.trans (congrArg some (hL193 _ he193))
        refine lv_iconst (v := 0) hx hb dX9_house_212 (by decide) ?_
        refine lv_istore_n (lv' := [(2, .int 0), (0, .ref aM)]) hx hb dX9_house_213 rfl hl (by decide) rfl (fun ls hl => ?_)
        exact L214 5000 (0 : Int32) vM_fresh_193 vM_letters_193 vM_r_193 vM_st_193 vM_193 H locs ls hP hD hS (lv_sub hl [1, 0] rfl) hok
      · have hok := k_neg c196 hok
        refine lv_aload_n hx hb dX9_house_199 rfl (lv_at hl 0 rfl) ?_
        refine va_get (D := D) (ci := 8) (v := .ref (qM 17)) (C := RX9) (T := TX9) (N := 29) hx hb ht0 niX9 hown hK hP 0 rfl rfl 17 (by decide) (ht0 _ wd858) (fun _ h9 => h9) rfl dX9_house_200 ?_
        refine lv_iload_n hx hb dX9_house_203 rfl (lv_at hl 1 rfl) ?_
        refine lv_iconst (v := 0) hx hb dX9_house_204 (by decide) ?_
        obtain ⟨g205, hok⟩ := gd_some hok
        refine va_iast hx hb hK hP hD hS 5 0 rfl rfl (okI_in g205) dX9_house_205 (fun H locs hP hD hS => ?_)
        have hP : va_P D vwCl (wX9_house cy aM qM vM_193 vM_tape vM_letters_193 vM_fresh_193 vM_r_193 (upd vM_st_193 y2_193.toNatClampNeg (0 : Int32))) H := hP
        have hD : va_D A (wX9_house cy aM qM vM_193 vM_tape vM_letters_193 vM_fresh_193 vM_r_193 (upd vM_st_193 y2_193.toNatClampNeg (0 : Int32))) := hD
        refine lv_iinc (v := (y2_193 + 1)) (lv' := [(2, .int (y2_193 + 1)), (0, .ref aM)]) hx hb dX9_house_206 hl (k := 1) rfl (by first | rfl | decide) (by decide) rfl (fun ls hl => ?_)
        refine lv_goto (tgt := 193) hx hb dX9_house_209 (by decide) ?_
        exact ih193 (y2_193 + 1) vM_fresh_193 vM_letters_193 vM_r_193 (upd vM_st_193 y2_193.toNatClampNeg (0 : Int32)) vM_193 H locs ls hP hD hS (lv_sub hl [1, 0] rfl) (hR193 _ (Option.some.inj hok).symm)
  have J162 : ∀ (vM_fresh_162 : Nat → Int32) (vM_letters_162 : Nat → Int32) (vM_162 : Nat → Int32), ∀ (H : Heap) (locs : List Loc) (ls : Array Slot), va_P D vwCl (wX9_house cy aM qM vM_162 vM_tape vM_letters_162 vM_fresh_162 vM_r vM_st) H → va_D A (wX9_house cy aM qM vM_162 vM_tape vM_letters_162 vM_fresh_162 vM_r vM_st) → va_S A s.heap H locs → lv_has ls 3 [(0, .ref aM)] → fX9_house_J162 vM_r vM_st vM_fresh_162 vM_letters_162 vM_162 = some (zr, z_vM, z_vM_letters, z_vM_fresh, z_vM_r, z_vM_st) → W p l e ({ frames := 10, cells := 0, slots := 0, locals := 220 } : Room) s m ([.ref aM, .int x1] : List Value).toArray below meth c H locs 0 0 Q (F0 m 162 ls []) := by
    intro vM_fresh_162 vM_letters_162 vM_162 H locs ls hP hD hS hl hok
    unfold fX9_house_J162 at hok
    refine lv_aload_n hx hb dX9_house_162 rfl (lv_at hl 0 rfl) ?_
    refine va_get (D := D) (ci := 8) (v := .int (vM_162 13)) (C := RX9) (T := TX9) (N := 29) hx hb ht0 niX9 hown hK hP 0 rfl rfl 13 (by decide) (ht0 _ wd757) (fun _ h9 => h9) rfl dX9_house_163 ?_
    refine lv_if_eq (tgt := 175) hx hb dX9_house_166 (by decide) (fun c166 => ?_) (fun c166 => ?_)
    · have hok := k_pos c166 hok
      refine lv_aload_n hx hb dX9_house_175 rfl (lv_at hl 0 rfl) ?_
      refine va_get (D := D) (ci := 8) (v := .ref (qM 16)) (C := RX9) (T := TX9) (N := 29) hx hb ht0 niX9 hown hK hP 0 rfl rfl 16 (by decide) (ht0 _ wd778) (fun _ h9 => h9) rfl dX9_house_176 ?_
      refine lv_iconst (v := 0) hx hb dX9_house_179 (by decide) ?_
      refine lv_aload_n hx hb dX9_house_180 rfl (lv_at hl 0 rfl) ?_
      refine va_get (D := D) (ci := 8) (v := .ref (qM 15)) (C := RX9) (T := TX9) (N := 29) hx hb ht0 niX9 hown hK hP 0 rfl rfl 15 (by decide) (ht0 _ wd854) (fun _ h9 => h9) rfl dX9_house_181 ?_
      refine lv_iconst (v := 0) hx hb dX9_house_184 (by decide) ?_
      refine lv_sipush (v := 224) hx hb dX9_house_185 (by decide) ?_
      obtain ⟨p2_188, hc188, hok⟩ := k_bind hok
      refine kCv (wc := (wX9_copy cy (qM 16) (qM 15) 224 vM_fresh_162 224 vM_r)) (wc2 := (wX9_copy cy (qM 16) (qM 15) 224 vM_fresh_162 224 p2_188)) (wr := [(aM, oX9 vM_162 qM), (qM 1, rI cy 900 vM_tape), (qM 12, rI cy 8 vM_letters_162), (qM 17, rI cy 9 vM_st)]) (ws2 := (wX9_house cy aM qM vM_162 vM_tape vM_letters_162 vM_fresh_162 p2_188 vM_st)) (kRunS (As := [.ref (qM 16), .int 0, .ref (qM 15), .int 0, .int 224]) (rest := []) ⟨hx, hb, hml, hown, ht0⟩ (kX9_copy l D cy _ (qM 16) (qM 15) 224 vM_fresh_162 224 vM_r (0 : Int32) (0 : Int32) (224 : Int32) p2_188 hc188 _ rfl) (va_cwS 5 ht0 (gS wd859 wd860 wd744 wd861) rfl rfl rfl (by decide +kernel) ⟨Nat.le_of_ble_eq_true rfl, Nat.le_of_ble_eq_true rfl⟩) hK hN hP hD [3, 4] rfl (by decide) rfl hl.1 rfl (Nat.le_of_ble_eq_true rfl) dX9_house_188 ⟨Nat.zero_le _, Nat.zero_le _⟩) hP hD hS hA [3, 4] [0, 1, 2, 5] rfl rfl (by decide) (by decide) [0, 1, 2, 4, 5, 3] (by decide) rfl rfl (fun H locs hP hD hS => ?_)
      refine lv_iconst (v := 0) hx hb dX9_house_191 (by decide) ?_
      refine lv_istore_n (lv' := [(2, .int 0), (0, .ref aM)]) hx hb dX9_house_192 rfl hl (by decide) rfl (fun ls hl => ?_)
      exact L193 5000 (0 : Int32) vM_fresh_162 vM_letters_162 p2_188 vM_st vM_162 H locs ls hP hD hS (lv_sub hl [1, 0] rfl) hok
    · have hok := k_neg c166 hok
      refine lv_aload_n hx hb dX9_house_169 rfl (lv_at hl 0 rfl) ?_
      refine lv_iconst (v := 4) hx hb dX9_house_170 (by decide) ?_
      obtain ⟨⟨r171, vM_171⟩, hc171, hok⟩ := k_bind hok
      try dsimp only at hok
      refine kCi (wc := (wX9_no cy aM qM vM_162)) (wc2 := (wX9_no cy aM qM vM_171)) (wr := [(qM 1, rI cy 900 vM_tape), (qM 12, rI cy 8 vM_letters_162), (qM 16, rI cy 224 vM_fresh_162), (qM 15, rI cy 224 vM_r), (qM 17, rI cy 9 vM_st)]) (ws2 := (wX9_house cy aM qM vM_171 vM_tape vM_letters_162 vM_fresh_162 vM_r vM_st)) (kRunV (As := [.int 4]) (rest := []) ⟨hx, hb, hml, hown, ht0⟩ (kX9_no l D cy _ aM qM vM_162 (4 : Int32) r171 vM_171 hc171 _ rfl) (cwV 1 ht0 (gV wd862 wd863 wd864 wd744 wd865) rfl rfl rfl (by decide +kernel) ⟨Nat.le_of_ble_eq_true rfl, Nat.le_of_ble_eq_true rfl⟩) hK hN hP hD [0] rfl (by decide) 0 8 rfl rfl rfl hl.1 rfl (Nat.le_of_ble_eq_true rfl) dX9_house_171 ⟨Nat.zero_le _, Nat.zero_le _⟩) hP hD hS hA [0] [1, 2, 3, 4, 5] rfl rfl (by decide) (by decide) [5, 0, 1, 2, 3, 4] (by decide) rfl rfl (fun H locs hP hD hS => ?_)
      cases hok
      subst hQe; exact W.iret hx hb hr (fun t ht hW => ⟨⟨_, (), rfl, rfl, by rw [ht]; exact hP, va_K.moved hW.alike hK, hD⟩, hS.F ht⟩) hS.2.2 dX9_house_174
  have J152 : ∀ (vM_fresh_152 : Nat → Int32) (vM_letters_152 : Nat → Int32) (vM_152 : Nat → Int32), ∀ (H : Heap) (locs : List Loc) (ls : Array Slot), va_P D vwCl (wX9_house cy aM qM vM_152 vM_tape vM_letters_152 vM_fresh_152 vM_r vM_st) H → va_D A (wX9_house cy aM qM vM_152 vM_tape vM_letters_152 vM_fresh_152 vM_r vM_st) → va_S A s.heap H locs → lv_has ls 3 [(0, .ref aM)] → fX9_house_J152 vM_r vM_st vM_fresh_152 vM_letters_152 vM_152 = some (zr, z_vM, z_vM_letters, z_vM_fresh, z_vM_r, z_vM_st) → W p l e ({ frames := 10, cells := 0, slots := 0, locals := 220 } : Room) s m ([.ref aM, .int x1] : List Value).toArray below meth c H locs 0 0 Q (F0 m 152 ls []) := by
    intro vM_fresh_152 vM_letters_152 vM_152 H locs ls hP hD hS hl hok
    unfold fX9_house_J152 at hok
    refine lv_aload_n hx hb dX9_house_152 rfl (lv_at hl 0 rfl) ?_
    refine lv_bipush (v := 6) hx hb dX9_house_153 (by decide) ?_
    refine lv_aload_n hx hb dX9_house_155 rfl (lv_at hl 0 rfl) ?_
    refine va_get (D := D) (ci := 8) (v := .int (vM_152 4)) (C := RX9) (T := TX9) (N := 29) hx hb ht0 niX9 hown hK hP 0 rfl rfl 4 (by decide) (ht0 _ wd756) (fun _ h9 => h9) rfl dX9_house_156 ?_
    obtain ⟨vM_159, hc159, hok⟩ := k_bind hok
    refine kCv (wc := (wX9_wrong cy aM qM vM_152)) (wc2 := (wX9_wrong cy aM qM vM_159)) (wr := [(qM 1, rI cy 900 vM_tape), (qM 12, rI cy 8 vM_letters_152), (qM 16, rI cy 224 vM_fresh_152), (qM 15, rI cy 224 vM_r), (qM 17, rI cy 9 vM_st)]) (ws2 := (wX9_house cy aM qM vM_159 vM_tape vM_letters_152 vM_fresh_152 vM_r vM_st)) (kRunV (As := [.int 6, .int (vM_152 4)]) (rest := []) ⟨hx, hb, hml, hown, ht0⟩ (kX9_wrong l D cy _ aM qM vM_152 (6 : Int32) (vM_152 4) vM_159 hc159 _ rfl) (cwV 2 ht0 (gV wd774 wd775 wd776 wd744 wd777) rfl rfl rfl (by decide +kernel) ⟨Nat.le_of_ble_eq_true rfl, Nat.le_of_ble_eq_true rfl⟩) hK hN hP hD [0] rfl (by decide) 0 8 rfl rfl rfl hl.1 rfl (Nat.le_of_ble_eq_true rfl) dX9_house_159 ⟨Nat.zero_le _, Nat.zero_le _⟩) hP hD hS hA [0] [1, 2, 3, 4, 5] rfl rfl (by decide) (by decide) [5, 0, 1, 2, 3, 4] (by decide) rfl rfl (fun H locs hP hD hS => ?_)
    exact J162 vM_fresh_152 vM_letters_152 vM_159 H locs ls hP hD hS (lv_sub hl [0] rfl) hok
  have J127 : ∀ (vM_fresh_127 : Nat → Int32) (vM_letters_127 : Nat → Int32) (vM_127 : Nat → Int32), ∀ (H : Heap) (locs : List Loc) (ls : Array Slot), va_P D vwCl (wX9_house cy aM qM vM_127 vM_tape vM_letters_127 vM_fresh_127 vM_r vM_st) H → va_D A (wX9_house cy aM qM vM_127 vM_tape vM_letters_127 vM_fresh_127 vM_r vM_st) → va_S A s.heap H locs → lv_has ls 3 [(0, .ref aM)] → fX9_house_J127 vM_r vM_st vM_fresh_127 vM_letters_127 vM_127 = some (zr, z_vM, z_vM_letters, z_vM_fresh, z_vM_r, z_vM_st) → W p l e ({ frames := 10, cells := 0, slots := 0, locals := 220 } : Room) s m ([.ref aM, .int x1] : List Value).toArray below meth c H locs 0 0 Q (F0 m 127 ls []) := by
    intro vM_fresh_127 vM_letters_127 vM_127 H locs ls hP hD hS hl hok
    unfold fX9_house_J127 at hok
    refine lv_aload_n hx hb dX9_house_127 rfl (lv_at hl 0 rfl) ?_
    refine va_get (D := D) (ci := 8) (v := .int (vM_127 13)) (C := RX9) (T := TX9) (N := 29) hx hb ht0 niX9 hown hK hP 0 rfl rfl 13 (by decide) (ht0 _ wd757) (fun _ h9 => h9) rfl dX9_house_128 ?_
    refine lv_if_ne (tgt := 162) hx hb dX9_house_131 (by decide) (fun c131 => ?_) (fun c131 => ?_)
    · have hok := k_neg c131 hok
      exact J162 vM_fresh_127 vM_letters_127 vM_127 H locs ls hP hD hS (lv_sub hl [0] rfl) hok
    · have hok := k_pos c131 hok
      refine lv_aload_n hx hb dX9_house_134 rfl (lv_at hl 0 rfl) ?_
      refine va_get (D := D) (ci := 8) (v := .ref (qM 16)) (C := RX9) (T := TX9) (N := 29) hx hb ht0 niX9 hown hK hP 0 rfl rfl 16 (by decide) (ht0 _ wd778) (fun _ h9 => h9) rfl dX9_house_135 ?_
      refine lv_iconst (v := 0) hx hb dX9_house_138 (by decide) ?_
      obtain ⟨g139, hok⟩ := gd_some hok
      refine va_iald hx hb hK hP 3 0 rfl rfl (okI_in g139) dX9_house_139 ?_
      refine lv_if_eq (tgt := 152) hx hb dX9_house_140 (by decide) (fun c140 => ?_) (fun c140 => ?_)
      · have hok := k_pos c140 hok
        exact J152 vM_fresh_127 vM_letters_127 vM_127 H locs ls hP hD hS (lv_sub hl [0] rfl) hok
      · have hok := k_neg c140 hok
        refine lv_aload_n hx hb dX9_house_143 rfl (lv_at hl 0 rfl) ?_
        refine va_get (D := D) (ci := 8) (v := .ref (qM 16)) (C := RX9) (T := TX9) (N := 29) hx hb ht0 niX9 hown hK hP 0 rfl rfl 16 (by decide) (ht0 _ wd778) (fun _ h9 => h9) rfl dX9_house_144 ?_
        refine lv_iconst (v := 2) hx hb dX9_house_147 (by decide) ?_
        obtain ⟨g148, hok⟩ := gd_some hok
        refine va_iald hx hb hK hP 3 0 rfl rfl (okI_in g148) dX9_house_148 ?_
        refine lv_if_ne (tgt := 162) hx hb dX9_house_149 (by decide) (fun c149 => ?_) (fun c149 => ?_)
        · have hok := k_neg c149 hok
          exact J162 vM_fresh_127 vM_letters_127 vM_127 H locs ls hP hD hS (lv_sub hl [0] rfl) hok
        · have hok := k_pos c149 hok
          exact J152 vM_fresh_127 vM_letters_127 vM_127 H locs ls hP hD hS (lv_sub hl [0] rfl) hok
  have J104 : ∀ (vM_fresh_104 : Nat → Int32) (vM_letters_104 : Nat → Int32) (vM_104 : Nat → Int32), ∀ (H : Heap) (locs : List Loc) (ls : Array Slot), va_P D vwCl (wX9_house cy aM qM vM_104 vM_tape vM_letters_104 vM_fresh_104 vM_r vM_st) H → va_D A (wX9_house cy aM qM vM_104 vM_tape vM_letters_104 vM_fresh_104 vM_r vM_st) → va_S A s.heap H locs → lv_has ls 3 [(0, .ref aM)] → fX9_house_J104 vM_r vM_st vM_fresh_104 vM_letters_104 vM_104 = some (zr, z_vM, z_vM_letters, z_vM_fresh, z_vM_r, z_vM_st) → W p l e ({ frames := 10, cells := 0, slots := 0, locals := 220 } : Room) s m ([.ref aM, .int x1] : List Value).toArray below meth c H locs 0 0 Q (F0 m 104 ls []) := by
    intro vM_fresh_104 vM_letters_104 vM_104 H locs ls hP hD hS hl hok
    unfold fX9_house_J104 at hok
    refine lv_aload_n hx hb dX9_house_104 rfl (lv_at hl 0 rfl) ?_
    refine va_get (D := D) (ci := 8) (v := .int (vM_104 13)) (C := RX9) (T := TX9) (N := 29) hx hb ht0 niX9 hown hK hP 0 rfl rfl 13 (by decide) (ht0 _ wd757) (fun _ h9 => h9) rfl dX9_house_105 ?_
    refine lv_if_ne (tgt := 127) hx hb dX9_house_108 (by decide) (fun c108 => ?_) (fun c108 => ?_)
    · have hok := k_neg c108 hok
      exact J127 vM_fresh_104 vM_letters_104 vM_104 H locs ls hP hD hS (lv_sub hl [0] rfl) hok
    · have hok := k_pos c108 hok
      refine lv_aload_n hx hb dX9_house_111 rfl (lv_at hl 0 rfl) ?_
      refine va_get (D := D) (ci := 8) (v := .int (vM_104 6)) (C := RX9) (T := TX9) (N := 29) hx hb ht0 niX9 hown hK hP 0 rfl rfl 6 (by decide) (ht0 _ wd740) (fun _ h9 => h9) rfl dX9_house_112 ?_
      refine lv_if_eq (tgt := 127) hx hb dX9_house_115 (by decide) (fun c115 => ?_) (fun c115 => ?_)
      · have hok := k_pos c115 hok
        exact J127 vM_fresh_104 vM_letters_104 vM_104 H locs ls hP hD hS (lv_sub hl [0] rfl) hok
      · have hok := k_neg c115 hok
        refine lv_aload_n hx hb dX9_house_118 rfl (lv_at hl 0 rfl) ?_
        refine lv_iconst (v := 1) hx hb dX9_house_119 (by decide) ?_
        refine lv_aload_n hx hb dX9_house_120 rfl (lv_at hl 0 rfl) ?_
        refine va_get (D := D) (ci := 8) (v := .int (vM_104 4)) (C := RX9) (T := TX9) (N := 29) hx hb ht0 niX9 hown hK hP 0 rfl rfl 4 (by decide) (ht0 _ wd756) (fun _ h9 => h9) rfl dX9_house_121 ?_
        obtain ⟨vM_124, hc124, hok⟩ := k_bind hok
        refine kCv (wc := (wX9_wrong cy aM qM vM_104)) (wc2 := (wX9_wrong cy aM qM vM_124)) (wr := [(qM 1, rI cy 900 vM_tape), (qM 12, rI cy 8 vM_letters_104), (qM 16, rI cy 224 vM_fresh_104), (qM 15, rI cy 224 vM_r), (qM 17, rI cy 9 vM_st)]) (ws2 := (wX9_house cy aM qM vM_124 vM_tape vM_letters_104 vM_fresh_104 vM_r vM_st)) (kRunV (As := [.int 1, .int (vM_104 4)]) (rest := []) ⟨hx, hb, hml, hown, ht0⟩ (kX9_wrong l D cy _ aM qM vM_104 (1 : Int32) (vM_104 4) vM_124 hc124 _ rfl) (cwV 2 ht0 (gV wd774 wd775 wd776 wd744 wd777) rfl rfl rfl (by decide +kernel) ⟨Nat.le_of_ble_eq_true rfl, Nat.le_of_ble_eq_true rfl⟩) hK hN hP hD [0] rfl (by decide) 0 8 rfl rfl rfl hl.1 rfl (Nat.le_of_ble_eq_true rfl) dX9_house_124 ⟨Nat.zero_le _, Nat.zero_le _⟩) hP hD hS hA [0] [1, 2, 3, 4, 5] rfl rfl (by decide) (by decide) [5, 0, 1, 2, 3, 4] (by decide) rfl rfl (fun H locs hP hD hS => ?_)
        exact J127 vM_fresh_104 vM_letters_104 vM_124 H locs ls hP hD hS (lv_sub hl [0] rfl) hok
  have L77 : ∀ (fuel : Nat) (vM_fresh_77 : Nat → Int32) (vM_letters_77 : Nat → Int32) (vM_77 : Nat → Int32), ∀ (H : Heap) (locs : List Loc) (ls : Array Slot), va_P D vwCl (wX9_house cy aM qM vM_77 vM_tape vM_letters_77 vM_fresh_77 vM_r vM_st) H → va_D A (wX9_house cy aM qM vM_77 vM_tape vM_letters_77 vM_fresh_77 vM_r vM_st) → va_S A s.heap H locs → lv_has ls 3 [(0, .ref aM)] → lp (fX9_house_B77 vM_tape vM_r vM_st) fuel (vM_fresh_77, vM_letters_77, vM_77) = some (zr, z_vM, z_vM_letters, z_vM_fresh, z_vM_r, z_vM_st) → W p l e ({ frames := 10, cells := 0, slots := 0, locals := 220 } : Room) s m ([.ref aM, .int x1] : List Value).toArray below meth c H locs 0 0 Q (F0 m 77 ls []) := by
    intro fuel
    induction fuel with
    | zero => intro vM_fresh_77 vM_letters_77 vM_77 H locs ls hP hD hS hl hok; exact (lp_0 hok).elim
    | succ fuel ih77 =>
      intro vM_fresh_77 vM_letters_77 vM_77 H locs ls hP hD hS hl hok
      obtain ⟨y77, hok, hL77, hR77⟩ := lp_step hok
      unfold fX9_house_B77 at hok
      try dsimp only at hok
      refine lv_aload_n hx hb dX9_house_77 rfl (lv_at hl 0 rfl) ?_
      refine va_get (D := D) (ci := 8) (v := .int (vM_77 13)) (C := RX9) (T := TX9) (N := 29) hx hb ht0 niX9 hown hK hP 0 rfl rfl 13 (by decide) (ht0 _ wd757) (fun _ h9 => h9) rfl dX9_house_78 ?_
      refine lv_if_ne (tgt := 104) hx hb dX9_house_81 (by decide) (fun c81 => ?_) (fun c81 => ?_)
      · have hok := k_neg c81 hok
        obtain ⟨e77, hok, he77⟩ := ex_some hok
        have hok := hok.trans (congrArg some (hL77 _ he77))
        exact J104 vM_fresh_77 vM_letters_77 vM_77 H locs ls hP hD hS (lv_sub hl [0] rfl) hok
      · have hok := k_pos c81 hok
        refine lv_aload_n hx hb dX9_house_84 rfl (lv_at hl 0 rfl) ?_
        refine va_get (D := D) (ci := 8) (v := .int (vM_77 6)) (C := RX9) (T := TX9) (N := 29) hx hb ht0 niX9 hown hK hP 0 rfl rfl 6 (by decide) (ht0 _ wd740) (fun _ h9 => h9) rfl dX9_house_85 ?_
        refine lv_bipush (v := 59) hx hb dX9_house_88 (by decide) ?_
        refine lv_icmp_ne (tgt := 104) hx hb dX9_house_90 (by decide) (fun c90 => ?_) (fun c90 => ?_)
        · have hok := k_neg c90 hok
          obtain ⟨e77, hok, he77⟩ := ex_some hok
          have hok := hok.trans (congrArg some (hL77 _ he77))
          exact J104 vM_fresh_77 vM_letters_77 vM_77 H locs ls hP hD hS (lv_sub hl [0] rfl) hok
        · have hok := k_pos c90 hok
          refine lv_aload_n hx hb dX9_house_93 rfl (lv_at hl 0 rfl) ?_
          obtain ⟨⟨vM_94, vM_letters_94⟩, hc94, hok⟩ := k_bind hok
          try dsimp only at hok
          refine kCv (wc := (wX9_next cy aM qM vM_77 vM_tape vM_letters_77)) (wc2 := (wX9_next cy aM qM vM_94 vM_tape vM_letters_94)) (wr := [(qM 16, rI cy 224 vM_fresh_77), (qM 15, rI cy 224 vM_r), (qM 17, rI cy 9 vM_st)]) (ws2 := (wX9_house cy aM qM vM_94 vM_tape vM_letters_94 vM_fresh_77 vM_r vM_st)) (kRunV (As := []) (rest := []) ⟨hx, hb, hml, hown, ht0⟩ (kX9_next l D cy _ aM qM vM_77 vM_tape vM_letters_77 vM_94 vM_letters_94 hc94 _ rfl) (cwV 0 ht0 (gV wd766 wd767 wd768 wd744 wd769) rfl rfl rfl (by decide +kernel) ⟨Nat.le_of_ble_eq_true rfl, Nat.le_of_ble_eq_true rfl⟩) hK hN hP hD [0, 1, 2] rfl (by decide) 0 8 rfl rfl rfl hl.1 rfl (Nat.le_of_ble_eq_true rfl) dX9_house_94 ⟨Nat.zero_le _, Nat.zero_le _⟩) hP hD hS hA [0, 1, 2] [3, 4, 5] rfl rfl (by decide) (by decide) [3, 4, 5, 0, 1, 2] (by decide) rfl rfl (fun H locs hP hD hS => ?_)
          refine lv_aload_n hx hb dX9_house_97 rfl (lv_at hl 0 rfl) ?_
          obtain ⟨⟨vM_98, vM_letters_98, vM_fresh_98⟩, hc98, hok⟩ := k_bind hok
          try dsimp only at hok
          refine kCv (wc := (wX9_readLine cy aM qM vM_94 vM_letters_94 vM_fresh_77 vM_tape)) (wc2 := (wX9_readLine cy aM qM vM_98 vM_letters_98 vM_fresh_98 vM_tape)) (wr := [(qM 15, rI cy 224 vM_r), (qM 17, rI cy 9 vM_st)]) (ws2 := (wX9_house cy aM qM vM_98 vM_tape vM_letters_98 vM_fresh_98 vM_r vM_st)) (kRunVS (As := []) (rest := []) ⟨hx, hb, hml, hown, ht0⟩ (kX9_readLine l D cy ad _ aM qM vM_94 vM_letters_94 vM_fresh_77 vM_tape vM_98 vM_letters_98 vM_fresh_98 hc98 _ rfl) (cwV 0 ht0 (gV wd866 wd867 wd868 wd744 wd869) rfl rfl rfl (by decide +kernel) ⟨Nat.le_of_ble_eq_true rfl, Nat.le_of_ble_eq_true rfl⟩) hK hN hP hD hSt hS hA [0, 2, 3, 1] rfl (by decide) 0 8 rfl rfl rfl hl.1 rfl (Nat.le_of_ble_eq_true rfl) dX9_house_98 ⟨Nat.zero_le _, Nat.zero_le _⟩) hP hD hS hA [0, 2, 3, 1] [4, 5] rfl rfl (by decide) (by decide) [2, 5, 3, 4, 0, 1] (by decide) rfl rfl (fun H locs hP hD hS => ?_)
          refine lv_goto (tgt := 77) hx hb dX9_house_101 (by decide) ?_
          exact ih77 vM_fresh_98 vM_letters_98 vM_98 H locs ls hP hD hS (lv_sub hl [0] rfl) (hR77 _ (Option.some.inj hok).symm)
  have L39 : ∀ (fuel : Nat) (y2_39 : Int32) (vM_fresh_39 : Nat → Int32) (vM_39 : Nat → Int32), ∀ (H : Heap) (locs : List Loc) (ls : Array Slot), va_P D vwCl (wX9_house cy aM qM vM_39 vM_tape vM_letters vM_fresh_39 vM_r vM_st) H → va_D A (wX9_house cy aM qM vM_39 vM_tape vM_letters vM_fresh_39 vM_r vM_st) → va_S A s.heap H locs → lv_has ls 3 [(0, .ref aM), (1, .int x1), (2, .int y2_39)] → lp (fX9_house_B39 vM_tape vM_letters vM_r vM_st x1) fuel (y2_39, vM_fresh_39, vM_39) = some (zr, z_vM, z_vM_letters, z_vM_fresh, z_vM_r, z_vM_st) → W p l e ({ frames := 10, cells := 0, slots := 0, locals := 220 } : Room) s m ([.ref aM, .int x1] : List Value).toArray below meth c H locs 0 0 Q (F0 m 39 ls []) := by
    intro fuel
    induction fuel with
    | zero => intro y2_39 vM_fresh_39 vM_39 H locs ls hP hD hS hl hok; exact (lp_0 hok).elim
    | succ fuel ih39 =>
      intro y2_39 vM_fresh_39 vM_39 H locs ls hP hD hS hl hok
      obtain ⟨y39, hok, hL39, hR39⟩ := lp_step hok
      unfold fX9_house_B39 at hok
      try dsimp only at hok
      refine lv_iload_n hx hb dX9_house_39 rfl (lv_at hl 2 rfl) ?_
      refine lv_sipush (v := 224) hx hb dX9_house_40 (by decide) ?_
      refine lv_icmp_ge (tgt := 59) hx hb dX9_house_43 (by decide) (fun c43 => ?_) (fun c43 => ?_)
      · have hok := k_pos c43 hok
        obtain ⟨e39, hok, he39⟩ := ex_some hok
        have hok := hok.trans (congrArg some (hL39 _ he39))
        refine lv_aload_n hx hb dX9_house_59 rfl (lv_at hl 0 rfl) ?_
        refine lv_iload_n hx hb dX9_house_60 rfl (lv_at hl 1 rfl) ?_
        refine va_put (D := D) (ci := 8) (v := .int x1) (ty := .int) (C := RX9) (T := TX9) (N := 29) hx hb ht0 niX9 tyX9 tyX9_ok nmX9 hown hK hP hD hS 0 rfl rfl 3 (by decide) (ht0 _ wd739) (fun _ h9 => h9) rfl (by decide +kernel) rfl rfl (Nat.le_of_ble_eq_true rfl) dX9_house_61 (fun H locs hP hD hS => ?_)
        have hP : va_P D vwCl (wX9_house cy aM qM (upd vM_39 3 x1) vM_tape vM_letters vM_fresh_39 vM_r vM_st) H := hP
        have hD : va_D A (wX9_house cy aM qM (upd vM_39 3 x1) vM_tape vM_letters vM_fresh_39 vM_r vM_st) := hD
        refine lv_aload_n hx hb dX9_house_64 rfl (lv_at hl 0 rfl) ?_
        refine lv_iconst (v := 0) hx hb dX9_house_65 (by decide) ?_
        refine va_put (D := D) (ci := 8) (v := .int 0) (ty := .int) (C := RX9) (T := TX9) (N := 29) hx hb ht0 niX9 tyX9 tyX9_ok nmX9 hown hK hP hD hS 0 rfl rfl 5 (by decide) (ht0 _ wd749) (fun _ h9 => h9) rfl (by decide +kernel) rfl rfl (Nat.le_of_ble_eq_true rfl) dX9_house_66 (fun H locs hP hD hS => ?_)
        have hP : va_P D vwCl (wX9_house cy aM qM (upd (upd vM_39 3 x1) 5 (0 : Int32)) vM_tape vM_letters vM_fresh_39 vM_r vM_st) H := hP
        have hD : va_D A (wX9_house cy aM qM (upd (upd vM_39 3 x1) 5 (0 : Int32)) vM_tape vM_letters vM_fresh_39 vM_r vM_st) := hD
        refine lv_aload_n hx hb dX9_house_69 rfl (lv_at hl 0 rfl) ?_
        obtain ⟨⟨vM_70, vM_letters_70⟩, hc70, hok⟩ := k_bind hok
        try dsimp only at hok
        refine kCv (wc := (wX9_next cy aM qM (upd (upd vM_39 3 x1) 5 (0 : Int32)) vM_tape vM_letters)) (wc2 := (wX9_next cy aM qM vM_70 vM_tape vM_letters_70)) (wr := [(qM 16, rI cy 224 vM_fresh_39), (qM 15, rI cy 224 vM_r), (qM 17, rI cy 9 vM_st)]) (ws2 := (wX9_house cy aM qM vM_70 vM_tape vM_letters_70 vM_fresh_39 vM_r vM_st)) (kRunV (As := []) (rest := []) ⟨hx, hb, hml, hown, ht0⟩ (kX9_next l D cy _ aM qM (upd (upd vM_39 3 x1) 5 (0 : Int32)) vM_tape vM_letters vM_70 vM_letters_70 hc70 _ rfl) (cwV 0 ht0 (gV wd766 wd767 wd768 wd744 wd769) rfl rfl rfl (by decide +kernel) ⟨Nat.le_of_ble_eq_true rfl, Nat.le_of_ble_eq_true rfl⟩) hK hN hP hD [0, 1, 2] rfl (by decide) 0 8 rfl rfl rfl hl.1 rfl (Nat.le_of_ble_eq_true rfl) dX9_house_70 ⟨Nat.zero_le _, Nat.zero_le _⟩) hP hD hS hA [0, 1, 2] [3, 4, 5] rfl rfl (by decide) (by decide) [3, 4, 5, 0, 1, 2] (by decide) rfl rfl (fun H locs hP hD hS => ?_)
        refine lv_aload_n hx hb dX9_house_73 rfl (lv_at hl 0 rfl) ?_
        obtain ⟨⟨vM_74, vM_letters_74, vM_fresh_74⟩, hc74, hok⟩ := k_bind hok
        try dsimp only at hok
        refine kCv (wc := (wX9_readLine cy aM qM vM_70 vM_letters_70 vM_fresh_39 vM_tape)) (wc2 := (wX9_readLine cy aM qM vM_74 vM_letters_74 vM_fresh_74 vM_tape)) (wr := [(qM 15, rI cy 224 vM_r), (qM 17, rI cy 9 vM_st)]) (ws2 := (wX9_house cy aM qM vM_74 vM_tape vM_letters_74 vM_fresh_74 vM_r vM_st)) (kRunVS (As := []) (rest := []) ⟨hx, hb, hml, hown, ht0⟩ (kX9_readLine l D cy ad _ aM qM vM_70 vM_letters_70 vM_fresh_39 vM_tape vM_74 vM_letters_74 vM_fresh_74 hc74 _ rfl) (cwV 0 ht0 (gV wd866 wd867 wd868 wd744 wd869) rfl rfl rfl (by decide +kernel) ⟨Nat.le_of_ble_eq_true rfl, Nat.le_of_ble_eq_true rfl⟩) hK hN hP hD hSt hS hA [0, 2, 3, 1] rfl (by decide) 0 8 rfl rfl rfl hl.1 rfl (Nat.le_of_ble_eq_true rfl) dX9_house_74 ⟨Nat.zero_le _, Nat.zero_le _⟩) hP hD hS hA [0, 2, 3, 1] [4, 5] rfl rfl (by decide) (by decide) [2, 5, 3, 4, 0, 1] (by decide) rfl rfl (fun H locs hP hD hS => ?_)
        exact L77 5000 vM_fresh_74 vM_letters_74 vM_74 H locs ls hP hD hS (lv_sub hl [0] rfl) hok
      · have hok := k_neg c43 hok
        refine lv_aload_n hx hb dX9_house_46 rfl (lv_at hl 0 rfl) ?_
        refine va_get (D := D) (ci := 8) (v := .ref (qM 16)) (C := RX9) (T := TX9) (N := 29) hx hb ht0 niX9 hown hK hP 0 rfl rfl 16 (by decide) (ht0 _ wd778) (fun _ h9 => h9) rfl dX9_house_47 ?_
        refine lv_iload_n hx hb dX9_house_50 rfl (lv_at hl 2 rfl) ?_
        refine lv_iconst (v := 0) hx hb dX9_house_51 (by decide) ?_
        obtain ⟨g52, hok⟩ := gd_some hok
        refine va_iast hx hb hK hP hD hS 3 0 rfl rfl (okI_in g52) dX9_house_52 (fun H locs hP hD hS => ?_)
        have hP : va_P D vwCl (wX9_house cy aM qM vM_39 vM_tape vM_letters (upd vM_fresh_39 y2_39.toNatClampNeg (0 : Int32)) vM_r vM_st) H := hP
        have hD : va_D A (wX9_house cy aM qM vM_39 vM_tape vM_letters (upd vM_fresh_39 y2_39.toNatClampNeg (0 : Int32)) vM_r vM_st) := hD
        refine lv_iinc (v := (y2_39 + 1)) (lv' := [(2, .int (y2_39 + 1)), (0, .ref aM), (1, .int x1)]) hx hb dX9_house_53 hl (k := 2) rfl (by first | rfl | decide) (by decide) rfl (fun ls hl => ?_)
        refine lv_goto (tgt := 39) hx hb dX9_house_56 (by decide) ?_
        exact ih39 (y2_39 + 1) (upd vM_fresh_39 y2_39.toNatClampNeg (0 : Int32)) vM_39 H locs ls hP hD hS (lv_sub hl [1, 2, 0] rfl) (hR39 _ (Option.some.inj hok).symm)
  unfold fX9_house at hok
  obtain ⟨H, hH⟩ : ∃ H, H = s.heap := ⟨_, rfl⟩
  obtain ⟨locs, hlc⟩ : ∃ x : List Loc, x = [] := ⟨_, rfl⟩
  have hP : va_P D vwCl (wX9_house cy aM qM vM vM_tape vM_letters vM_fresh vM_r vM_st) H := by rw [hH]; exact hP
  have hS : va_S A s.heap H locs := by rw [hH, hlc]; exact hS
  rw [show W p l e _ s m _ below meth c s.heap [] = W p l e _ s m _ below meth c H locs from by rw [hH, hlc]]
  refine lv_aload_n hx hb dX9_house_0 rfl (lv_at hl 0 rfl) ?_
  obtain ⟨vM_1, hc1, hok⟩ := k_bind hok
  refine kCv (wc := (wX9_good cy aM qM vM)) (wc2 := (wX9_good cy aM qM vM_1)) (wr := [(qM 1, rI cy 900 vM_tape), (qM 12, rI cy 8 vM_letters), (qM 16, rI cy 224 vM_fresh), (qM 15, rI cy 224 vM_r), (qM 17, rI cy 9 vM_st)]) (ws2 := (wX9_house cy aM qM vM_1 vM_tape vM_letters vM_fresh vM_r vM_st)) (kRunV (As := []) (rest := []) ⟨hx, hb, hml, hown, ht0⟩ (kX9_good l D cy _ aM qM vM vM_1 hc1 _ rfl) (cwV 0 ht0 (gV wd870 wd871 wd872 wd744 wd873) rfl rfl rfl (by decide +kernel) ⟨Nat.le_of_ble_eq_true rfl, Nat.le_of_ble_eq_true rfl⟩) hK hN hP hD [0] rfl (by decide) 0 8 rfl rfl rfl hl.1 rfl (Nat.le_of_ble_eq_true rfl) dX9_house_1 ⟨Nat.zero_le _, Nat.zero_le _⟩) hP hD hS hA [0] [1, 2, 3, 4, 5] rfl rfl (by decide) (by decide) [5, 0, 1, 2, 3, 4] (by decide) rfl rfl (fun H locs hP hD hS => ?_)
  refine lv_iload_n hx hb dX9_house_4 rfl (lv_at hl 1 rfl) ?_
  refine lv_iconst (v := 0) hx hb dX9_house_5 (by decide) ?_
  refine lv_aload_n hx hb dX9_house_6 rfl (lv_at hl 0 rfl) ?_
  refine va_get (D := D) (ci := 8) (v := .int (vM_1 2)) (C := RX9) (T := TX9) (N := 29) hx hb ht0 niX9 hown hK hP 0 rfl rfl 2 (by decide) (ht0 _ wd738) (fun _ h9 => h9) rfl dX9_house_7 ?_
  obtain ⟨r10, hc10, hok⟩ := k_bind hok
  refine kCi (wc := (wX9_in cy )) (wc2 := (wX9_in cy )) (wr := [(aM, oX9 vM_1 qM), (qM 1, rI cy 900 vM_tape), (qM 12, rI cy 8 vM_letters), (qM 16, rI cy 224 vM_fresh), (qM 15, rI cy 224 vM_r), (qM 17, rI cy 9 vM_st)]) (ws2 := (wX9_house cy aM qM vM_1 vM_tape vM_letters vM_fresh vM_r vM_st)) (kRunS (As := [.int x1, .int 0, .int (vM_1 2)]) (rest := []) ⟨hx, hb, hml, hown, ht0⟩ (kX9_in l D cy _ x1 (0 : Int32) (vM_1 2) r10 hc10 _ rfl) (va_cwS 3 ht0 (gS wd787 wd788 wd744 wd789) rfl rfl rfl (by decide +kernel) ⟨Nat.le_of_ble_eq_true rfl, Nat.le_of_ble_eq_true rfl⟩) hK hN hP hD [] rfl (by decide) rfl hl.1 rfl (Nat.le_of_ble_eq_true rfl) dX9_house_10 ⟨Nat.zero_le _, Nat.zero_le _⟩) hP hD hS hA [] [0, 1, 2, 3, 4, 5] rfl rfl (by decide) (by decide) [0, 1, 2, 3, 4, 5] (by decide) rfl rfl (fun H locs hP hD hS => ?_)
  refine lv_if_ne (tgt := 22) hx hb dX9_house_13 (by decide) (fun c13 => ?_) (fun c13 => ?_)
  · have hok := k_neg c13 hok
    refine lv_aload_n hx hb dX9_house_22 rfl (lv_at hl 0 rfl) ?_
    refine lv_iconst (v := 0) hx hb dX9_house_23 (by decide) ?_
    refine va_put (D := D) (ci := 8) (v := .int 0) (ty := .int) (C := RX9) (T := TX9) (N := 29) hx hb ht0 niX9 tyX9 tyX9_ok nmX9 hown hK hP hD hS 0 rfl rfl 2 (by decide) (ht0 _ wd738) (fun _ h9 => h9) rfl (by decide +kernel) rfl rfl (Nat.le_of_ble_eq_true rfl) dX9_house_24 (fun H locs hP hD hS => ?_)
    have hP : va_P D vwCl (wX9_house cy aM qM (upd vM_1 2 (0 : Int32)) vM_tape vM_letters vM_fresh vM_r vM_st) H := hP
    have hD : va_D A (wX9_house cy aM qM (upd vM_1 2 (0 : Int32)) vM_tape vM_letters vM_fresh vM_r vM_st) := hD
    refine lv_aload_n hx hb dX9_house_27 rfl (lv_at hl 0 rfl) ?_
    refine lv_iconst (v := 0) hx hb dX9_house_28 (by decide) ?_
    refine va_put (D := D) (ci := 8) (v := .int 0) (ty := .int) (C := RX9) (T := TX9) (N := 29) hx hb ht0 niX9 tyX9 tyX9_ok nmX9 hown hK hP hD hS 0 rfl rfl 9 (by decide) (ht0 _ wd758) (fun _ h9 => h9) rfl (by decide +kernel) rfl rfl (Nat.le_of_ble_eq_true rfl) dX9_house_29 (fun H locs hP hD hS => ?_)
    have hP : va_P D vwCl (wX9_house cy aM qM (upd (upd vM_1 2 (0 : Int32)) 9 (0 : Int32)) vM_tape vM_letters vM_fresh vM_r vM_st) H := hP
    have hD : va_D A (wX9_house cy aM qM (upd (upd vM_1 2 (0 : Int32)) 9 (0 : Int32)) vM_tape vM_letters vM_fresh vM_r vM_st) := hD
    refine lv_aload_n hx hb dX9_house_32 rfl (lv_at hl 0 rfl) ?_
    refine lv_iconst (v := 0) hx hb dX9_house_33 (by decide) ?_
    refine va_put (D := D) (ci := 8) (v := .int 0) (ty := .boolean) (C := RX9) (T := TX9) (N := 29) hx hb ht0 niX9 tyX9 tyX9_ok nmX9 hown hK hP hD hS 0 rfl rfl 13 (by decide) (ht0 _ wd757) (fun _ h9 => h9) rfl (by decide +kernel) rfl rfl (Nat.le_of_ble_eq_true rfl) dX9_house_34 (fun H locs hP hD hS => ?_)
    have hP : va_P D vwCl (wX9_house cy aM qM (upd (upd (upd vM_1 2 (0 : Int32)) 9 (0 : Int32)) 13 (0 : Int32)) vM_tape vM_letters vM_fresh vM_r vM_st) H := hP
    have hD : va_D A (wX9_house cy aM qM (upd (upd (upd vM_1 2 (0 : Int32)) 9 (0 : Int32)) 13 (0 : Int32)) vM_tape vM_letters vM_fresh vM_r vM_st) := hD
    refine lv_iconst (v := 0) hx hb dX9_house_37 (by decide) ?_
    refine lv_istore_n (lv' := [(2, .int 0), (0, .ref aM), (1, .int x1)]) hx hb dX9_house_38 rfl hl (by decide) rfl (fun ls hl => ?_)
    exact L39 5000 (0 : Int32) vM_fresh (upd (upd (upd vM_1 2 (0 : Int32)) 9 (0 : Int32)) 13 (0 : Int32)) H locs ls hP hD hS (lv_sub hl [1, 2, 0] rfl) hok
  · have hok := k_pos c13 hok
    refine lv_aload_n hx hb dX9_house_16 rfl (lv_at hl 0 rfl) ?_
    refine lv_iconst (v := 2) hx hb dX9_house_17 (by decide) ?_
    obtain ⟨⟨r18, vM_18⟩, hc18, hok⟩ := k_bind hok
    try dsimp only at hok
    refine kCi (wc := (wX9_no cy aM qM vM_1)) (wc2 := (wX9_no cy aM qM vM_18)) (wr := [(qM 1, rI cy 900 vM_tape), (qM 12, rI cy 8 vM_letters), (qM 16, rI cy 224 vM_fresh), (qM 15, rI cy 224 vM_r), (qM 17, rI cy 9 vM_st)]) (ws2 := (wX9_house cy aM qM vM_18 vM_tape vM_letters vM_fresh vM_r vM_st)) (kRunV (As := [.int 2]) (rest := []) ⟨hx, hb, hml, hown, ht0⟩ (kX9_no l D cy _ aM qM vM_1 (2 : Int32) r18 vM_18 hc18 _ rfl) (cwV 1 ht0 (gV wd862 wd863 wd864 wd744 wd865) rfl rfl rfl (by decide +kernel) ⟨Nat.le_of_ble_eq_true rfl, Nat.le_of_ble_eq_true rfl⟩) hK hN hP hD [0] rfl (by decide) 0 8 rfl rfl rfl hl.1 rfl (Nat.le_of_ble_eq_true rfl) dX9_house_18 ⟨Nat.zero_le _, Nat.zero_le _⟩) hP hD hS hA [0] [1, 2, 3, 4, 5] rfl rfl (by decide) (by decide) [5, 0, 1, 2, 3, 4] (by decide) rfl rfl (fun H locs hP hD hS => ?_)
    cases hok
    subst hQe; exact W.iret hx hb hr (fun t ht hW => ⟨⟨_, (), rfl, rfl, by rw [ht]; exact hP, va_K.moved hW.alike hK, hD⟩, hS.F ht⟩) hS.2.2 dX9_house_21
def wsX9_fault : List Cond := .code yX9_fault cX9_fault 1 (some .int) :: W0
abbrev wX9_fault (cy : Nat → ClassId) (aM : Nat) (qM : Nat → Nat) (vM : Nat → Int32) : va_W := [(aM, oX9 vM qM)]
set_option maxHeartbeats 4000000 in
set_option maxRecDepth 100000 in
theorem kX9_fault (l : Launch) (D : va_G) (cy : Nat → ClassId) (sz : Nat) (aM : Nat) (qM : Nat → Nat) (vM : Nat → Int32) (zr : Int32) (z_vM : Nat → Int32) (hok : fX9_fault vM = some (zr, z_vM)) (A : Nat → Prop) (hAe : va_A (wX9_fault cy aM qM vM) sz = A) : Met l yX9_fault wsX9_fault ({ frames := 0, cells := 0, slots := 0, locals := 0 } : Room) (kPre D cy [.ref aM] (wX9_fault cy aM qM vM) sz) (kQi D cy zr A (wX9_fault cy aM qM z_vM)) 0 0 A := by
  refine Met.ofW (cc := cX9_fault) (maxL := 1) (ret := (some .int)) (by decide) rfl ?_
  intro p e s m args below meth c s₁ B hml hv
  obtain ⟨rfl, hsz, hP, hK, hD0, hN⟩ := hv
  have hx := B.exec
  have hb := B.bytes
  have hr := B.returns
  have ht0 : ∀ w ∈ W0, w.before _ s = true := fun w h => atoms_spec (ws := wsX9_fault) B.pre w (List.mem_cons_of_mem _ h)
  have hown : s.vm.findClass RX9 = some m.cls := findClass_of_methodNamed B.named
  have hlocks := B.notSynchronized
  subst hsz
  have hD : va_D A (wX9_fault cy aM qM vM) := by rw [← hAe]; exact hD0.self
  have hA : ∀ q : Nat, s.heap.size ≤ q → A q := fun q h => by rw [← hAe]; exact Or.inr h
  have hS : va_S A s.heap s.heap [] := va_S.rf
  have hl := lv_entry ([.ref aM]) (n := 1) (Nat.le_of_ble_eq_true rfl)
  rw [lg_entry_eq]
  generalize (lg_sl ([.ref aM]) ++ List.replicate (1 - (lg_sl ([.ref aM])).length) Slot.unset).toArray = ls at hl ⊢
  have hl : lv_has ls 1 [(0, .ref aM)] := hl
  unfold fX9_fault at hok
  obtain ⟨H, hH⟩ : ∃ H, H = s.heap := ⟨_, rfl⟩
  obtain ⟨locs, hlc⟩ : ∃ x : List Loc, x = [] := ⟨_, rfl⟩
  have hP : va_P D vwCl (wX9_fault cy aM qM vM) H := by rw [hH]; exact hP
  have hS : va_S A s.heap H locs := by rw [hH, hlc]; exact hS
  rw [show W p l e _ s m _ below meth c s.heap [] = W p l e _ s m _ below meth c H locs from by rw [hH, hlc]]
  refine lv_aload_n hx hb dX9_fault_0 rfl (lv_at hl 0 rfl) ?_
  refine lv_iconst (v := 0) hx hb dX9_fault_1 (by decide) ?_
  refine va_put (D := D) (ci := 8) (v := .int 0) (ty := .int) (C := RX9) (T := TX9) (N := 29) hx hb ht0 niX9 tyX9 tyX9_ok nmX9 hown hK hP hD hS 0 rfl rfl 0 (by decide) (ht0 _ wd735) (fun _ h9 => h9) rfl (by decide +kernel) rfl rfl (Nat.le_of_ble_eq_true rfl) dX9_fault_2 (fun H locs hP hD hS => ?_)
  have hP : va_P D vwCl (wX9_fault cy aM qM (upd vM 0 (0 : Int32))) H := hP
  have hD : va_D A (wX9_fault cy aM qM (upd vM 0 (0 : Int32))) := hD
  refine lv_aload_n hx hb dX9_fault_5 rfl (lv_at hl 0 rfl) ?_
  refine va_get (D := D) (ci := 8) (v := .int (vM 9)) (C := RX9) (T := TX9) (N := 29) hx hb ht0 niX9 hown hK hP 0 rfl rfl 9 (by decide) (ht0 _ wd758) (fun _ h9 => h9) rfl dX9_fault_6 ?_
  cases hok
  exact W.iret hx hb hr (fun t ht hW => ⟨⟨_, (), rfl, rfl, by rw [ht]; exact hP, va_K.moved hW.alike hK, hD⟩, hS.F ht⟩) hS.2.2 dX9_fault_9
def wsX9_where : List Cond := .code yX9_where cX9_where 1 (some .int) :: W0
abbrev wX9_where (cy : Nat → ClassId) (aM : Nat) (qM : Nat → Nat) (vM : Nat → Int32) : va_W := [(aM, oX9 vM qM)]
set_option maxHeartbeats 4000000 in
set_option maxRecDepth 100000 in
theorem kX9_where (l : Launch) (D : va_G) (cy : Nat → ClassId) (sz : Nat) (aM : Nat) (qM : Nat → Nat) (vM : Nat → Int32) (zr : Int32) (z_vM : Nat → Int32) (hok : fX9_where vM = some (zr, z_vM)) (A : Nat → Prop) (hAe : va_A (wX9_where cy aM qM vM) sz = A) : Met l yX9_where wsX9_where ({ frames := 0, cells := 0, slots := 0, locals := 0 } : Room) (kPre D cy [.ref aM] (wX9_where cy aM qM vM) sz) (kQi D cy zr A (wX9_where cy aM qM z_vM)) 0 0 A := by
  refine Met.ofW (cc := cX9_where) (maxL := 1) (ret := (some .int)) (by decide) rfl ?_
  intro p e s m args below meth c s₁ B hml hv
  obtain ⟨rfl, hsz, hP, hK, hD0, hN⟩ := hv
  have hx := B.exec
  have hb := B.bytes
  have hr := B.returns
  have ht0 : ∀ w ∈ W0, w.before _ s = true := fun w h => atoms_spec (ws := wsX9_where) B.pre w (List.mem_cons_of_mem _ h)
  have hown : s.vm.findClass RX9 = some m.cls := findClass_of_methodNamed B.named
  have hlocks := B.notSynchronized
  subst hsz
  have hD : va_D A (wX9_where cy aM qM vM) := by rw [← hAe]; exact hD0.self
  have hA : ∀ q : Nat, s.heap.size ≤ q → A q := fun q h => by rw [← hAe]; exact Or.inr h
  have hS : va_S A s.heap s.heap [] := va_S.rf
  have hl := lv_entry ([.ref aM]) (n := 1) (Nat.le_of_ble_eq_true rfl)
  rw [lg_entry_eq]
  generalize (lg_sl ([.ref aM]) ++ List.replicate (1 - (lg_sl ([.ref aM])).length) Slot.unset).toArray = ls at hl ⊢
  have hl : lv_has ls 1 [(0, .ref aM)] := hl
  generalize hQe : MQ below (kQi D cy zr A (wX9_where cy aM qM z_vM)) ([.ref aM] : List Value).toArray s 0 0 A = Q
  have J21 : ∀ (t0_21 : Int32), ∀ (H : Heap) (locs : List Loc) (ls : Array Slot), va_P D vwCl (wX9_where cy aM qM (upd vM 0 (0 : Int32))) H → va_D A (wX9_where cy aM qM (upd vM 0 (0 : Int32))) → va_S A s.heap H locs → lv_has ls 1 [] → fX9_where_J21 vM t0_21 = some (zr, z_vM) → W p l e ({ frames := 0, cells := 0, slots := 0, locals := 0 } : Room) s m ([.ref aM] : List Value).toArray below meth c H locs 0 0 Q (F0 m 21 ls [.int t0_21]) := by
    intro t0_21 H locs ls hP hD hS hl hok
    unfold fX9_where_J21 at hok
    cases hok
    subst hQe; exact W.iret hx hb hr (fun t ht hW => ⟨⟨_, (), rfl, rfl, by rw [ht]; exact hP, va_K.moved hW.alike hK, hD⟩, hS.F ht⟩) hS.2.2 dX9_where_21
  unfold fX9_where at hok
  obtain ⟨H, hH⟩ : ∃ H, H = s.heap := ⟨_, rfl⟩
  obtain ⟨locs, hlc⟩ : ∃ x : List Loc, x = [] := ⟨_, rfl⟩
  have hP : va_P D vwCl (wX9_where cy aM qM vM) H := by rw [hH]; exact hP
  have hS : va_S A s.heap H locs := by rw [hH, hlc]; exact hS
  rw [show W p l e _ s m _ below meth c s.heap [] = W p l e _ s m _ below meth c H locs from by rw [hH, hlc]]
  refine lv_aload_n hx hb dX9_where_0 rfl (lv_at hl 0 rfl) ?_
  refine lv_iconst (v := 0) hx hb dX9_where_1 (by decide) ?_
  refine va_put (D := D) (ci := 8) (v := .int 0) (ty := .int) (C := RX9) (T := TX9) (N := 29) hx hb ht0 niX9 tyX9 tyX9_ok nmX9 hown hK hP hD hS 0 rfl rfl 0 (by decide) (ht0 _ wd735) (fun _ h9 => h9) rfl (by decide +kernel) rfl rfl (Nat.le_of_ble_eq_true rfl) dX9_where_2 (fun H locs hP hD hS => ?_)
  have hP : va_P D vwCl (wX9_where cy aM qM (upd vM 0 (0 : Int32))) H := hP
  have hD : va_D A (wX9_where cy aM qM (upd vM 0 (0 : Int32))) := hD
  refine lv_aload_n hx hb dX9_where_5 rfl (lv_at hl 0 rfl) ?_
  refine va_get (D := D) (ci := 8) (v := .int (vM 11)) (C := RX9) (T := TX9) (N := 29) hx hb ht0 niX9 hown hK hP 0 rfl rfl 11 (by decide) (ht0 _ wd736) (fun _ h9 => h9) rfl dX9_where_6 ?_
  refine lv_iconst (v := 4) hx hb dX9_where_9 (by decide) ?_
  refine lv_icmp_ne (tgt := 20) hx hb dX9_where_10 (by decide) (fun c10 => ?_) (fun c10 => ?_)
  · have hok := k_neg c10 hok
    refine lv_iconst (v := -1) hx hb dX9_where_20 (by decide) ?_
    exact J21 (-1 : Int32) H locs ls hP hD hS (lv_sub hl [] rfl) hok
  · have hok := k_pos c10 hok
    refine lv_aload_n hx hb dX9_where_13 rfl (lv_at hl 0 rfl) ?_
    refine va_get (D := D) (ci := 8) (v := .int (vM 10)) (C := RX9) (T := TX9) (N := 29) hx hb ht0 niX9 hown hK hP 0 rfl rfl 10 (by decide) (ht0 _ wd759) (fun _ h9 => h9) rfl dX9_where_14 ?_
    refine lv_goto (tgt := 21) hx hb dX9_where_17 (by decide) ?_
    exact J21 (vM 10) H locs ls hP hD hS (lv_sub hl [] rfl) hok
def wsX9_isRing : List Cond := .code yX9_isRing cX9_isRing 2 (some .boolean) :: W0
abbrev wX9_isRing (cy : Nat → ClassId) (aM : Nat) (qM : Nat → Nat) (vM : Nat → Int32) (vM_r : Nat → Int32) : va_W := [(aM, oX9 vM qM), (qM 15, rI cy 224 vM_r)]
set_option maxHeartbeats 4000000 in
set_option maxRecDepth 100000 in
theorem kX9_isRing (l : Launch) (D : va_G) (cy : Nat → ClassId) (sz : Nat) (aM : Nat) (qM : Nat → Nat) (vM : Nat → Int32) (vM_r : Nat → Int32) (x1 : Int32) (zr : Int32) (hok : fX9_isRing vM vM_r x1 = some zr) (A : Nat → Prop) (hAe : va_A (wX9_isRing cy aM qM vM vM_r) sz = A) : Met l yX9_isRing wsX9_isRing ({ frames := 1, cells := 0, slots := 0, locals := 22 } : Room) (kPre D cy [.ref aM, .int x1] (wX9_isRing cy aM qM vM vM_r) sz) (kQi D cy zr A (wX9_isRing cy aM qM vM vM_r)) 0 0 A := by
  refine Met.ofW (cc := cX9_isRing) (maxL := 2) (ret := (some .boolean)) (by decide) rfl ?_
  intro p e s m args below meth c s₁ B hml hv
  obtain ⟨rfl, hsz, hP, hK, hD0, hN⟩ := hv
  have hx := B.exec
  have hb := B.bytes
  have hr := B.returns
  have ht0 : ∀ w ∈ W0, w.before _ s = true := fun w h => atoms_spec (ws := wsX9_isRing) B.pre w (List.mem_cons_of_mem _ h)
  have hown : s.vm.findClass RX9 = some m.cls := findClass_of_methodNamed B.named
  have hlocks := B.notSynchronized
  subst hsz
  have hD : va_D A (wX9_isRing cy aM qM vM vM_r) := by rw [← hAe]; exact hD0.self
  have hA : ∀ q : Nat, s.heap.size ≤ q → A q := fun q h => by rw [← hAe]; exact Or.inr h
  have hS : va_S A s.heap s.heap [] := va_S.rf
  have hl := lv_entry ([.ref aM, .int x1]) (n := 2) (Nat.le_of_ble_eq_true rfl)
  rw [lg_entry_eq]
  generalize (lg_sl ([.ref aM, .int x1]) ++ List.replicate (2 - (lg_sl ([.ref aM, .int x1])).length) Slot.unset).toArray = ls at hl ⊢
  have hl : lv_has ls 2 [(0, .ref aM), (1, .int x1)] := hl
  generalize hQe : MQ below (kQi D cy zr A (wX9_isRing cy aM qM vM vM_r)) ([.ref aM, .int x1] : List Value).toArray s 0 0 A = Q
  have J28 : ∀ (t0_28 : Int32), ∀ (H : Heap) (locs : List Loc) (ls : Array Slot), va_P D vwCl (wX9_isRing cy aM qM vM vM_r) H → va_D A (wX9_isRing cy aM qM vM vM_r) → va_S A s.heap H locs → lv_has ls 2 [] → fX9_isRing_J28 t0_28 = some zr → W p l e ({ frames := 1, cells := 0, slots := 0, locals := 22 } : Room) s m ([.ref aM, .int x1] : List Value).toArray below meth c H locs 0 0 Q (F0 m 28 ls [.int t0_28]) := by
    intro t0_28 H locs ls hP hD hS hl hok
    unfold fX9_isRing_J28 at hok
    obtain ⟨g28, hok⟩ := gd_some hok
    cases hok
    subst hQe; exact W.zret hx hb hr (isB_nar g28) (fun t ht hW => ⟨⟨_, (), rfl, rfl, by rw [ht]; exact hP, va_K.moved hW.alike hK, hD⟩, hS.F ht⟩) hS.2.2 dX9_isRing_28
  have J27 : ∀ (H : Heap) (locs : List Loc) (ls : Array Slot), va_P D vwCl (wX9_isRing cy aM qM vM vM_r) H → va_D A (wX9_isRing cy aM qM vM vM_r) → va_S A s.heap H locs → lv_has ls 2 [] → fX9_isRing_J27 = some zr → W p l e ({ frames := 1, cells := 0, slots := 0, locals := 22 } : Room) s m ([.ref aM, .int x1] : List Value).toArray below meth c H locs 0 0 Q (F0 m 27 ls []) := by
    intro  H locs ls hP hD hS hl hok
    unfold fX9_isRing_J27 at hok
    refine lv_iconst (v := 0) hx hb dX9_isRing_27 (by decide) ?_
    exact J28 (0 : Int32) H locs ls hP hD hS (lv_sub hl [] rfl) hok
  unfold fX9_isRing at hok
  obtain ⟨H, hH⟩ : ∃ H, H = s.heap := ⟨_, rfl⟩
  obtain ⟨locs, hlc⟩ : ∃ x : List Loc, x = [] := ⟨_, rfl⟩
  have hP : va_P D vwCl (wX9_isRing cy aM qM vM vM_r) H := by rw [hH]; exact hP
  have hS : va_S A s.heap H locs := by rw [hH, hlc]; exact hS
  rw [show W p l e _ s m _ below meth c s.heap [] = W p l e _ s m _ below meth c H locs from by rw [hH, hlc]]
  refine lv_aload_n hx hb dX9_isRing_0 rfl (lv_at hl 0 rfl) ?_
  refine va_get (D := D) (ci := 8) (v := .int (vM 14)) (C := RX9) (T := TX9) (N := 29) hx hb ht0 niX9 hown hK hP 0 rfl rfl 14 (by decide) (ht0 _ wd855) (fun _ h9 => h9) rfl dX9_isRing_1 ?_
  refine lv_if_eq (tgt := 27) hx hb dX9_isRing_4 (by decide) (fun c4 => ?_) (fun c4 => ?_)
  · have hok := k_pos c4 hok
    exact J27  H locs ls hP hD hS (lv_sub hl [] rfl) hok
  · have hok := k_neg c4 hok
    refine lv_iload_n hx hb dX9_isRing_7 rfl (lv_at hl 1 rfl) ?_
    refine lv_iconst (v := 0) hx hb dX9_isRing_8 (by decide) ?_
    refine lv_aload_n hx hb dX9_isRing_9 rfl (lv_at hl 0 rfl) ?_
    refine va_get (D := D) (ci := 8) (v := .ref (qM 15)) (C := RX9) (T := TX9) (N := 29) hx hb ht0 niX9 hown hK hP 0 rfl rfl 15 (by decide) (ht0 _ wd854) (fun _ h9 => h9) rfl dX9_isRing_10 ?_
    refine lv_iconst (v := 2) hx hb dX9_isRing_13 (by decide) ?_
    obtain ⟨g14, hok⟩ := gd_some hok
    refine va_iald hx hb hK hP 1 0 rfl rfl (okI_in g14) dX9_isRing_14 ?_
    refine lv_iconst (v := 1) hx hb dX9_isRing_15 (by decide) ?_
    refine lv_isub hx hb dX9_isRing_16 ?_
    obtain ⟨r17, hc17, hok⟩ := k_bind hok
    refine kCi (wc := (wX9_in cy )) (wc2 := (wX9_in cy )) (wr := [(aM, oX9 vM qM), (qM 15, rI cy 224 vM_r)]) (ws2 := (wX9_isRing cy aM qM vM vM_r)) (kRunS (As := [.int x1, .int 0, .int ((vM_r (2 : Int32).toNatClampNeg) - (1 : Int32))]) (rest := []) ⟨hx, hb, hml, hown, ht0⟩ (kX9_in l D cy _ x1 (0 : Int32) ((vM_r (2 : Int32).toNatClampNeg) - (1 : Int32)) r17 hc17 _ rfl) (va_cwS 3 ht0 (gS wd787 wd788 wd744 wd789) rfl rfl rfl (by decide +kernel) ⟨Nat.le_of_ble_eq_true rfl, Nat.le_of_ble_eq_true rfl⟩) hK hN hP hD [] rfl (by decide) rfl hl.1 rfl (Nat.le_of_ble_eq_true rfl) dX9_isRing_17 ⟨Nat.zero_le _, Nat.zero_le _⟩) hP hD hS hA [] [0, 1] rfl rfl (by decide) (by decide) [0, 1] (by decide) rfl rfl (fun H locs hP hD hS => ?_)
    refine lv_if_eq (tgt := 27) hx hb dX9_isRing_20 (by decide) (fun c20 => ?_) (fun c20 => ?_)
    · have hok := k_pos c20 hok
      exact J27  H locs ls hP hD hS (lv_sub hl [] rfl) hok
    · have hok := k_neg c20 hok
      refine lv_iconst (v := 1) hx hb dX9_isRing_23 (by decide) ?_
      refine lv_goto (tgt := 28) hx hb dX9_isRing_24 (by decide) ?_
      exact J28 (1 : Int32) H locs ls hP hD hS (lv_sub hl [] rfl) hok
def wsX9_isThing : List Cond := .code yX9_isThing cX9_isThing 2 (some .boolean) :: W0
abbrev wX9_isThing (cy : Nat → ClassId) (aM : Nat) (qM : Nat → Nat) (vM : Nat → Int32) (vM_r : Nat → Int32) : va_W := [(aM, oX9 vM qM), (qM 15, rI cy 224 vM_r)]
set_option maxHeartbeats 4000000 in
set_option maxRecDepth 100000 in
theorem kX9_isThing (l : Launch) (D : va_G) (cy : Nat → ClassId) (sz : Nat) (aM : Nat) (qM : Nat → Nat) (vM : Nat → Int32) (vM_r : Nat → Int32) (x1 : Int32) (zr : Int32) (hok : fX9_isThing vM vM_r x1 = some zr) (A : Nat → Prop) (hAe : va_A (wX9_isThing cy aM qM vM vM_r) sz = A) : Met l yX9_isThing wsX9_isThing ({ frames := 1, cells := 0, slots := 0, locals := 22 } : Room) (kPre D cy [.ref aM, .int x1] (wX9_isThing cy aM qM vM vM_r) sz) (kQi D cy zr A (wX9_isThing cy aM qM vM vM_r)) 0 0 A := by
  refine Met.ofW (cc := cX9_isThing) (maxL := 2) (ret := (some .boolean)) (by decide) rfl ?_
  intro p e s m args below meth c s₁ B hml hv
  obtain ⟨rfl, hsz, hP, hK, hD0, hN⟩ := hv
  have hx := B.exec
  have hb := B.bytes
  have hr := B.returns
  have ht0 : ∀ w ∈ W0, w.before _ s = true := fun w h => atoms_spec (ws := wsX9_isThing) B.pre w (List.mem_cons_of_mem _ h)
  have hown : s.vm.findClass RX9 = some m.cls := findClass_of_methodNamed B.named
  have hlocks := B.notSynchronized
  subst hsz
  have hD : va_D A (wX9_isThing cy aM qM vM vM_r) := by rw [← hAe]; exact hD0.self
  have hA : ∀ q : Nat, s.heap.size ≤ q → A q := fun q h => by rw [← hAe]; exact Or.inr h
  have hS : va_S A s.heap s.heap [] := va_S.rf
  have hl := lv_entry ([.ref aM, .int x1]) (n := 2) (Nat.le_of_ble_eq_true rfl)
  rw [lg_entry_eq]
  generalize (lg_sl ([.ref aM, .int x1]) ++ List.replicate (2 - (lg_sl ([.ref aM, .int x1])).length) Slot.unset).toArray = ls at hl ⊢
  have hl : lv_has ls 2 [(0, .ref aM), (1, .int x1)] := hl
  generalize hQe : MQ below (kQi D cy zr A (wX9_isThing cy aM qM vM vM_r)) ([.ref aM, .int x1] : List Value).toArray s 0 0 A = Q
  have J28 : ∀ (t0_28 : Int32), ∀ (H : Heap) (locs : List Loc) (ls : Array Slot), va_P D vwCl (wX9_isThing cy aM qM vM vM_r) H → va_D A (wX9_isThing cy aM qM vM vM_r) → va_S A s.heap H locs → lv_has ls 2 [] → fX9_isThing_J28 t0_28 = some zr → W p l e ({ frames := 1, cells := 0, slots := 0, locals := 22 } : Room) s m ([.ref aM, .int x1] : List Value).toArray below meth c H locs 0 0 Q (F0 m 28 ls [.int t0_28]) := by
    intro t0_28 H locs ls hP hD hS hl hok
    unfold fX9_isThing_J28 at hok
    obtain ⟨g28, hok⟩ := gd_some hok
    cases hok
    subst hQe; exact W.zret hx hb hr (isB_nar g28) (fun t ht hW => ⟨⟨_, (), rfl, rfl, by rw [ht]; exact hP, va_K.moved hW.alike hK, hD⟩, hS.F ht⟩) hS.2.2 dX9_isThing_28
  have J27 : ∀ (H : Heap) (locs : List Loc) (ls : Array Slot), va_P D vwCl (wX9_isThing cy aM qM vM vM_r) H → va_D A (wX9_isThing cy aM qM vM vM_r) → va_S A s.heap H locs → lv_has ls 2 [] → fX9_isThing_J27 = some zr → W p l e ({ frames := 1, cells := 0, slots := 0, locals := 22 } : Room) s m ([.ref aM, .int x1] : List Value).toArray below meth c H locs 0 0 Q (F0 m 27 ls []) := by
    intro  H locs ls hP hD hS hl hok
    unfold fX9_isThing_J27 at hok
    refine lv_iconst (v := 0) hx hb dX9_isThing_27 (by decide) ?_
    exact J28 (0 : Int32) H locs ls hP hD hS (lv_sub hl [] rfl) hok
  unfold fX9_isThing at hok
  obtain ⟨H, hH⟩ : ∃ H, H = s.heap := ⟨_, rfl⟩
  obtain ⟨locs, hlc⟩ : ∃ x : List Loc, x = [] := ⟨_, rfl⟩
  have hP : va_P D vwCl (wX9_isThing cy aM qM vM vM_r) H := by rw [hH]; exact hP
  have hS : va_S A s.heap H locs := by rw [hH, hlc]; exact hS
  rw [show W p l e _ s m _ below meth c s.heap [] = W p l e _ s m _ below meth c H locs from by rw [hH, hlc]]
  refine lv_aload_n hx hb dX9_isThing_0 rfl (lv_at hl 0 rfl) ?_
  refine va_get (D := D) (ci := 8) (v := .int (vM 14)) (C := RX9) (T := TX9) (N := 29) hx hb ht0 niX9 hown hK hP 0 rfl rfl 14 (by decide) (ht0 _ wd855) (fun _ h9 => h9) rfl dX9_isThing_1 ?_
  refine lv_if_eq (tgt := 27) hx hb dX9_isThing_4 (by decide) (fun c4 => ?_) (fun c4 => ?_)
  · have hok := k_pos c4 hok
    exact J27  H locs ls hP hD hS (lv_sub hl [] rfl) hok
  · have hok := k_neg c4 hok
    refine lv_iload_n hx hb dX9_isThing_7 rfl (lv_at hl 1 rfl) ?_
    refine lv_iconst (v := 0) hx hb dX9_isThing_8 (by decide) ?_
    refine lv_aload_n hx hb dX9_isThing_9 rfl (lv_at hl 0 rfl) ?_
    refine va_get (D := D) (ci := 8) (v := .ref (qM 15)) (C := RX9) (T := TX9) (N := 29) hx hb ht0 niX9 hown hK hP 0 rfl rfl 15 (by decide) (ht0 _ wd854) (fun _ h9 => h9) rfl dX9_isThing_10 ?_
    refine lv_iconst (v := 3) hx hb dX9_isThing_13 (by decide) ?_
    obtain ⟨g14, hok⟩ := gd_some hok
    refine va_iald hx hb hK hP 1 0 rfl rfl (okI_in g14) dX9_isThing_14 ?_
    refine lv_iconst (v := 1) hx hb dX9_isThing_15 (by decide) ?_
    refine lv_isub hx hb dX9_isThing_16 ?_
    obtain ⟨r17, hc17, hok⟩ := k_bind hok
    refine kCi (wc := (wX9_in cy )) (wc2 := (wX9_in cy )) (wr := [(aM, oX9 vM qM), (qM 15, rI cy 224 vM_r)]) (ws2 := (wX9_isThing cy aM qM vM vM_r)) (kRunS (As := [.int x1, .int 0, .int ((vM_r (3 : Int32).toNatClampNeg) - (1 : Int32))]) (rest := []) ⟨hx, hb, hml, hown, ht0⟩ (kX9_in l D cy _ x1 (0 : Int32) ((vM_r (3 : Int32).toNatClampNeg) - (1 : Int32)) r17 hc17 _ rfl) (va_cwS 3 ht0 (gS wd787 wd788 wd744 wd789) rfl rfl rfl (by decide +kernel) ⟨Nat.le_of_ble_eq_true rfl, Nat.le_of_ble_eq_true rfl⟩) hK hN hP hD [] rfl (by decide) rfl hl.1 rfl (Nat.le_of_ble_eq_true rfl) dX9_isThing_17 ⟨Nat.zero_le _, Nat.zero_le _⟩) hP hD hS hA [] [0, 1] rfl rfl (by decide) (by decide) [0, 1] (by decide) rfl rfl (fun H locs hP hD hS => ?_)
    refine lv_if_eq (tgt := 27) hx hb dX9_isThing_20 (by decide) (fun c20 => ?_) (fun c20 => ?_)
    · have hok := k_pos c20 hok
      exact J27  H locs ls hP hD hS (lv_sub hl [] rfl) hok
    · have hok := k_neg c20 hok
      refine lv_iconst (v := 1) hx hb dX9_isThing_23 (by decide) ?_
      refine lv_goto (tgt := 28) hx hb dX9_isThing_24 (by decide) ?_
      exact J28 (1 : Int32) H locs ls hP hD hS (lv_sub hl [] rfl) hok
def wsX9_isPlace : List Cond := .code yX9_isPlace cX9_isPlace 3 (some .boolean) :: W0
abbrev wX9_isPlace (cy : Nat → ClassId) (aM : Nat) (qM : Nat → Nat) (vM : Nat → Int32) (vM_r : Nat → Int32) : va_W := [(aM, oX9 vM qM), (qM 15, rI cy 224 vM_r)]
set_option maxHeartbeats 4000000 in
set_option maxRecDepth 100000 in
theorem kX9_isPlace (l : Launch) (D : va_G) (cy : Nat → ClassId) (sz : Nat) (aM : Nat) (qM : Nat → Nat) (vM : Nat → Int32) (vM_r : Nat → Int32) (x1 : Int32) (x2 : Int32) (zr : Int32) (hok : fX9_isPlace vM vM_r x1 x2 = some zr) (A : Nat → Prop) (hAe : va_A (wX9_isPlace cy aM qM vM vM_r) sz = A) : Met l yX9_isPlace wsX9_isPlace ({ frames := 2, cells := 0, slots := 0, locals := 43 } : Room) (kPre D cy [.ref aM, .int x1, .int x2] (wX9_isPlace cy aM qM vM vM_r) sz) (kQi D cy zr A (wX9_isPlace cy aM qM vM vM_r)) 0 0 A := by
  refine Met.ofW (cc := cX9_isPlace) (maxL := 3) (ret := (some .boolean)) (by decide) rfl ?_
  intro p e s m args below meth c s₁ B hml hv
  obtain ⟨rfl, hsz, hP, hK, hD0, hN⟩ := hv
  have hx := B.exec
  have hb := B.bytes
  have hr := B.returns
  have ht0 : ∀ w ∈ W0, w.before _ s = true := fun w h => atoms_spec (ws := wsX9_isPlace) B.pre w (List.mem_cons_of_mem _ h)
  have hown : s.vm.findClass RX9 = some m.cls := findClass_of_methodNamed B.named
  have hlocks := B.notSynchronized
  subst hsz
  have hD : va_D A (wX9_isPlace cy aM qM vM vM_r) := by rw [← hAe]; exact hD0.self
  have hA : ∀ q : Nat, s.heap.size ≤ q → A q := fun q h => by rw [← hAe]; exact Or.inr h
  have hS : va_S A s.heap s.heap [] := va_S.rf
  have hl := lv_entry ([.ref aM, .int x1, .int x2]) (n := 3) (Nat.le_of_ble_eq_true rfl)
  rw [lg_entry_eq]
  generalize (lg_sl ([.ref aM, .int x1, .int x2]) ++ List.replicate (3 - (lg_sl ([.ref aM, .int x1, .int x2])).length) Slot.unset).toArray = ls at hl ⊢
  have hl : lv_has ls 3 [(0, .ref aM), (1, .int x1), (2, .int x2)] := hl
  generalize hQe : MQ below (kQi D cy zr A (wX9_isPlace cy aM qM vM vM_r)) ([.ref aM, .int x1, .int x2] : List Value).toArray s 0 0 A = Q
  have J36 : ∀ (t0_36 : Int32), ∀ (H : Heap) (locs : List Loc) (ls : Array Slot), va_P D vwCl (wX9_isPlace cy aM qM vM vM_r) H → va_D A (wX9_isPlace cy aM qM vM vM_r) → va_S A s.heap H locs → lv_has ls 3 [] → fX9_isPlace_J36 t0_36 = some zr → W p l e ({ frames := 2, cells := 0, slots := 0, locals := 43 } : Room) s m ([.ref aM, .int x1, .int x2] : List Value).toArray below meth c H locs 0 0 Q (F0 m 36 ls [.int t0_36]) := by
    intro t0_36 H locs ls hP hD hS hl hok
    unfold fX9_isPlace_J36 at hok
    obtain ⟨g36, hok⟩ := gd_some hok
    cases hok
    subst hQe; exact W.zret hx hb hr (isB_nar g36) (fun t ht hW => ⟨⟨_, (), rfl, rfl, by rw [ht]; exact hP, va_K.moved hW.alike hK, hD⟩, hS.F ht⟩) hS.2.2 dX9_isPlace_36
  have J35 : ∀ (H : Heap) (locs : List Loc) (ls : Array Slot), va_P D vwCl (wX9_isPlace cy aM qM vM vM_r) H → va_D A (wX9_isPlace cy aM qM vM vM_r) → va_S A s.heap H locs → lv_has ls 3 [] → fX9_isPlace_J35 = some zr → W p l e ({ frames := 2, cells := 0, slots := 0, locals := 43 } : Room) s m ([.ref aM, .int x1, .int x2] : List Value).toArray below meth c H locs 0 0 Q (F0 m 35 ls []) := by
    intro  H locs ls hP hD hS hl hok
    unfold fX9_isPlace_J35 at hok
    refine lv_iconst (v := 0) hx hb dX9_isPlace_35 (by decide) ?_
    exact J36 (0 : Int32) H locs ls hP hD hS (lv_sub hl [] rfl) hok
  unfold fX9_isPlace at hok
  obtain ⟨H, hH⟩ : ∃ H, H = s.heap := ⟨_, rfl⟩
  obtain ⟨locs, hlc⟩ : ∃ x : List Loc, x = [] := ⟨_, rfl⟩
  have hP : va_P D vwCl (wX9_isPlace cy aM qM vM vM_r) H := by rw [hH]; exact hP
  have hS : va_S A s.heap H locs := by rw [hH, hlc]; exact hS
  rw [show W p l e _ s m _ below meth c s.heap [] = W p l e _ s m _ below meth c H locs from by rw [hH, hlc]]
  refine lv_aload_n hx hb dX9_isPlace_0 rfl (lv_at hl 0 rfl) ?_
  refine lv_iload_n hx hb dX9_isPlace_1 rfl (lv_at hl 1 rfl) ?_
  obtain ⟨r2, hc2, hok⟩ := k_bind hok
  refine kCi (wc := (wX9_isRing cy aM qM vM vM_r)) (wc2 := (wX9_isRing cy aM qM vM vM_r)) (wr := []) (ws2 := (wX9_isPlace cy aM qM vM vM_r)) (kRunV (As := [.int x1]) (rest := []) ⟨hx, hb, hml, hown, ht0⟩ (kX9_isRing l D cy _ aM qM vM vM_r x1 r2 hc2 _ rfl) (cwV 1 ht0 (gV wd874 wd875 wd876 wd744 wd877) rfl rfl rfl (by decide +kernel) ⟨Nat.le_of_ble_eq_true rfl, Nat.le_of_ble_eq_true rfl⟩) hK hN hP hD [0, 1] rfl (by decide) 0 8 rfl rfl rfl hl.1 rfl (Nat.le_of_ble_eq_true rfl) dX9_isPlace_2 ⟨Nat.zero_le _, Nat.zero_le _⟩) hP hD hS hA [0, 1] [] rfl rfl (by decide) (by decide) [0, 1] (by decide) rfl rfl (fun H locs hP hD hS => ?_)
  refine lv_if_eq (tgt := 35) hx hb dX9_isPlace_5 (by decide) (fun c5 => ?_) (fun c5 => ?_)
  · have hok := k_pos c5 hok
    exact J35  H locs ls hP hD hS (lv_sub hl [] rfl) hok
  · have hok := k_neg c5 hok
    refine lv_iload_n hx hb dX9_isPlace_8 rfl (lv_at hl 2 rfl) ?_
    refine lv_iconst (v := 0) hx hb dX9_isPlace_9 (by decide) ?_
    refine lv_aload_n hx hb dX9_isPlace_10 rfl (lv_at hl 0 rfl) ?_
    refine va_get (D := D) (ci := 8) (v := .ref (qM 15)) (C := RX9) (T := TX9) (N := 29) hx hb ht0 niX9 hown hK hP 0 rfl rfl 15 (by decide) (ht0 _ wd854) (fun _ h9 => h9) rfl dX9_isPlace_11 ?_
    refine lv_bipush (v := 8) hx hb dX9_isPlace_14 (by decide) ?_
    refine lv_iconst (v := 2) hx hb dX9_isPlace_16 (by decide) ?_
    refine lv_iload_n hx hb dX9_isPlace_17 rfl (lv_at hl 1 rfl) ?_
    refine lv_imul hx hb dX9_isPlace_18 ?_
    refine lv_iadd hx hb dX9_isPlace_19 ?_
    refine lv_iconst (v := 1) hx hb dX9_isPlace_20 (by decide) ?_
    refine lv_iadd hx hb dX9_isPlace_21 ?_
    obtain ⟨g22, hok⟩ := gd_some hok
    refine va_iald hx hb hK hP 1 0 rfl rfl (okI_in g22) dX9_isPlace_22 ?_
    refine lv_iconst (v := 1) hx hb dX9_isPlace_23 (by decide) ?_
    refine lv_isub hx hb dX9_isPlace_24 ?_
    obtain ⟨r25, hc25, hok⟩ := k_bind hok
    refine kCi (wc := (wX9_in cy )) (wc2 := (wX9_in cy )) (wr := [(aM, oX9 vM qM), (qM 15, rI cy 224 vM_r)]) (ws2 := (wX9_isPlace cy aM qM vM vM_r)) (kRunS (As := [.int x2, .int 0, .int ((vM_r (((8 : Int32) + ((2 : Int32) * x1)) + (1 : Int32)).toNatClampNeg) - (1 : Int32))]) (rest := []) ⟨hx, hb, hml, hown, ht0⟩ (kX9_in l D cy _ x2 (0 : Int32) ((vM_r (((8 : Int32) + ((2 : Int32) * x1)) + (1 : Int32)).toNatClampNeg) - (1 : Int32)) r25 hc25 _ rfl) (va_cwS 3 ht0 (gS wd787 wd788 wd744 wd789) rfl rfl rfl (by decide +kernel) ⟨Nat.le_of_ble_eq_true rfl, Nat.le_of_ble_eq_true rfl⟩) hK hN hP hD [] rfl (by decide) rfl hl.1 rfl (Nat.le_of_ble_eq_true rfl) dX9_isPlace_25 ⟨Nat.zero_le _, Nat.zero_le _⟩) hP hD hS hA [] [0, 1] rfl rfl (by decide) (by decide) [0, 1] (by decide) rfl rfl (fun H locs hP hD hS => ?_)
    refine lv_if_eq (tgt := 35) hx hb dX9_isPlace_28 (by decide) (fun c28 => ?_) (fun c28 => ?_)
    · have hok := k_pos c28 hok
      exact J35  H locs ls hP hD hS (lv_sub hl [] rfl) hok
    · have hok := k_neg c28 hok
      refine lv_iconst (v := 1) hx hb dX9_isPlace_31 (by decide) ?_
      refine lv_goto (tgt := 36) hx hb dX9_isPlace_32 (by decide) ?_
      exact J36 (1 : Int32) H locs ls hP hD hS (lv_sub hl [] rfl) hok
