def wsX9_newName : List Cond := .code yX9_newName cX9_newName 3 none :: W0
abbrev wX9_newName (cy : Nat → ClassId) (aM : Nat) (qM : Nat → Nat) (vM : Nat → Int32) (vM_letters : Nat → Int32) (vM_fresh : Nat → Int32) (vM_tape : Nat → Int32) : va_W := [(aM, oX9 vM qM), (qM 12, rI cy 8 vM_letters), (qM 16, rI cy 224 vM_fresh), (qM 1, rI cy 900 vM_tape)]
set_option maxHeartbeats 4000000 in
set_option maxRecDepth 100000 in
theorem kX9_newName (l : Launch) (D : va_G) (cy : Nat → ClassId) (ad : (Nat → Nat) × (Nat → Nat)) (sz : Nat) (aM : Nat) (qM : Nat → Nat) (vM : Nat → Int32) (vM_letters : Nat → Int32) (vM_fresh : Nat → Int32) (vM_tape : Nat → Int32) (x1 : Int32) (z_vM : Nat → Int32) (z_vM_letters : Nat → Int32) (z_vM_fresh : Nat → Int32) (hok : fX9_newName vM vM_letters vM_fresh vM_tape x1 = some (z_vM, z_vM_letters, z_vM_fresh)) (A : Nat → Prop) (hAe : va_A (wX9_newName cy aM qM vM vM_letters vM_fresh vM_tape) sz = A) : Met l yX9_newName wsX9_newName ({ frames := 6, cells := 0, slots := 0, locals := 128 } : Room) (kPreS D cy ad [.ref aM, .int x1] (wX9_newName cy aM qM vM vM_letters vM_fresh vM_tape) sz A) (kQv D cy A (wX9_newName cy aM qM z_vM z_vM_letters z_vM_fresh vM_tape)) 0 0 A := by
  refine Met.ofW (cc := cX9_newName) (maxL := 3) (ret := none) (by decide) rfl ?_
  intro p e s m args below meth c s₁ B hml hv
  obtain ⟨rfl, ⟨hsz, hP, hK, hD0, hN⟩, hSt⟩ := hv
  have hx := B.exec
  have hb := B.bytes
  have hr := B.returns
  have ht0 : ∀ w ∈ W0, w.before _ s = true := fun w h => atoms_spec (ws := wsX9_newName) B.pre w (List.mem_cons_of_mem _ h)
  have hown : s.vm.findClass RX9 = some m.cls := findClass_of_methodNamed B.named
  have hlocks := B.notSynchronized
  subst hsz
  have hD : va_D A (wX9_newName cy aM qM vM vM_letters vM_fresh vM_tape) := by rw [← hAe]; exact hD0.self
  have hA : ∀ q : Nat, s.heap.size ≤ q → A q := fun q h => by rw [← hAe]; exact Or.inr h
  have hS : va_S A s.heap s.heap [] := va_S.rf
  have hl := lv_entry ([.ref aM, .int x1]) (n := 3) (Nat.le_of_ble_eq_true rfl)
  rw [lg_entry_eq]
  generalize (lg_sl ([.ref aM, .int x1]) ++ List.replicate (3 - (lg_sl ([.ref aM, .int x1])).length) Slot.unset).toArray = ls at hl ⊢
  have hl : lv_has ls 3 [(0, .ref aM), (1, .int x1)] := hl
  generalize hQe : MQ below (kQv D cy A (wX9_newName cy aM qM z_vM z_vM_letters z_vM_fresh vM_tape)) ([.ref aM, .int x1] : List Value).toArray s 0 0 A = Q
  have L45 : ∀ (fuel : Nat) (y2_45 : Int32) (vM_fresh_45 : Nat → Int32) (vM_45 : Nat → Int32), ∀ (H : Heap) (locs : List Loc) (ls : Array Slot), va_P D vwCl (wX9_newName cy aM qM vM_45 vM_letters vM_fresh_45 vM_tape) H → va_D A (wX9_newName cy aM qM vM_45 vM_letters vM_fresh_45 vM_tape) → va_S A s.heap H locs → lv_has ls 3 [(0, .ref aM), (1, .int x1), (2, .int y2_45)] → lp (fX9_newName_B45 vM_letters vM_tape x1) fuel (y2_45, vM_fresh_45, vM_45) = some (z_vM, z_vM_letters, z_vM_fresh) → W p l e ({ frames := 6, cells := 0, slots := 0, locals := 128 } : Room) s m ([.ref aM, .int x1] : List Value).toArray below meth c H locs 0 0 Q (F0 m 45 ls []) := by
    intro fuel
    induction fuel with
    | zero => intro y2_45 vM_fresh_45 vM_45 H locs ls hP hD hS hl hok; exact (lp_0 hok).elim
    | succ fuel ih45 =>
      intro y2_45 vM_fresh_45 vM_45 H locs ls hP hD hS hl hok
      obtain ⟨y45, hok, hL45, hR45⟩ := lp_step hok
      unfold fX9_newName_B45 at hok
      try dsimp only at hok
      refine lv_iload_n hx hb dX9_newName_45 rfl (lv_at hl 2 rfl) ?_
      refine lv_aload_n hx hb dX9_newName_46 rfl (lv_at hl 0 rfl) ?_
      refine va_get (D := D) (ci := 8) (v := .int (vM_45 8)) (C := RX9) (T := TX9) (N := 29) hx hb ht0 niX9 hown hK hP 0 rfl rfl 8 (by decide) (ht0 _ wd751) (fun _ h9 => h9) rfl dX9_newName_47 ?_
      refine lv_icmp_ge (tgt := 80) hx hb dX9_newName_50 (by decide) (fun c50 => ?_) (fun c50 => ?_)
      · have hok := k_pos c50 hok
        obtain ⟨e45, hok, he45⟩ := ex_some hok
        have hok := hok.trans (congrArg some (hL45 _ he45))
        refine lv_aload_n hx hb dX9_newName_80 rfl (lv_at hl 0 rfl) ?_
        refine va_get (D := D) (ci := 8) (v := .ref (qM 16)) (C := RX9) (T := TX9) (N := 29) hx hb ht0 niX9 hown hK hP 0 rfl rfl 16 (by decide) (ht0 _ wd778) (fun _ h9 => h9) rfl dX9_newName_81 ?_
        refine lv_bipush (v := 125) hx hb dX9_newName_84 (by decide) ?_
        refine lv_iload_n hx hb dX9_newName_86 rfl (lv_at hl 1 rfl) ?_
        refine lv_iadd hx hb dX9_newName_87 ?_
        refine lv_aload_n hx hb dX9_newName_88 rfl (lv_at hl 0 rfl) ?_
        refine va_get (D := D) (ci := 8) (v := .int (vM_45 8)) (C := RX9) (T := TX9) (N := 29) hx hb ht0 niX9 hown hK hP 0 rfl rfl 8 (by decide) (ht0 _ wd751) (fun _ h9 => h9) rfl dX9_newName_89 ?_
        obtain ⟨g92, hok⟩ := gd_some hok
        refine va_iast hx hb hK hP hD hS 2 0 rfl rfl (okI_in g92) dX9_newName_92 (fun H locs hP hD hS => ?_)
        have hP : va_P D vwCl (wX9_newName cy aM qM vM_45 vM_letters (upd vM_fresh_45 ((125 : Int32) + x1).toNatClampNeg (vM_45 8)) vM_tape) H := hP
        have hD : va_D A (wX9_newName cy aM qM vM_45 vM_letters (upd vM_fresh_45 ((125 : Int32) + x1).toNatClampNeg (vM_45 8)) vM_tape) := hD
        refine lv_aload_n hx hb dX9_newName_93 rfl (lv_at hl 0 rfl) ?_
        obtain ⟨⟨vM_94, vM_letters_94⟩, hc94, hok⟩ := k_bind hok
        try dsimp only at hok
        refine kCv (wc := (wX9_next cy aM qM vM_45 vM_tape vM_letters)) (wc2 := (wX9_next cy aM qM vM_94 vM_tape vM_letters_94)) (wr := [(qM 16, rI cy 224 (upd vM_fresh_45 ((125 : Int32) + x1).toNatClampNeg (vM_45 8)))]) (ws2 := (wX9_newName cy aM qM vM_94 vM_letters_94 (upd vM_fresh_45 ((125 : Int32) + x1).toNatClampNeg (vM_45 8)) vM_tape)) (kRunV (As := []) (rest := []) ⟨hx, hb, hml, hown, ht0⟩ (kX9_next l D cy _ aM qM vM_45 vM_tape vM_letters vM_94 vM_letters_94 hc94 _ rfl) (cwV 0 ht0 (gV wd766 wd767 wd768 wd744 wd769) rfl rfl rfl (by decide +kernel) ⟨Nat.le_of_ble_eq_true rfl, Nat.le_of_ble_eq_true rfl⟩) hK hN hP hD [0, 3, 1] rfl (by decide) 0 8 rfl rfl rfl hl.1 rfl (Nat.le_of_ble_eq_true rfl) dX9_newName_94 ⟨Nat.zero_le _, Nat.zero_le _⟩) hP hD hS hA [0, 3, 1] [2] rfl rfl (by decide) (by decide) [1, 3, 0, 2] (by decide) rfl rfl (fun H locs hP hD hS => ?_)
        cases hok
        subst hQe; exact W.vret hx hb hr (fun t ht hW => ⟨⟨(), rfl, trivial, by rw [ht]; exact hP, va_K.moved hW.alike hK, hD⟩, hS.F ht⟩) hS.2.2 dX9_newName_97
      · have hok := k_neg c50 hok
        refine lv_aload_n hx hb dX9_newName_53 rfl (lv_at hl 0 rfl) ?_
        refine va_get (D := D) (ci := 8) (v := .ref (qM 16)) (C := RX9) (T := TX9) (N := 29) hx hb ht0 niX9 hown hK hP 0 rfl rfl 16 (by decide) (ht0 _ wd778) (fun _ h9 => h9) rfl dX9_newName_54 ?_
        refine lv_sipush (v := 136) hx hb dX9_newName_57 (by decide) ?_
        refine lv_bipush (v := 8) hx hb dX9_newName_60 (by decide) ?_
        refine lv_iload_n hx hb dX9_newName_62 rfl (lv_at hl 1 rfl) ?_
        refine lv_imul hx hb dX9_newName_63 ?_
        refine lv_iadd hx hb dX9_newName_64 ?_
        refine lv_iload_n hx hb dX9_newName_65 rfl (lv_at hl 2 rfl) ?_
        refine lv_iadd hx hb dX9_newName_66 ?_
        refine lv_aload_n hx hb dX9_newName_67 rfl (lv_at hl 0 rfl) ?_
        refine va_get (D := D) (ci := 8) (v := .ref (qM 12)) (C := RX9) (T := TX9) (N := 29) hx hb ht0 niX9 hown hK hP 0 rfl rfl 12 (by decide) (ht0 _ wd755) (fun _ h9 => h9) rfl dX9_newName_68 ?_
        refine lv_iload_n hx hb dX9_newName_71 rfl (lv_at hl 2 rfl) ?_
        obtain ⟨g72, hok⟩ := gd_some hok
        refine va_iald hx hb hK hP 1 0 rfl rfl (okI_in g72) dX9_newName_72 ?_
        obtain ⟨g73, hok⟩ := gd_some hok
        refine va_iast hx hb hK hP hD hS 2 0 rfl rfl (okI_in g73) dX9_newName_73 (fun H locs hP hD hS => ?_)
        have hP : va_P D vwCl (wX9_newName cy aM qM vM_45 vM_letters (upd vM_fresh_45 (((136 : Int32) + ((8 : Int32) * x1)) + y2_45).toNatClampNeg (vM_letters y2_45.toNatClampNeg)) vM_tape) H := hP
        have hD : va_D A (wX9_newName cy aM qM vM_45 vM_letters (upd vM_fresh_45 (((136 : Int32) + ((8 : Int32) * x1)) + y2_45).toNatClampNeg (vM_letters y2_45.toNatClampNeg)) vM_tape) := hD
        refine lv_iinc (v := (y2_45 + 1)) (lv' := [(2, .int (y2_45 + 1)), (0, .ref aM), (1, .int x1)]) hx hb dX9_newName_74 hl (k := 2) rfl (by first | rfl | decide) (by decide) rfl (fun ls hl => ?_)
        refine lv_goto (tgt := 45) hx hb dX9_newName_77 (by decide) ?_
        exact ih45 (y2_45 + 1) (upd vM_fresh_45 (((136 : Int32) + ((8 : Int32) * x1)) + y2_45).toNatClampNeg (vM_letters y2_45.toNatClampNeg)) vM_45 H locs ls hP hD hS (lv_sub hl [1, 2, 0] rfl) (hR45 _ (Option.some.inj hok).symm)
  have J35 : ∀ (vM_35 : Nat → Int32), ∀ (H : Heap) (locs : List Loc) (ls : Array Slot), va_P D vwCl (wX9_newName cy aM qM vM_35 vM_letters vM_fresh vM_tape) H → va_D A (wX9_newName cy aM qM vM_35 vM_letters vM_fresh vM_tape) → va_S A s.heap H locs → lv_has ls 3 [(0, .ref aM), (1, .int x1)] → fX9_newName_J35 vM_letters vM_fresh vM_tape x1 vM_35 = some (z_vM, z_vM_letters, z_vM_fresh) → W p l e ({ frames := 6, cells := 0, slots := 0, locals := 128 } : Room) s m ([.ref aM, .int x1] : List Value).toArray below meth c H locs 0 0 Q (F0 m 35 ls []) := by
    intro vM_35 H locs ls hP hD hS hl hok
    unfold fX9_newName_J35 at hok
    refine lv_aload_n hx hb dX9_newName_35 rfl (lv_at hl 0 rfl) ?_
    refine va_get (D := D) (ci := 8) (v := .int (vM_35 13)) (C := RX9) (T := TX9) (N := 29) hx hb ht0 niX9 hown hK hP 0 rfl rfl 13 (by decide) (ht0 _ wd757) (fun _ h9 => h9) rfl dX9_newName_36 ?_
    refine lv_if_eq (tgt := 43) hx hb dX9_newName_39 (by decide) (fun c39 => ?_) (fun c39 => ?_)
    · have hok := k_pos c39 hok
      refine lv_iconst (v := 0) hx hb dX9_newName_43 (by decide) ?_
      refine lv_istore_n (lv' := [(2, .int 0), (0, .ref aM), (1, .int x1)]) hx hb dX9_newName_44 rfl hl (by decide) rfl (fun ls hl => ?_)
      exact L45 5000 (0 : Int32) vM_fresh vM_35 H locs ls hP hD hS (lv_sub hl [1, 2, 0] rfl) hok
    · have hok := k_neg c39 hok
      cases hok
      subst hQe; exact W.vret hx hb hr (fun t ht hW => ⟨⟨(), rfl, trivial, by rw [ht]; exact hP, va_K.moved hW.alike hK, hD⟩, hS.F ht⟩) hS.2.2 dX9_newName_42
  unfold fX9_newName at hok
  obtain ⟨H, hH⟩ : ∃ H, H = s.heap := ⟨_, rfl⟩
  obtain ⟨locs, hlc⟩ : ∃ x : List Loc, x = [] := ⟨_, rfl⟩
  have hP : va_P D vwCl (wX9_newName cy aM qM vM vM_letters vM_fresh vM_tape) H := by rw [hH]; exact hP
  have hS : va_S A s.heap H locs := by rw [hH, hlc]; exact hS
  rw [show W p l e _ s m _ below meth c s.heap [] = W p l e _ s m _ below meth c H locs from by rw [hH, hlc]]
  refine lv_aload_n hx hb dX9_newName_0 rfl (lv_at hl 0 rfl) ?_
  refine va_get (D := D) (ci := 8) (v := .int (vM 13)) (C := RX9) (T := TX9) (N := 29) hx hb ht0 niX9 hown hK hP 0 rfl rfl 13 (by decide) (ht0 _ wd757) (fun _ h9 => h9) rfl dX9_newName_1 ?_
  refine lv_if_eq (tgt := 8) hx hb dX9_newName_4 (by decide) (fun c4 => ?_) (fun c4 => ?_)
  · have hok := k_pos c4 hok
    refine lv_aload_n hx hb dX9_newName_8 rfl (lv_at hl 0 rfl) ?_
    obtain ⟨vM_9, hc9, hok⟩ := k_bind hok
    refine kCv (wc := (wX9_mustName cy aM qM vM vM_letters)) (wc2 := (wX9_mustName cy aM qM vM_9 vM_letters)) (wr := [(qM 16, rI cy 224 vM_fresh), (qM 1, rI cy 900 vM_tape)]) (ws2 := (wX9_newName cy aM qM vM_9 vM_letters vM_fresh vM_tape)) (kRunVS (As := []) (rest := []) ⟨hx, hb, hml, hown, ht0⟩ (kX9_mustName l D cy ad _ aM qM vM vM_letters vM_9 hc9 _ rfl) (cwV 0 ht0 (gV wd779 wd780 wd781 wd744 wd782) rfl rfl rfl (by decide +kernel) ⟨Nat.le_of_ble_eq_true rfl, Nat.le_of_ble_eq_true rfl⟩) hK hN hP hD hSt hS hA [0, 1] rfl (by decide) 0 8 rfl rfl rfl hl.1 rfl (Nat.le_of_ble_eq_true rfl) dX9_newName_9 ⟨Nat.zero_le _, Nat.zero_le _⟩) hP hD hS hA [0, 1] [2, 3] rfl rfl (by decide) (by decide) [2, 3, 0, 1] (by decide) rfl rfl (fun H locs hP hD hS => ?_)
    refine lv_aload_n hx hb dX9_newName_12 rfl (lv_at hl 0 rfl) ?_
    refine va_get (D := D) (ci := 8) (v := .int (vM_9 13)) (C := RX9) (T := TX9) (N := 29) hx hb ht0 niX9 hown hK hP 0 rfl rfl 13 (by decide) (ht0 _ wd757) (fun _ h9 => h9) rfl dX9_newName_13 ?_
    refine lv_if_ne (tgt := 35) hx hb dX9_newName_16 (by decide) (fun c16 => ?_) (fun c16 => ?_)
    · have hok := k_neg c16 hok
      exact J35 vM_9 H locs ls hP hD hS (lv_sub hl [0, 1] rfl) hok
    · have hok := k_pos c16 hok
      refine lv_aload_n hx hb dX9_newName_19 rfl (lv_at hl 0 rfl) ?_
      obtain ⟨r20, hc20, hok⟩ := k_bind hok
      refine kCi (wc := (wX9_find cy aM qM vM_9 vM_fresh vM_letters)) (wc2 := (wX9_find cy aM qM vM_9 vM_fresh vM_letters)) (wr := [(qM 1, rI cy 900 vM_tape)]) (ws2 := (wX9_newName cy aM qM vM_9 vM_letters vM_fresh vM_tape)) (kRunV (As := []) (rest := []) ⟨hx, hb, hml, hown, ht0⟩ (kX9_find l D cy _ aM qM vM_9 vM_fresh vM_letters r20 hc20 _ rfl) (cwV 0 ht0 (gV wd783 wd784 wd785 wd744 wd786) rfl rfl rfl (by decide +kernel) ⟨Nat.le_of_ble_eq_true rfl, Nat.le_of_ble_eq_true rfl⟩) hK hN hP hD [0, 2, 1] rfl (by decide) 0 8 rfl rfl rfl hl.1 rfl (Nat.le_of_ble_eq_true rfl) dX9_newName_20 ⟨Nat.zero_le _, Nat.zero_le _⟩) hP hD hS hA [0, 2, 1] [3] rfl rfl (by decide) (by decide) [1, 3, 2, 0] (by decide) rfl rfl (fun H locs hP hD hS => ?_)
      refine lv_if_lt (tgt := 35) hx hb dX9_newName_23 (by decide) (fun c23 => ?_) (fun c23 => ?_)
      · have hok := k_pos c23 hok
        exact J35 vM_9 H locs ls hP hD hS (lv_sub hl [0, 1] rfl) hok
      · have hok := k_neg c23 hok
        refine lv_aload_n hx hb dX9_newName_26 rfl (lv_at hl 0 rfl) ?_
        refine lv_iconst (v := 3) hx hb dX9_newName_27 (by decide) ?_
        refine lv_aload_n hx hb dX9_newName_28 rfl (lv_at hl 0 rfl) ?_
        refine va_get (D := D) (ci := 8) (v := .int (vM_9 4)) (C := RX9) (T := TX9) (N := 29) hx hb ht0 niX9 hown hK hP 0 rfl rfl 4 (by decide) (ht0 _ wd756) (fun _ h9 => h9) rfl dX9_newName_29 ?_
        obtain ⟨vM_32, hc32, hok⟩ := k_bind hok
        refine kCv (wc := (wX9_wrong cy aM qM vM_9)) (wc2 := (wX9_wrong cy aM qM vM_32)) (wr := [(qM 12, rI cy 8 vM_letters), (qM 16, rI cy 224 vM_fresh), (qM 1, rI cy 900 vM_tape)]) (ws2 := (wX9_newName cy aM qM vM_32 vM_letters vM_fresh vM_tape)) (kRunV (As := [.int 3, .int (vM_9 4)]) (rest := []) ⟨hx, hb, hml, hown, ht0⟩ (kX9_wrong l D cy _ aM qM vM_9 (3 : Int32) (vM_9 4) vM_32 hc32 _ rfl) (cwV 2 ht0 (gV wd774 wd775 wd776 wd744 wd777) rfl rfl rfl (by decide +kernel) ⟨Nat.le_of_ble_eq_true rfl, Nat.le_of_ble_eq_true rfl⟩) hK hN hP hD [0] rfl (by decide) 0 8 rfl rfl rfl hl.1 rfl (Nat.le_of_ble_eq_true rfl) dX9_newName_32 ⟨Nat.zero_le _, Nat.zero_le _⟩) hP hD hS hA [0] [1, 2, 3] rfl rfl (by decide) (by decide) [3, 0, 1, 2] (by decide) rfl rfl (fun H locs hP hD hS => ?_)
        exact J35 vM_32 H locs ls hP hD hS (lv_sub hl [0, 1] rfl) hok
  · have hok := k_neg c4 hok
    cases hok
    subst hQe; exact W.vret hx hb hr (fun t ht hW => ⟨⟨(), rfl, trivial, by rw [ht]; exact hP, va_K.moved hW.alike hK, hD⟩, hS.F ht⟩) hS.2.2 dX9_newName_7
def wsX9_named : List Cond := .code yX9_named cX9_named 4 (some .int) :: W0
abbrev wX9_named (cy : Nat → ClassId) (aM : Nat) (qM : Nat → Nat) (vM : Nat → Int32) (vM_letters : Nat → Int32) (vM_fresh : Nat → Int32) (vM_tape : Nat → Int32) : va_W := [(aM, oX9 vM qM), (qM 12, rI cy 8 vM_letters), (qM 16, rI cy 224 vM_fresh), (qM 1, rI cy 900 vM_tape)]
set_option maxHeartbeats 4000000 in
set_option maxRecDepth 100000 in
theorem kX9_named (l : Launch) (D : va_G) (cy : Nat → ClassId) (ad : (Nat → Nat) × (Nat → Nat)) (sz : Nat) (aM : Nat) (qM : Nat → Nat) (vM : Nat → Int32) (vM_letters : Nat → Int32) (vM_fresh : Nat → Int32) (vM_tape : Nat → Int32) (x1 : Int32) (x2 : Int32) (zr : Int32) (z_vM : Nat → Int32) (z_vM_letters : Nat → Int32) (hok : fX9_named vM vM_letters vM_fresh vM_tape x1 x2 = some (zr, z_vM, z_vM_letters)) (A : Nat → Prop) (hAe : va_A (wX9_named cy aM qM vM vM_letters vM_fresh vM_tape) sz = A) : Met l yX9_named wsX9_named ({ frames := 6, cells := 0, slots := 0, locals := 128 } : Room) (kPreS D cy ad [.ref aM, .int x1, .int x2] (wX9_named cy aM qM vM vM_letters vM_fresh vM_tape) sz A) (kQi D cy zr A (wX9_named cy aM qM z_vM z_vM_letters vM_fresh vM_tape)) 0 0 A := by
  refine Met.ofW (cc := cX9_named) (maxL := 4) (ret := (some .int)) (by decide) rfl ?_
  intro p e s m args below meth c s₁ B hml hv
  obtain ⟨rfl, ⟨hsz, hP, hK, hD0, hN⟩, hSt⟩ := hv
  have hx := B.exec
  have hb := B.bytes
  have hr := B.returns
  have ht0 : ∀ w ∈ W0, w.before _ s = true := fun w h => atoms_spec (ws := wsX9_named) B.pre w (List.mem_cons_of_mem _ h)
  have hown : s.vm.findClass RX9 = some m.cls := findClass_of_methodNamed B.named
  have hlocks := B.notSynchronized
  subst hsz
  have hD : va_D A (wX9_named cy aM qM vM vM_letters vM_fresh vM_tape) := by rw [← hAe]; exact hD0.self
  have hA : ∀ q : Nat, s.heap.size ≤ q → A q := fun q h => by rw [← hAe]; exact Or.inr h
  have hS : va_S A s.heap s.heap [] := va_S.rf
  have hl := lv_entry ([.ref aM, .int x1, .int x2]) (n := 4) (Nat.le_of_ble_eq_true rfl)
  rw [lg_entry_eq]
  generalize (lg_sl ([.ref aM, .int x1, .int x2]) ++ List.replicate (4 - (lg_sl ([.ref aM, .int x1, .int x2])).length) Slot.unset).toArray = ls at hl ⊢
  have hl : lv_has ls 4 [(0, .ref aM), (1, .int x1), (2, .int x2)] := hl
  generalize hQe : MQ below (kQi D cy zr A (wX9_named cy aM qM z_vM z_vM_letters vM_fresh vM_tape)) ([.ref aM, .int x1, .int x2] : List Value).toArray s 0 0 A = Q
  have J45 : ∀ (y3_45 : Int32) (vM_45 : Nat → Int32), ∀ (H : Heap) (locs : List Loc) (ls : Array Slot), va_P D vwCl (wX9_named cy aM qM vM_45 vM_letters vM_fresh vM_tape) H → va_D A (wX9_named cy aM qM vM_45 vM_letters vM_fresh vM_tape) → va_S A s.heap H locs → lv_has ls 4 [(0, .ref aM), (1, .int x1), (3, .int y3_45)] → fX9_named_J45 vM_letters vM_tape x1 y3_45 vM_45 = some (zr, z_vM, z_vM_letters) → W p l e ({ frames := 6, cells := 0, slots := 0, locals := 128 } : Room) s m ([.ref aM, .int x1, .int x2] : List Value).toArray below meth c H locs 0 0 Q (F0 m 45 ls []) := by
    intro y3_45 vM_45 H locs ls hP hD hS hl hok
    unfold fX9_named_J45 at hok
    refine lv_aload_n hx hb dX9_named_45 rfl (lv_at hl 0 rfl) ?_
    refine va_get (D := D) (ci := 8) (v := .int (vM_45 13)) (C := RX9) (T := TX9) (N := 29) hx hb ht0 niX9 hown hK hP 0 rfl rfl 13 (by decide) (ht0 _ wd757) (fun _ h9 => h9) rfl dX9_named_46 ?_
    refine lv_if_eq (tgt := 54) hx hb dX9_named_49 (by decide) (fun c49 => ?_) (fun c49 => ?_)
    · have hok := k_pos c49 hok
      refine lv_aload_n hx hb dX9_named_54 rfl (lv_at hl 0 rfl) ?_
      obtain ⟨⟨vM_55, vM_letters_55⟩, hc55, hok⟩ := k_bind hok
      try dsimp only at hok
      refine kCv (wc := (wX9_next cy aM qM vM_45 vM_tape vM_letters)) (wc2 := (wX9_next cy aM qM vM_55 vM_tape vM_letters_55)) (wr := [(qM 16, rI cy 224 vM_fresh)]) (ws2 := (wX9_named cy aM qM vM_55 vM_letters_55 vM_fresh vM_tape)) (kRunV (As := []) (rest := []) ⟨hx, hb, hml, hown, ht0⟩ (kX9_next l D cy _ aM qM vM_45 vM_tape vM_letters vM_55 vM_letters_55 hc55 _ rfl) (cwV 0 ht0 (gV wd766 wd767 wd768 wd744 wd769) rfl rfl rfl (by decide +kernel) ⟨Nat.le_of_ble_eq_true rfl, Nat.le_of_ble_eq_true rfl⟩) hK hN hP hD [0, 3, 1] rfl (by decide) 0 8 rfl rfl rfl hl.1 rfl (Nat.le_of_ble_eq_true rfl) dX9_named_55 ⟨Nat.zero_le _, Nat.zero_le _⟩) hP hD hS hA [0, 3, 1] [2] rfl rfl (by decide) (by decide) [1, 3, 0, 2] (by decide) rfl rfl (fun H locs hP hD hS => ?_)
      refine lv_iload_n hx hb dX9_named_58 rfl (lv_at hl 2 rfl) ?_
      refine lv_iload_n hx hb dX9_named_59 rfl (lv_at hl 1 rfl) ?_
      refine lv_isub hx hb dX9_named_60 ?_
      cases hok
      subst hQe; exact W.iret hx hb hr (fun t ht hW => ⟨⟨_, (), rfl, rfl, by rw [ht]; exact hP, va_K.moved hW.alike hK, hD⟩, hS.F ht⟩) hS.2.2 dX9_named_61
    · have hok := k_neg c49 hok
      refine lv_iconst (v := 0) hx hb dX9_named_52 (by decide) ?_
      cases hok
      subst hQe; exact W.iret hx hb hr (fun t ht hW => ⟨⟨_, (), rfl, rfl, by rw [ht]; exact hP, va_K.moved hW.alike hK, hD⟩, hS.F ht⟩) hS.2.2 dX9_named_53
  unfold fX9_named at hok
  obtain ⟨H, hH⟩ : ∃ H, H = s.heap := ⟨_, rfl⟩
  obtain ⟨locs, hlc⟩ : ∃ x : List Loc, x = [] := ⟨_, rfl⟩
  have hP : va_P D vwCl (wX9_named cy aM qM vM vM_letters vM_fresh vM_tape) H := by rw [hH]; exact hP
  have hS : va_S A s.heap H locs := by rw [hH, hlc]; exact hS
  rw [show W p l e _ s m _ below meth c s.heap [] = W p l e _ s m _ below meth c H locs from by rw [hH, hlc]]
  refine lv_aload_n hx hb dX9_named_0 rfl (lv_at hl 0 rfl) ?_
  refine va_get (D := D) (ci := 8) (v := .int (vM 13)) (C := RX9) (T := TX9) (N := 29) hx hb ht0 niX9 hown hK hP 0 rfl rfl 13 (by decide) (ht0 _ wd757) (fun _ h9 => h9) rfl dX9_named_1 ?_
  refine lv_if_eq (tgt := 9) hx hb dX9_named_4 (by decide) (fun c4 => ?_) (fun c4 => ?_)
  · have hok := k_pos c4 hok
    refine lv_aload_n hx hb dX9_named_9 rfl (lv_at hl 0 rfl) ?_
    obtain ⟨vM_10, hc10, hok⟩ := k_bind hok
    refine kCv (wc := (wX9_mustName cy aM qM vM vM_letters)) (wc2 := (wX9_mustName cy aM qM vM_10 vM_letters)) (wr := [(qM 16, rI cy 224 vM_fresh), (qM 1, rI cy 900 vM_tape)]) (ws2 := (wX9_named cy aM qM vM_10 vM_letters vM_fresh vM_tape)) (kRunVS (As := []) (rest := []) ⟨hx, hb, hml, hown, ht0⟩ (kX9_mustName l D cy ad _ aM qM vM vM_letters vM_10 hc10 _ rfl) (cwV 0 ht0 (gV wd779 wd780 wd781 wd744 wd782) rfl rfl rfl (by decide +kernel) ⟨Nat.le_of_ble_eq_true rfl, Nat.le_of_ble_eq_true rfl⟩) hK hN hP hD hSt hS hA [0, 1] rfl (by decide) 0 8 rfl rfl rfl hl.1 rfl (Nat.le_of_ble_eq_true rfl) dX9_named_10 ⟨Nat.zero_le _, Nat.zero_le _⟩) hP hD hS hA [0, 1] [2, 3] rfl rfl (by decide) (by decide) [2, 3, 0, 1] (by decide) rfl rfl (fun H locs hP hD hS => ?_)
    refine lv_aload_n hx hb dX9_named_13 rfl (lv_at hl 0 rfl) ?_
    refine va_get (D := D) (ci := 8) (v := .int (vM_10 13)) (C := RX9) (T := TX9) (N := 29) hx hb ht0 niX9 hown hK hP 0 rfl rfl 13 (by decide) (ht0 _ wd757) (fun _ h9 => h9) rfl dX9_named_14 ?_
    refine lv_if_eq (tgt := 22) hx hb dX9_named_17 (by decide) (fun c17 => ?_) (fun c17 => ?_)
    · have hok := k_pos c17 hok
      refine lv_aload_n hx hb dX9_named_22 rfl (lv_at hl 0 rfl) ?_
      obtain ⟨r23, hc23, hok⟩ := k_bind hok
      refine kCi (wc := (wX9_find cy aM qM vM_10 vM_fresh vM_letters)) (wc2 := (wX9_find cy aM qM vM_10 vM_fresh vM_letters)) (wr := [(qM 1, rI cy 900 vM_tape)]) (ws2 := (wX9_named cy aM qM vM_10 vM_letters vM_fresh vM_tape)) (kRunV (As := []) (rest := []) ⟨hx, hb, hml, hown, ht0⟩ (kX9_find l D cy _ aM qM vM_10 vM_fresh vM_letters r23 hc23 _ rfl) (cwV 0 ht0 (gV wd783 wd784 wd785 wd744 wd786) rfl rfl rfl (by decide +kernel) ⟨Nat.le_of_ble_eq_true rfl, Nat.le_of_ble_eq_true rfl⟩) hK hN hP hD [0, 2, 1] rfl (by decide) 0 8 rfl rfl rfl hl.1 rfl (Nat.le_of_ble_eq_true rfl) dX9_named_23 ⟨Nat.zero_le _, Nat.zero_le _⟩) hP hD hS hA [0, 2, 1] [3] rfl rfl (by decide) (by decide) [1, 3, 2, 0] (by decide) rfl rfl (fun H locs hP hD hS => ?_)
      refine lv_istore_n (lv' := [(3, .int r23), (0, .ref aM), (1, .int x1), (2, .int x2)]) hx hb dX9_named_26 rfl hl (by decide) rfl (fun ls hl => ?_)
      refine lv_iload_n hx hb dX9_named_27 rfl (lv_at hl 0 rfl) ?_
      refine lv_iload_n hx hb dX9_named_28 rfl (lv_at hl 2 rfl) ?_
      refine lv_iload_n hx hb dX9_named_29 rfl (lv_at hl 3 rfl) ?_
      obtain ⟨r30, hc30, hok⟩ := k_bind hok
      refine kCi (wc := (wX9_in cy )) (wc2 := (wX9_in cy )) (wr := [(aM, oX9 vM_10 qM), (qM 12, rI cy 8 vM_letters), (qM 16, rI cy 224 vM_fresh), (qM 1, rI cy 900 vM_tape)]) (ws2 := (wX9_named cy aM qM vM_10 vM_letters vM_fresh vM_tape)) (kRunS (As := [.int r23, .int x1, .int x2]) (rest := []) ⟨hx, hb, hml, hown, ht0⟩ (kX9_in l D cy _ r23 x1 x2 r30 hc30 _ rfl) (va_cwS 3 ht0 (gS wd787 wd788 wd744 wd789) rfl rfl rfl (by decide +kernel) ⟨Nat.le_of_ble_eq_true rfl, Nat.le_of_ble_eq_true rfl⟩) hK hN hP hD [] rfl (by decide) rfl hl.1 rfl (Nat.le_of_ble_eq_true rfl) dX9_named_30 ⟨Nat.zero_le _, Nat.zero_le _⟩) hP hD hS hA [] [0, 1, 2, 3] rfl rfl (by decide) (by decide) [0, 1, 2, 3] (by decide) rfl rfl (fun H locs hP hD hS => ?_)
      refine lv_if_ne (tgt := 45) hx hb dX9_named_33 (by decide) (fun c33 => ?_) (fun c33 => ?_)
      · have hok := k_neg c33 hok
        exact J45 r23 vM_10 H locs ls hP hD hS (lv_sub hl [1, 2, 0] rfl) hok
      · have hok := k_pos c33 hok
        refine lv_aload_n hx hb dX9_named_36 rfl (lv_at hl 1 rfl) ?_
        refine lv_iconst (v := 2) hx hb dX9_named_37 (by decide) ?_
        refine lv_aload_n hx hb dX9_named_38 rfl (lv_at hl 1 rfl) ?_
        refine va_get (D := D) (ci := 8) (v := .int (vM_10 4)) (C := RX9) (T := TX9) (N := 29) hx hb ht0 niX9 hown hK hP 0 rfl rfl 4 (by decide) (ht0 _ wd756) (fun _ h9 => h9) rfl dX9_named_39 ?_
        obtain ⟨vM_42, hc42, hok⟩ := k_bind hok
        refine kCv (wc := (wX9_wrong cy aM qM vM_10)) (wc2 := (wX9_wrong cy aM qM vM_42)) (wr := [(qM 12, rI cy 8 vM_letters), (qM 16, rI cy 224 vM_fresh), (qM 1, rI cy 900 vM_tape)]) (ws2 := (wX9_named cy aM qM vM_42 vM_letters vM_fresh vM_tape)) (kRunV (As := [.int 2, .int (vM_10 4)]) (rest := []) ⟨hx, hb, hml, hown, ht0⟩ (kX9_wrong l D cy _ aM qM vM_10 (2 : Int32) (vM_10 4) vM_42 hc42 _ rfl) (cwV 2 ht0 (gV wd774 wd775 wd776 wd744 wd777) rfl rfl rfl (by decide +kernel) ⟨Nat.le_of_ble_eq_true rfl, Nat.le_of_ble_eq_true rfl⟩) hK hN hP hD [0] rfl (by decide) 0 8 rfl rfl rfl hl.1 rfl (Nat.le_of_ble_eq_true rfl) dX9_named_42 ⟨Nat.zero_le _, Nat.zero_le _⟩) hP hD hS hA [0] [1, 2, 3] rfl rfl (by decide) (by decide) [3, 0, 1, 2] (by decide) rfl rfl (fun H locs hP hD hS => ?_)
        exact J45 r23 vM_42 H locs ls hP hD hS (lv_sub hl [1, 2, 0] rfl) hok
    · have hok := k_neg c17 hok
      refine lv_iconst (v := 0) hx hb dX9_named_20 (by decide) ?_
      cases hok
      subst hQe; exact W.iret hx hb hr (fun t ht hW => ⟨⟨_, (), rfl, rfl, by rw [ht]; exact hP, va_K.moved hW.alike hK, hD⟩, hS.F ht⟩) hS.2.2 dX9_named_21
  · have hok := k_neg c4 hok
    refine lv_iconst (v := 0) hx hb dX9_named_7 (by decide) ?_
    cases hok
    subst hQe; exact W.iret hx hb hr (fun t ht hW => ⟨⟨_, (), rfl, rfl, by rw [ht]; exact hP, va_K.moved hW.alike hK, hD⟩, hS.F ht⟩) hS.2.2 dX9_named_8
def wsX9_ringName : List Cond := .code yX9_ringName cX9_ringName 1 (some .int) :: W0
abbrev wX9_ringName (cy : Nat → ClassId) (aM : Nat) (qM : Nat → Nat) (vM : Nat → Int32) (vM_letters : Nat → Int32) (vM_fresh : Nat → Int32) (vM_tape : Nat → Int32) : va_W := [(aM, oX9 vM qM), (qM 12, rI cy 8 vM_letters), (qM 16, rI cy 224 vM_fresh), (qM 1, rI cy 900 vM_tape)]
set_option maxHeartbeats 4000000 in
set_option maxRecDepth 100000 in
theorem kX9_ringName (l : Launch) (D : va_G) (cy : Nat → ClassId) (ad : (Nat → Nat) × (Nat → Nat)) (sz : Nat) (aM : Nat) (qM : Nat → Nat) (vM : Nat → Int32) (vM_letters : Nat → Int32) (vM_fresh : Nat → Int32) (vM_tape : Nat → Int32) (zr : Int32) (z_vM : Nat → Int32) (z_vM_letters : Nat → Int32) (hok : fX9_ringName vM vM_letters vM_fresh vM_tape = some (zr, z_vM, z_vM_letters)) (A : Nat → Prop) (hAe : va_A (wX9_ringName cy aM qM vM vM_letters vM_fresh vM_tape) sz = A) : Met l yX9_ringName wsX9_ringName ({ frames := 7, cells := 0, slots := 0, locals := 151 } : Room) (kPreS D cy ad [.ref aM] (wX9_ringName cy aM qM vM vM_letters vM_fresh vM_tape) sz A) (kQi D cy zr A (wX9_ringName cy aM qM z_vM z_vM_letters vM_fresh vM_tape)) 0 0 A := by
  refine Met.ofW (cc := cX9_ringName) (maxL := 1) (ret := (some .int)) (by decide) rfl ?_
  intro p e s m args below meth c s₁ B hml hv
  obtain ⟨rfl, ⟨hsz, hP, hK, hD0, hN⟩, hSt⟩ := hv
  have hx := B.exec
  have hb := B.bytes
  have hr := B.returns
  have ht0 : ∀ w ∈ W0, w.before _ s = true := fun w h => atoms_spec (ws := wsX9_ringName) B.pre w (List.mem_cons_of_mem _ h)
  have hown : s.vm.findClass RX9 = some m.cls := findClass_of_methodNamed B.named
  have hlocks := B.notSynchronized
  subst hsz
  have hD : va_D A (wX9_ringName cy aM qM vM vM_letters vM_fresh vM_tape) := by rw [← hAe]; exact hD0.self
  have hA : ∀ q : Nat, s.heap.size ≤ q → A q := fun q h => by rw [← hAe]; exact Or.inr h
  have hS : va_S A s.heap s.heap [] := va_S.rf
  have hl := lv_entry ([.ref aM]) (n := 1) (Nat.le_of_ble_eq_true rfl)
  rw [lg_entry_eq]
  generalize (lg_sl ([.ref aM]) ++ List.replicate (1 - (lg_sl ([.ref aM])).length) Slot.unset).toArray = ls at hl ⊢
  have hl : lv_has ls 1 [(0, .ref aM)] := hl
  unfold fX9_ringName at hok
  obtain ⟨H, hH⟩ : ∃ H, H = s.heap := ⟨_, rfl⟩
  obtain ⟨locs, hlc⟩ : ∃ x : List Loc, x = [] := ⟨_, rfl⟩
  have hP : va_P D vwCl (wX9_ringName cy aM qM vM vM_letters vM_fresh vM_tape) H := by rw [hH]; exact hP
  have hS : va_S A s.heap H locs := by rw [hH, hlc]; exact hS
  rw [show W p l e _ s m _ below meth c s.heap [] = W p l e _ s m _ below meth c H locs from by rw [hH, hlc]]
  refine lv_aload_n hx hb dX9_ringName_0 rfl (lv_at hl 0 rfl) ?_
  refine lv_iconst (v := 0) hx hb dX9_ringName_1 (by decide) ?_
  refine lv_iconst (v := 3) hx hb dX9_ringName_2 (by decide) ?_
  obtain ⟨⟨r3, vM_3, vM_letters_3⟩, hc3, hok⟩ := k_bind hok
  try dsimp only at hok
  refine kCi (wc := (wX9_named cy aM qM vM vM_letters vM_fresh vM_tape)) (wc2 := (wX9_named cy aM qM vM_3 vM_letters_3 vM_fresh vM_tape)) (wr := []) (ws2 := (wX9_ringName cy aM qM vM_3 vM_letters_3 vM_fresh vM_tape)) (kRunVS (As := [.int 0, .int 3]) (rest := []) ⟨hx, hb, hml, hown, ht0⟩ (kX9_named l D cy ad _ aM qM vM vM_letters vM_fresh vM_tape (0 : Int32) (3 : Int32) r3 vM_3 vM_letters_3 hc3 _ rfl) (cwV 2 ht0 (gV wd790 wd791 wd792 wd744 wd793) rfl rfl rfl (by decide +kernel) ⟨Nat.le_of_ble_eq_true rfl, Nat.le_of_ble_eq_true rfl⟩) hK hN hP hD hSt hS hA [0, 1, 2, 3] rfl (by decide) 0 8 rfl rfl rfl hl.1 rfl (Nat.le_of_ble_eq_true rfl) dX9_ringName_3 ⟨Nat.zero_le _, Nat.zero_le _⟩) hP hD hS hA [0, 1, 2, 3] [] rfl rfl (by decide) (by decide) [0, 1, 2, 3] (by decide) rfl rfl (fun H locs hP hD hS => ?_)
  cases hok
  exact W.iret hx hb hr (fun t ht hW => ⟨⟨_, (), rfl, rfl, by rw [ht]; exact hP, va_K.moved hW.alike hK, hD⟩, hS.F ht⟩) hS.2.2 dX9_ringName_6
def wsX9_numberHere : List Cond := .code yX9_numberHere cX9_numberHere 3 (some .int) :: W0
abbrev wX9_numberHere (cy : Nat → ClassId) (aM : Nat) (qM : Nat → Nat) (vM : Nat → Int32) : va_W := [(aM, oX9 vM qM)]
set_option maxHeartbeats 4000000 in
set_option maxRecDepth 100000 in
theorem kX9_numberHere (l : Launch) (D : va_G) (cy : Nat → ClassId) (sz : Nat) (aM : Nat) (qM : Nat → Nat) (vM : Nat → Int32) (x1 : Int32) (x2 : Int32) (zr : Int32) (z_vM : Nat → Int32) (hok : fX9_numberHere vM x1 x2 = some (zr, z_vM)) (A : Nat → Prop) (hAe : va_A (wX9_numberHere cy aM qM vM) sz = A) : Met l yX9_numberHere wsX9_numberHere ({ frames := 1, cells := 0, slots := 0, locals := 22 } : Room) (kPre D cy [.ref aM, .int x1, .int x2] (wX9_numberHere cy aM qM vM) sz) (kQi D cy zr A (wX9_numberHere cy aM qM z_vM)) 0 0 A := by
  refine Met.ofW (cc := cX9_numberHere) (maxL := 3) (ret := (some .int)) (by decide) rfl ?_
  intro p e s m args below meth c s₁ B hml hv
  obtain ⟨rfl, hsz, hP, hK, hD0, hN⟩ := hv
  have hx := B.exec
  have hb := B.bytes
  have hr := B.returns
  have ht0 : ∀ w ∈ W0, w.before _ s = true := fun w h => atoms_spec (ws := wsX9_numberHere) B.pre w (List.mem_cons_of_mem _ h)
  have hown : s.vm.findClass RX9 = some m.cls := findClass_of_methodNamed B.named
  have hlocks := B.notSynchronized
  subst hsz
  have hD : va_D A (wX9_numberHere cy aM qM vM) := by rw [← hAe]; exact hD0.self
  have hA : ∀ q : Nat, s.heap.size ≤ q → A q := fun q h => by rw [← hAe]; exact Or.inr h
  have hS : va_S A s.heap s.heap [] := va_S.rf
  have hl := lv_entry ([.ref aM, .int x1, .int x2]) (n := 3) (Nat.le_of_ble_eq_true rfl)
  rw [lg_entry_eq]
  generalize (lg_sl ([.ref aM, .int x1, .int x2]) ++ List.replicate (3 - (lg_sl ([.ref aM, .int x1, .int x2])).length) Slot.unset).toArray = ls at hl ⊢
  have hl : lv_has ls 3 [(0, .ref aM), (1, .int x1), (2, .int x2)] := hl
  generalize hQe : MQ below (kQi D cy zr A (wX9_numberHere cy aM qM z_vM)) ([.ref aM, .int x1, .int x2] : List Value).toArray s 0 0 A = Q
  have J65 : ∀ (t0_65 : Int32) (vM_65 : Nat → Int32), ∀ (H : Heap) (locs : List Loc) (ls : Array Slot), va_P D vwCl (wX9_numberHere cy aM qM vM_65) H → va_D A (wX9_numberHere cy aM qM vM_65) → va_S A s.heap H locs → lv_has ls 3 [] → fX9_numberHere_J65 t0_65 vM_65 = some (zr, z_vM) → W p l e ({ frames := 1, cells := 0, slots := 0, locals := 22 } : Room) s m ([.ref aM, .int x1, .int x2] : List Value).toArray below meth c H locs 0 0 Q (F0 m 65 ls [.int t0_65]) := by
    intro t0_65 vM_65 H locs ls hP hD hS hl hok
    unfold fX9_numberHere_J65 at hok
    cases hok
    subst hQe; exact W.iret hx hb hr (fun t ht hW => ⟨⟨_, (), rfl, rfl, by rw [ht]; exact hP, va_K.moved hW.alike hK, hD⟩, hS.F ht⟩) hS.2.2 dX9_numberHere_65
  have J50 : ∀ (vM_50 : Nat → Int32), ∀ (H : Heap) (locs : List Loc) (ls : Array Slot), va_P D vwCl (wX9_numberHere cy aM qM vM_50) H → va_D A (wX9_numberHere cy aM qM vM_50) → va_S A s.heap H locs → lv_has ls 3 [(0, .ref aM), (1, .int x1)] → fX9_numberHere_J50 x1 vM_50 = some (zr, z_vM) → W p l e ({ frames := 1, cells := 0, slots := 0, locals := 22 } : Room) s m ([.ref aM, .int x1, .int x2] : List Value).toArray below meth c H locs 0 0 Q (F0 m 50 ls []) := by
    intro vM_50 H locs ls hP hD hS hl hok
    unfold fX9_numberHere_J50 at hok
    refine lv_aload_n hx hb dX9_numberHere_50 rfl (lv_at hl 0 rfl) ?_
    refine va_get (D := D) (ci := 8) (v := .int (vM_50 13)) (C := RX9) (T := TX9) (N := 29) hx hb ht0 niX9 hown hK hP 0 rfl rfl 13 (by decide) (ht0 _ wd757) (fun _ h9 => h9) rfl dX9_numberHere_51 ?_
    refine lv_if_eq (tgt := 61) hx hb dX9_numberHere_54 (by decide) (fun c54 => ?_) (fun c54 => ?_)
    · have hok := k_pos c54 hok
      refine lv_aload_n hx hb dX9_numberHere_61 rfl (lv_at hl 0 rfl) ?_
      refine va_get (D := D) (ci := 8) (v := .int (vM_50 7)) (C := RX9) (T := TX9) (N := 29) hx hb ht0 niX9 hown hK hP 0 rfl rfl 7 (by decide) (ht0 _ wd750) (fun _ h9 => h9) rfl dX9_numberHere_62 ?_
      exact J65 (vM_50 7) vM_50 H locs ls hP hD hS (lv_sub hl [] rfl) hok
    · have hok := k_neg c54 hok
      refine lv_iload_n hx hb dX9_numberHere_57 rfl (lv_at hl 1 rfl) ?_
      refine lv_goto (tgt := 65) hx hb dX9_numberHere_58 (by decide) ?_
      exact J65 x1 vM_50 H locs ls hP hD hS (lv_sub hl [] rfl) hok
  unfold fX9_numberHere at hok
  obtain ⟨H, hH⟩ : ∃ H, H = s.heap := ⟨_, rfl⟩
  obtain ⟨locs, hlc⟩ : ∃ x : List Loc, x = [] := ⟨_, rfl⟩
  have hP : va_P D vwCl (wX9_numberHere cy aM qM vM) H := by rw [hH]; exact hP
  have hS : va_S A s.heap H locs := by rw [hH, hlc]; exact hS
  rw [show W p l e _ s m _ below meth c s.heap [] = W p l e _ s m _ below meth c H locs from by rw [hH, hlc]]
  refine lv_aload_n hx hb dX9_numberHere_0 rfl (lv_at hl 0 rfl) ?_
  refine va_get (D := D) (ci := 8) (v := .int (vM 13)) (C := RX9) (T := TX9) (N := 29) hx hb ht0 niX9 hown hK hP 0 rfl rfl 13 (by decide) (ht0 _ wd757) (fun _ h9 => h9) rfl dX9_numberHere_1 ?_
  refine lv_if_eq (tgt := 9) hx hb dX9_numberHere_4 (by decide) (fun c4 => ?_) (fun c4 => ?_)
  · have hok := k_pos c4 hok
    refine lv_aload_n hx hb dX9_numberHere_9 rfl (lv_at hl 0 rfl) ?_
    refine va_get (D := D) (ci := 8) (v := .int (vM 6)) (C := RX9) (T := TX9) (N := 29) hx hb ht0 niX9 hown hK hP 0 rfl rfl 6 (by decide) (ht0 _ wd740) (fun _ h9 => h9) rfl dX9_numberHere_10 ?_
    refine lv_iconst (v := 3) hx hb dX9_numberHere_13 (by decide) ?_
    refine lv_icmp_eq (tgt := 29) hx hb dX9_numberHere_14 (by decide) (fun c14 => ?_) (fun c14 => ?_)
    · have hok := k_pos c14 hok
      refine lv_aload_n hx hb dX9_numberHere_29 rfl (lv_at hl 0 rfl) ?_
      refine va_get (D := D) (ci := 8) (v := .int (vM 7)) (C := RX9) (T := TX9) (N := 29) hx hb ht0 niX9 hown hK hP 0 rfl rfl 7 (by decide) (ht0 _ wd750) (fun _ h9 => h9) rfl dX9_numberHere_30 ?_
      refine lv_iload_n hx hb dX9_numberHere_33 rfl (lv_at hl 1 rfl) ?_
      refine lv_iload_n hx hb dX9_numberHere_34 rfl (lv_at hl 2 rfl) ?_
      obtain ⟨r35, hc35, hok⟩ := k_bind hok
      refine kCi (wc := (wX9_in cy )) (wc2 := (wX9_in cy )) (wr := [(aM, oX9 vM qM)]) (ws2 := (wX9_numberHere cy aM qM vM)) (kRunS (As := [.int (vM 7), .int x1, .int x2]) (rest := []) ⟨hx, hb, hml, hown, ht0⟩ (kX9_in l D cy _ (vM 7) x1 x2 r35 hc35 _ rfl) (va_cwS 3 ht0 (gS wd787 wd788 wd744 wd789) rfl rfl rfl (by decide +kernel) ⟨Nat.le_of_ble_eq_true rfl, Nat.le_of_ble_eq_true rfl⟩) hK hN hP hD [] rfl (by decide) rfl hl.1 rfl (Nat.le_of_ble_eq_true rfl) dX9_numberHere_35 ⟨Nat.zero_le _, Nat.zero_le _⟩) hP hD hS hA [] [0] rfl rfl (by decide) (by decide) [0] (by decide) rfl rfl (fun H locs hP hD hS => ?_)
      refine lv_if_ne (tgt := 50) hx hb dX9_numberHere_38 (by decide) (fun c38 => ?_) (fun c38 => ?_)
      · have hok := k_neg c38 hok
        exact J50 vM H locs ls hP hD hS (lv_sub hl [0, 1] rfl) hok
      · have hok := k_pos c38 hok
        refine lv_aload_n hx hb dX9_numberHere_41 rfl (lv_at hl 0 rfl) ?_
        refine lv_iconst (v := 4) hx hb dX9_numberHere_42 (by decide) ?_
        refine lv_aload_n hx hb dX9_numberHere_43 rfl (lv_at hl 0 rfl) ?_
        refine va_get (D := D) (ci := 8) (v := .int (vM 4)) (C := RX9) (T := TX9) (N := 29) hx hb ht0 niX9 hown hK hP 0 rfl rfl 4 (by decide) (ht0 _ wd756) (fun _ h9 => h9) rfl dX9_numberHere_44 ?_
        obtain ⟨vM_47, hc47, hok⟩ := k_bind hok
        refine kCv (wc := (wX9_wrong cy aM qM vM)) (wc2 := (wX9_wrong cy aM qM vM_47)) (wr := []) (ws2 := (wX9_numberHere cy aM qM vM_47)) (kRunV (As := [.int 4, .int (vM 4)]) (rest := []) ⟨hx, hb, hml, hown, ht0⟩ (kX9_wrong l D cy _ aM qM vM (4 : Int32) (vM 4) vM_47 hc47 _ rfl) (cwV 2 ht0 (gV wd774 wd775 wd776 wd744 wd777) rfl rfl rfl (by decide +kernel) ⟨Nat.le_of_ble_eq_true rfl, Nat.le_of_ble_eq_true rfl⟩) hK hN hP hD [0] rfl (by decide) 0 8 rfl rfl rfl hl.1 rfl (Nat.le_of_ble_eq_true rfl) dX9_numberHere_47 ⟨Nat.zero_le _, Nat.zero_le _⟩) hP hD hS hA [0] [] rfl rfl (by decide) (by decide) [0] (by decide) rfl rfl (fun H locs hP hD hS => ?_)
        exact J50 vM_47 H locs ls hP hD hS (lv_sub hl [0, 1] rfl) hok
    · have hok := k_neg c14 hok
      refine lv_aload_n hx hb dX9_numberHere_17 rfl (lv_at hl 0 rfl) ?_
      refine lv_iconst (v := 1) hx hb dX9_numberHere_18 (by decide) ?_
      refine lv_aload_n hx hb dX9_numberHere_19 rfl (lv_at hl 0 rfl) ?_
      refine va_get (D := D) (ci := 8) (v := .int (vM 4)) (C := RX9) (T := TX9) (N := 29) hx hb ht0 niX9 hown hK hP 0 rfl rfl 4 (by decide) (ht0 _ wd756) (fun _ h9 => h9) rfl dX9_numberHere_20 ?_
      obtain ⟨vM_23, hc23, hok⟩ := k_bind hok
      refine kCv (wc := (wX9_wrong cy aM qM vM)) (wc2 := (wX9_wrong cy aM qM vM_23)) (wr := []) (ws2 := (wX9_numberHere cy aM qM vM_23)) (kRunV (As := [.int 1, .int (vM 4)]) (rest := []) ⟨hx, hb, hml, hown, ht0⟩ (kX9_wrong l D cy _ aM qM vM (1 : Int32) (vM 4) vM_23 hc23 _ rfl) (cwV 2 ht0 (gV wd774 wd775 wd776 wd744 wd777) rfl rfl rfl (by decide +kernel) ⟨Nat.le_of_ble_eq_true rfl, Nat.le_of_ble_eq_true rfl⟩) hK hN hP hD [0] rfl (by decide) 0 8 rfl rfl rfl hl.1 rfl (Nat.le_of_ble_eq_true rfl) dX9_numberHere_23 ⟨Nat.zero_le _, Nat.zero_le _⟩) hP hD hS hA [0] [] rfl rfl (by decide) (by decide) [0] (by decide) rfl rfl (fun H locs hP hD hS => ?_)
      refine lv_goto (tgt := 50) hx hb dX9_numberHere_26 (by decide) ?_
      exact J50 vM_23 H locs ls hP hD hS (lv_sub hl [0, 1] rfl) hok
  · have hok := k_neg c4 hok
    refine lv_iload_n hx hb dX9_numberHere_7 rfl (lv_at hl 1 rfl) ?_
    cases hok
    subst hQe; exact W.iret hx hb hr (fun t ht hW => ⟨⟨_, (), rfl, rfl, by rw [ht]; exact hP, va_K.moved hW.alike hK, hD⟩, hS.F ht⟩) hS.2.2 dX9_numberHere_8
def wsX9_number : List Cond := .code yX9_number cX9_number 4 (some .int) :: W0
abbrev wX9_number (cy : Nat → ClassId) (aM : Nat) (qM : Nat → Nat) (vM : Nat → Int32) (vM_tape : Nat → Int32) (vM_letters : Nat → Int32) : va_W := [(aM, oX9 vM qM), (qM 1, rI cy 900 vM_tape), (qM 12, rI cy 8 vM_letters)]
set_option maxHeartbeats 4000000 in
set_option maxRecDepth 100000 in
theorem kX9_number (l : Launch) (D : va_G) (cy : Nat → ClassId) (sz : Nat) (aM : Nat) (qM : Nat → Nat) (vM : Nat → Int32) (vM_tape : Nat → Int32) (vM_letters : Nat → Int32) (x1 : Int32) (x2 : Int32) (zr : Int32) (z_vM : Nat → Int32) (z_vM_letters : Nat → Int32) (hok : fX9_number vM vM_tape vM_letters x1 x2 = some (zr, z_vM, z_vM_letters)) (A : Nat → Prop) (hAe : va_A (wX9_number cy aM qM vM vM_tape vM_letters) sz = A) : Met l yX9_number wsX9_number ({ frames := 2, cells := 0, slots := 0, locals := 44 } : Room) (kPre D cy [.ref aM, .int x1, .int x2] (wX9_number cy aM qM vM vM_tape vM_letters) sz) (kQi D cy zr A (wX9_number cy aM qM z_vM vM_tape z_vM_letters)) 0 0 A := by
  refine Met.ofW (cc := cX9_number) (maxL := 4) (ret := (some .int)) (by decide) rfl ?_
  intro p e s m args below meth c s₁ B hml hv
  obtain ⟨rfl, hsz, hP, hK, hD0, hN⟩ := hv
  have hx := B.exec
  have hb := B.bytes
  have hr := B.returns
  have ht0 : ∀ w ∈ W0, w.before _ s = true := fun w h => atoms_spec (ws := wsX9_number) B.pre w (List.mem_cons_of_mem _ h)
  have hown : s.vm.findClass RX9 = some m.cls := findClass_of_methodNamed B.named
  have hlocks := B.notSynchronized
  subst hsz
  have hD : va_D A (wX9_number cy aM qM vM vM_tape vM_letters) := by rw [← hAe]; exact hD0.self
  have hA : ∀ q : Nat, s.heap.size ≤ q → A q := fun q h => by rw [← hAe]; exact Or.inr h
  have hS : va_S A s.heap s.heap [] := va_S.rf
  have hl := lv_entry ([.ref aM, .int x1, .int x2]) (n := 4) (Nat.le_of_ble_eq_true rfl)
  rw [lg_entry_eq]
  generalize (lg_sl ([.ref aM, .int x1, .int x2]) ++ List.replicate (4 - (lg_sl ([.ref aM, .int x1, .int x2])).length) Slot.unset).toArray = ls at hl ⊢
  have hl : lv_has ls 4 [(0, .ref aM), (1, .int x1), (2, .int x2)] := hl
  generalize hQe : MQ below (kQi D cy zr A (wX9_number cy aM qM z_vM vM_tape z_vM_letters)) ([.ref aM, .int x1, .int x2] : List Value).toArray s 0 0 A = Q
  have J18 : ∀ (y3_18 : Int32) (vM_letters_18 : Nat → Int32) (vM_18 : Nat → Int32), ∀ (H : Heap) (locs : List Loc) (ls : Array Slot), va_P D vwCl (wX9_number cy aM qM vM_18 vM_tape vM_letters_18) H → va_D A (wX9_number cy aM qM vM_18 vM_tape vM_letters_18) → va_S A s.heap H locs → lv_has ls 4 [(3, .int y3_18)] → fX9_number_J18 y3_18 vM_letters_18 vM_18 = some (zr, z_vM, z_vM_letters) → W p l e ({ frames := 2, cells := 0, slots := 0, locals := 44 } : Room) s m ([.ref aM, .int x1, .int x2] : List Value).toArray below meth c H locs 0 0 Q (F0 m 18 ls []) := by
    intro y3_18 vM_letters_18 vM_18 H locs ls hP hD hS hl hok
    unfold fX9_number_J18 at hok
    refine lv_iload_n hx hb dX9_number_18 rfl (lv_at hl 0 rfl) ?_
    cases hok
    subst hQe; exact W.iret hx hb hr (fun t ht hW => ⟨⟨_, (), rfl, rfl, by rw [ht]; exact hP, va_K.moved hW.alike hK, hD⟩, hS.F ht⟩) hS.2.2 dX9_number_19
  unfold fX9_number at hok
  obtain ⟨H, hH⟩ : ∃ H, H = s.heap := ⟨_, rfl⟩
  obtain ⟨locs, hlc⟩ : ∃ x : List Loc, x = [] := ⟨_, rfl⟩
  have hP : va_P D vwCl (wX9_number cy aM qM vM vM_tape vM_letters) H := by rw [hH]; exact hP
  have hS : va_S A s.heap H locs := by rw [hH, hlc]; exact hS
  rw [show W p l e _ s m _ below meth c s.heap [] = W p l e _ s m _ below meth c H locs from by rw [hH, hlc]]
  refine lv_aload_n hx hb dX9_number_0 rfl (lv_at hl 0 rfl) ?_
  refine lv_iload_n hx hb dX9_number_1 rfl (lv_at hl 1 rfl) ?_
  refine lv_iload_n hx hb dX9_number_2 rfl (lv_at hl 2 rfl) ?_
  obtain ⟨⟨r3, vM_3⟩, hc3, hok⟩ := k_bind hok
  try dsimp only at hok
  refine kCi (wc := (wX9_numberHere cy aM qM vM)) (wc2 := (wX9_numberHere cy aM qM vM_3)) (wr := [(qM 1, rI cy 900 vM_tape), (qM 12, rI cy 8 vM_letters)]) (ws2 := (wX9_number cy aM qM vM_3 vM_tape vM_letters)) (kRunV (As := [.int x1, .int x2]) (rest := []) ⟨hx, hb, hml, hown, ht0⟩ (kX9_numberHere l D cy _ aM qM vM x1 x2 r3 vM_3 hc3 _ rfl) (cwV 2 ht0 (gV wd794 wd795 wd796 wd744 wd797) rfl rfl rfl (by decide +kernel) ⟨Nat.le_of_ble_eq_true rfl, Nat.le_of_ble_eq_true rfl⟩) hK hN hP hD [0] rfl (by decide) 0 8 rfl rfl rfl hl.1 rfl (Nat.le_of_ble_eq_true rfl) dX9_number_3 ⟨Nat.zero_le _, Nat.zero_le _⟩) hP hD hS hA [0] [1, 2] rfl rfl (by decide) (by decide) [2, 0, 1] (by decide) rfl rfl (fun H locs hP hD hS => ?_)
  refine lv_istore_n (lv' := [(3, .int r3), (0, .ref aM), (1, .int x1), (2, .int x2)]) hx hb dX9_number_6 rfl hl (by decide) rfl (fun ls hl => ?_)
  refine lv_aload_n hx hb dX9_number_7 rfl (lv_at hl 1 rfl) ?_
  refine va_get (D := D) (ci := 8) (v := .int (vM_3 13)) (C := RX9) (T := TX9) (N := 29) hx hb ht0 niX9 hown hK hP 0 rfl rfl 13 (by decide) (ht0 _ wd757) (fun _ h9 => h9) rfl dX9_number_8 ?_
  refine lv_if_ne (tgt := 18) hx hb dX9_number_11 (by decide) (fun c11 => ?_) (fun c11 => ?_)
  · have hok := k_neg c11 hok
    exact J18 r3 vM_letters vM_3 H locs ls hP hD hS (lv_sub hl [0] rfl) hok
  · have hok := k_pos c11 hok
    refine lv_aload_n hx hb dX9_number_14 rfl (lv_at hl 1 rfl) ?_
    obtain ⟨⟨vM_15, vM_letters_15⟩, hc15, hok⟩ := k_bind hok
    try dsimp only at hok
    refine kCv (wc := (wX9_next cy aM qM vM_3 vM_tape vM_letters)) (wc2 := (wX9_next cy aM qM vM_15 vM_tape vM_letters_15)) (wr := []) (ws2 := (wX9_number cy aM qM vM_15 vM_tape vM_letters_15)) (kRunV (As := []) (rest := []) ⟨hx, hb, hml, hown, ht0⟩ (kX9_next l D cy _ aM qM vM_3 vM_tape vM_letters vM_15 vM_letters_15 hc15 _ rfl) (cwV 0 ht0 (gV wd766 wd767 wd768 wd744 wd769) rfl rfl rfl (by decide +kernel) ⟨Nat.le_of_ble_eq_true rfl, Nat.le_of_ble_eq_true rfl⟩) hK hN hP hD [0, 1, 2] rfl (by decide) 0 8 rfl rfl rfl hl.1 rfl (Nat.le_of_ble_eq_true rfl) dX9_number_15 ⟨Nat.zero_le _, Nat.zero_le _⟩) hP hD hS hA [0, 1, 2] [] rfl rfl (by decide) (by decide) [0, 1, 2] (by decide) rfl rfl (fun H locs hP hD hS => ?_)
    exact J18 r3 vM_letters_15 vM_15 H locs ls hP hD hS (lv_sub hl [0] rfl) hok
def wsX9_after : List Cond := .code yX9_after cX9_after 4 (some .int) :: W0
abbrev wX9_after (cy : Nat → ClassId) (aM : Nat) (qM : Nat → Nat) (vM : Nat → Int32) (vM_letters : Nat → Int32) (vM_tape : Nat → Int32) : va_W := [(aM, oX9 vM qM), (qM 12, rI cy 8 vM_letters), (qM 1, rI cy 900 vM_tape)]
set_option maxHeartbeats 4000000 in
set_option maxRecDepth 100000 in
theorem kX9_after (l : Launch) (D : va_G) (cy : Nat → ClassId) (ad : (Nat → Nat) × (Nat → Nat)) (sz : Nat) (aM : Nat) (qM : Nat → Nat) (vM : Nat → Int32) (vM_letters : Nat → Int32) (vM_tape : Nat → Int32) (x1 : Nat) (x2 : Int32) (x3 : Int32) (zr : Int32) (z_vM : Nat → Int32) (z_vM_letters : Nat → Int32) (hok : fX9_after vM vM_letters vM_tape x1 x2 x3 = some (zr, z_vM, z_vM_letters)) (A : Nat → Prop) (hAe : va_A (wX9_after cy aM qM vM vM_letters vM_tape) sz = A) : Met l yX9_after wsX9_after ({ frames := 7, cells := 0, slots := 0, locals := 150 } : Room) (kPreS D cy ad [.ref aM, .ref (ad.1 x1), .int x2, .int x3] (wX9_after cy aM qM vM vM_letters vM_tape) sz A) (kQi D cy zr A (wX9_after cy aM qM z_vM z_vM_letters vM_tape)) 0 0 A := by
  refine Met.ofW (cc := cX9_after) (maxL := 4) (ret := (some .int)) (by decide) rfl ?_
  intro p e s m args below meth c s₁ B hml hv
  obtain ⟨rfl, ⟨hsz, hP, hK, hD0, hN⟩, hSt⟩ := hv
  have hx := B.exec
  have hb := B.bytes
  have hr := B.returns
  have ht0 : ∀ w ∈ W0, w.before _ s = true := fun w h => atoms_spec (ws := wsX9_after) B.pre w (List.mem_cons_of_mem _ h)
  have hown : s.vm.findClass RX9 = some m.cls := findClass_of_methodNamed B.named
  have hlocks := B.notSynchronized
  subst hsz
  have hD : va_D A (wX9_after cy aM qM vM vM_letters vM_tape) := by rw [← hAe]; exact hD0.self
  have hA : ∀ q : Nat, s.heap.size ≤ q → A q := fun q h => by rw [← hAe]; exact Or.inr h
  have hS : va_S A s.heap s.heap [] := va_S.rf
  have hl := lv_entry ([.ref aM, .ref (ad.1 x1), .int x2, .int x3]) (n := 4) (Nat.le_of_ble_eq_true rfl)
  rw [lg_entry_eq]
  generalize (lg_sl ([.ref aM, .ref (ad.1 x1), .int x2, .int x3]) ++ List.replicate (4 - (lg_sl ([.ref aM, .ref (ad.1 x1), .int x2, .int x3])).length) Slot.unset).toArray = ls at hl ⊢
  have hl : lv_has ls 4 [(0, .ref aM), (1, .ref (ad.1 x1)), (2, .int x2), (3, .int x3)] := hl
  unfold fX9_after at hok
  obtain ⟨H, hH⟩ : ∃ H, H = s.heap := ⟨_, rfl⟩
  obtain ⟨locs, hlc⟩ : ∃ x : List Loc, x = [] := ⟨_, rfl⟩
  have hP : va_P D vwCl (wX9_after cy aM qM vM vM_letters vM_tape) H := by rw [hH]; exact hP
  have hS : va_S A s.heap H locs := by rw [hH, hlc]; exact hS
  rw [show W p l e _ s m _ below meth c s.heap [] = W p l e _ s m _ below meth c H locs from by rw [hH, hlc]]
  refine lv_aload_n hx hb dX9_after_0 rfl (lv_at hl 0 rfl) ?_
  refine lv_aload_n hx hb dX9_after_1 rfl (lv_at hl 1 rfl) ?_
  obtain ⟨⟨vM_2, vM_letters_2⟩, hc2, hok⟩ := k_bind hok
  try dsimp only at hok
  refine kCv (wc := (wX9_must cy aM qM vM vM_letters vM_tape)) (wc2 := (wX9_must cy aM qM vM_2 vM_letters_2 vM_tape)) (wr := []) (ws2 := (wX9_after cy aM qM vM_2 vM_letters_2 vM_tape)) (kRunVS (As := [.ref (ad.1 x1)]) (rest := []) ⟨hx, hb, hml, hown, ht0⟩ (kX9_must l D cy ad _ aM qM vM vM_letters vM_tape x1 vM_2 vM_letters_2 hc2 _ rfl) (cwV 1 ht0 (gV wd798 wd799 wd800 wd744 wd801) rfl rfl rfl (by decide +kernel) ⟨Nat.le_of_ble_eq_true rfl, Nat.le_of_ble_eq_true rfl⟩) hK hN hP hD hSt hS hA [0, 1, 2] rfl (by decide) 0 8 rfl rfl rfl hl.1 rfl (Nat.le_of_ble_eq_true rfl) dX9_after_2 ⟨Nat.zero_le _, Nat.zero_le _⟩) hP hD hS hA [0, 1, 2] [] rfl rfl (by decide) (by decide) [0, 1, 2] (by decide) rfl rfl (fun H locs hP hD hS => ?_)
  refine lv_aload_n hx hb dX9_after_5 rfl (lv_at hl 0 rfl) ?_
  refine lv_iload_n hx hb dX9_after_6 rfl (lv_at hl 2 rfl) ?_
  refine lv_iload_n hx hb dX9_after_7 rfl (lv_at hl 3 rfl) ?_
  obtain ⟨⟨r8, vM_8, vM_letters_8⟩, hc8, hok⟩ := k_bind hok
  try dsimp only at hok
  refine kCi (wc := (wX9_number cy aM qM vM_2 vM_tape vM_letters_2)) (wc2 := (wX9_number cy aM qM vM_8 vM_tape vM_letters_8)) (wr := []) (ws2 := (wX9_after cy aM qM vM_8 vM_letters_8 vM_tape)) (kRunV (As := [.int x2, .int x3]) (rest := []) ⟨hx, hb, hml, hown, ht0⟩ (kX9_number l D cy _ aM qM vM_2 vM_tape vM_letters_2 x2 x3 r8 vM_8 vM_letters_8 hc8 _ rfl) (cwV 2 ht0 (gV wd802 wd803 wd804 wd744 wd805) rfl rfl rfl (by decide +kernel) ⟨Nat.le_of_ble_eq_true rfl, Nat.le_of_ble_eq_true rfl⟩) hK hN hP hD [0, 2, 1] rfl (by decide) 0 8 rfl rfl rfl hl.1 rfl (Nat.le_of_ble_eq_true rfl) dX9_after_8 ⟨Nat.zero_le _, Nat.zero_le _⟩) hP hD hS hA [0, 2, 1] [] rfl rfl (by decide) (by decide) [0, 2, 1] (by decide) rfl rfl (fun H locs hP hD hS => ?_)
  cases hok
  exact W.iret hx hb hr (fun t ht hW => ⟨⟨_, (), rfl, rfl, by rw [ht]; exact hP, va_K.moved hW.alike hK, hD⟩, hS.F ht⟩) hS.2.2 dX9_after_11
def wsX9_placeHere : List Cond := .code yX9_placeHere cX9_placeHere 2 (some .int) :: W0
abbrev wX9_placeHere (cy : Nat → ClassId) (aM : Nat) (qM : Nat → Nat) (vM : Nat → Int32) (vM_fresh : Nat → Int32) : va_W := [(aM, oX9 vM qM), (qM 16, rI cy 224 vM_fresh)]
set_option maxHeartbeats 4000000 in
set_option maxRecDepth 100000 in
theorem kX9_placeHere (l : Launch) (D : va_G) (cy : Nat → ClassId) (sz : Nat) (aM : Nat) (qM : Nat → Nat) (vM : Nat → Int32) (vM_fresh : Nat → Int32) (x1 : Int32) (zr : Int32) (z_vM : Nat → Int32) (hok : fX9_placeHere vM vM_fresh x1 = some (zr, z_vM)) (A : Nat → Prop) (hAe : va_A (wX9_placeHere cy aM qM vM vM_fresh) sz = A) : Met l yX9_placeHere wsX9_placeHere ({ frames := 2, cells := 0, slots := 0, locals := 44 } : Room) (kPre D cy [.ref aM, .int x1] (wX9_placeHere cy aM qM vM vM_fresh) sz) (kQi D cy zr A (wX9_placeHere cy aM qM z_vM vM_fresh)) 0 0 A := by
  refine Met.ofW (cc := cX9_placeHere) (maxL := 2) (ret := (some .int)) (by decide) rfl ?_
  intro p e s m args below meth c s₁ B hml hv
  obtain ⟨rfl, hsz, hP, hK, hD0, hN⟩ := hv
  have hx := B.exec
  have hb := B.bytes
  have hr := B.returns
  have ht0 : ∀ w ∈ W0, w.before _ s = true := fun w h => atoms_spec (ws := wsX9_placeHere) B.pre w (List.mem_cons_of_mem _ h)
  have hown : s.vm.findClass RX9 = some m.cls := findClass_of_methodNamed B.named
  have hlocks := B.notSynchronized
  subst hsz
  have hD : va_D A (wX9_placeHere cy aM qM vM vM_fresh) := by rw [← hAe]; exact hD0.self
  have hA : ∀ q : Nat, s.heap.size ≤ q → A q := fun q h => by rw [← hAe]; exact Or.inr h
  have hS : va_S A s.heap s.heap [] := va_S.rf
  have hl := lv_entry ([.ref aM, .int x1]) (n := 2) (Nat.le_of_ble_eq_true rfl)
  rw [lg_entry_eq]
  generalize (lg_sl ([.ref aM, .int x1]) ++ List.replicate (2 - (lg_sl ([.ref aM, .int x1])).length) Slot.unset).toArray = ls at hl ⊢
  have hl : lv_has ls 2 [(0, .ref aM), (1, .int x1)] := hl
  unfold fX9_placeHere at hok
  obtain ⟨H, hH⟩ : ∃ H, H = s.heap := ⟨_, rfl⟩
  obtain ⟨locs, hlc⟩ : ∃ x : List Loc, x = [] := ⟨_, rfl⟩
  have hP : va_P D vwCl (wX9_placeHere cy aM qM vM vM_fresh) H := by rw [hH]; exact hP
  have hS : va_S A s.heap H locs := by rw [hH, hlc]; exact hS
  rw [show W p l e _ s m _ below meth c s.heap [] = W p l e _ s m _ below meth c H locs from by rw [hH, hlc]]
  refine lv_bipush (v := 9) hx hb dX9_placeHere_0 (by decide) ?_
  refine lv_iload_n hx hb dX9_placeHere_2 rfl (lv_at hl 1 rfl) ?_
  refine lv_imul hx hb dX9_placeHere_3 ?_
  refine lv_aload_n hx hb dX9_placeHere_4 rfl (lv_at hl 0 rfl) ?_
  refine lv_iconst (v := 0) hx hb dX9_placeHere_5 (by decide) ?_
  refine lv_aload_n hx hb dX9_placeHere_6 rfl (lv_at hl 0 rfl) ?_
  refine va_get (D := D) (ci := 8) (v := .ref (qM 16)) (C := RX9) (T := TX9) (N := 29) hx hb ht0 niX9 hown hK hP 0 rfl rfl 16 (by decide) (ht0 _ wd778) (fun _ h9 => h9) rfl dX9_placeHere_7 ?_
  refine lv_bipush (v := 8) hx hb dX9_placeHere_10 (by decide) ?_
  refine lv_iconst (v := 2) hx hb dX9_placeHere_12 (by decide) ?_
  refine lv_iload_n hx hb dX9_placeHere_13 rfl (lv_at hl 1 rfl) ?_
  refine lv_imul hx hb dX9_placeHere_14 ?_
  refine lv_iadd hx hb dX9_placeHere_15 ?_
  refine lv_iconst (v := 1) hx hb dX9_placeHere_16 (by decide) ?_
  refine lv_iadd hx hb dX9_placeHere_17 ?_
  obtain ⟨g18, hok⟩ := gd_some hok
  refine va_iald hx hb hK hP 1 0 rfl rfl (okI_in g18) dX9_placeHere_18 ?_
  refine lv_iconst (v := 1) hx hb dX9_placeHere_19 (by decide) ?_
  refine lv_isub hx hb dX9_placeHere_20 ?_
  obtain ⟨⟨r21, vM_21⟩, hc21, hok⟩ := k_bind hok
  try dsimp only at hok
  refine kCi (wc := (wX9_numberHere cy aM qM vM)) (wc2 := (wX9_numberHere cy aM qM vM_21)) (wr := [(qM 16, rI cy 224 vM_fresh)]) (ws2 := (wX9_placeHere cy aM qM vM_21 vM_fresh)) (kRunV (As := [.int 0, .int ((vM_fresh (((8 : Int32) + ((2 : Int32) * x1)) + (1 : Int32)).toNatClampNeg) - (1 : Int32))]) (rest := [.int ((9 : Int32) * x1)]) ⟨hx, hb, hml, hown, ht0⟩ (kX9_numberHere l D cy _ aM qM vM (0 : Int32) ((vM_fresh (((8 : Int32) + ((2 : Int32) * x1)) + (1 : Int32)).toNatClampNeg) - (1 : Int32)) r21 vM_21 hc21 _ rfl) (cwV 2 ht0 (gV wd794 wd795 wd796 wd744 wd797) rfl rfl rfl (by decide +kernel) ⟨Nat.le_of_ble_eq_true rfl, Nat.le_of_ble_eq_true rfl⟩) hK hN hP hD [0] rfl (by decide) 0 8 rfl rfl rfl hl.1 rfl (Nat.le_of_ble_eq_true rfl) dX9_placeHere_21 ⟨Nat.zero_le _, Nat.zero_le _⟩) hP hD hS hA [0] [1] rfl rfl (by decide) (by decide) [1, 0] (by decide) rfl rfl (fun H locs hP hD hS => ?_)
  refine lv_iadd hx hb dX9_placeHere_24 ?_
  cases hok
  exact W.iret hx hb hr (fun t ht hW => ⟨⟨_, (), rfl, rfl, by rw [ht]; exact hP, va_K.moved hW.alike hK, hD⟩, hS.F ht⟩) hS.2.2 dX9_placeHere_25
def wsX9_houseLine : List Cond := .code yX9_houseLine cX9_houseLine 2 none :: W0
abbrev wX9_houseLine (cy : Nat → ClassId) (aM : Nat) (qM : Nat → Nat) (vM : Nat → Int32) (vM_fresh : Nat → Int32) (vM_tape : Nat → Int32) (vM_letters : Nat → Int32) : va_W := [(aM, oX9 vM qM), (qM 16, rI cy 224 vM_fresh), (qM 1, rI cy 900 vM_tape), (qM 12, rI cy 8 vM_letters)]
set_option maxHeartbeats 4000000 in
set_option maxRecDepth 100000 in
theorem kX9_houseLine (l : Launch) (D : va_G) (cy : Nat → ClassId) (ad : (Nat → Nat) × (Nat → Nat)) (sz : Nat) (aM : Nat) (qM : Nat → Nat) (vM : Nat → Int32) (vM_fresh : Nat → Int32) (vM_tape : Nat → Int32) (vM_letters : Nat → Int32) (z_vM : Nat → Int32) (z_vM_fresh : Nat → Int32) (z_vM_letters : Nat → Int32) (hok : fX9_houseLine vM vM_fresh vM_tape vM_letters = some (z_vM, z_vM_fresh, z_vM_letters)) (A : Nat → Prop) (hAe : va_A (wX9_houseLine cy aM qM vM vM_fresh vM_tape vM_letters) sz = A) : Met l yX9_houseLine wsX9_houseLine ({ frames := 8, cells := 0, slots := 0, locals := 173 } : Room) (kPreS D cy ad [.ref aM] (wX9_houseLine cy aM qM vM vM_fresh vM_tape vM_letters) sz A) (kQv D cy A (wX9_houseLine cy aM qM z_vM z_vM_fresh vM_tape z_vM_letters)) 0 0 A := by
  refine Met.ofW (cc := cX9_houseLine) (maxL := 2) (ret := none) (by decide) rfl ?_
  intro p e s m args below meth c s₁ B hml hv
  obtain ⟨rfl, ⟨hsz, hP, hK, hD0, hN⟩, hSt⟩ := hv
  have hx := B.exec
  have hb := B.bytes
  have hr := B.returns
  have ht0 : ∀ w ∈ W0, w.before _ s = true := fun w h => atoms_spec (ws := wsX9_houseLine) B.pre w (List.mem_cons_of_mem _ h)
  have hown : s.vm.findClass RX9 = some m.cls := findClass_of_methodNamed B.named
  have hlocks := B.notSynchronized
  subst hsz
  have hD : va_D A (wX9_houseLine cy aM qM vM vM_fresh vM_tape vM_letters) := by rw [← hAe]; exact hD0.self
  have hA : ∀ q : Nat, s.heap.size ≤ q → A q := fun q h => by rw [← hAe]; exact Or.inr h
  have hS : va_S A s.heap s.heap [] := va_S.rf
  have hl := lv_entry ([.ref aM]) (n := 2) (Nat.le_of_ble_eq_true rfl)
  rw [lg_entry_eq]
  generalize (lg_sl ([.ref aM]) ++ List.replicate (2 - (lg_sl ([.ref aM])).length) Slot.unset).toArray = ls at hl ⊢
  have hl : lv_has ls 2 [(0, .ref aM)] := hl
  generalize hQe : MQ below (kQv D cy A (wX9_houseLine cy aM qM z_vM z_vM_fresh vM_tape z_vM_letters)) ([.ref aM] : List Value).toArray s 0 0 A = Q
  have J68 : ∀ (vM_fresh_68 : Nat → Int32) (vM_letters_68 : Nat → Int32) (vM_68 : Nat → Int32), ∀ (H : Heap) (locs : List Loc) (ls : Array Slot), va_P D vwCl (wX9_houseLine cy aM qM vM_68 vM_fresh_68 vM_tape vM_letters_68) H → va_D A (wX9_houseLine cy aM qM vM_68 vM_fresh_68 vM_tape vM_letters_68) → va_S A s.heap H locs → lv_has ls 2 [] → fX9_houseLine_J68 vM_fresh_68 vM_letters_68 vM_68 = some (z_vM, z_vM_fresh, z_vM_letters) → W p l e ({ frames := 8, cells := 0, slots := 0, locals := 173 } : Room) s m ([.ref aM] : List Value).toArray below meth c H locs 0 0 Q (F0 m 68 ls []) := by
    intro vM_fresh_68 vM_letters_68 vM_68 H locs ls hP hD hS hl hok
    unfold fX9_houseLine_J68 at hok
    cases hok
    subst hQe; exact W.vret hx hb hr (fun t ht hW => ⟨⟨(), rfl, trivial, by rw [ht]; exact hP, va_K.moved hW.alike hK, hD⟩, hS.F ht⟩) hS.2.2 dX9_houseLine_68
  have J18 : ∀ (vM_18 : Nat → Int32), ∀ (H : Heap) (locs : List Loc) (ls : Array Slot), va_P D vwCl (wX9_houseLine cy aM qM vM_18 vM_fresh vM_tape vM_letters) H → va_D A (wX9_houseLine cy aM qM vM_18 vM_fresh vM_tape vM_letters) → va_S A s.heap H locs → lv_has ls 2 [(0, .ref aM)] → fX9_houseLine_J18 vM_fresh vM_tape vM_letters vM_18 = some (z_vM, z_vM_fresh, z_vM_letters) → W p l e ({ frames := 8, cells := 0, slots := 0, locals := 173 } : Room) s m ([.ref aM] : List Value).toArray below meth c H locs 0 0 Q (F0 m 18 ls []) := by
    intro vM_18 H locs ls hP hD hS hl hok
    unfold fX9_houseLine_J18 at hok
    refine lv_aload_n hx hb dX9_houseLine_18 rfl (lv_at hl 0 rfl) ?_
    refine va_get (D := D) (ci := 8) (v := .int (vM_18 13)) (C := RX9) (T := TX9) (N := 29) hx hb ht0 niX9 hown hK hP 0 rfl rfl 13 (by decide) (ht0 _ wd757) (fun _ h9 => h9) rfl dX9_houseLine_19 ?_
    refine lv_if_eq (tgt := 26) hx hb dX9_houseLine_22 (by decide) (fun c22 => ?_) (fun c22 => ?_)
    · have hok := k_pos c22 hok
      refine lv_aload_n hx hb dX9_houseLine_26 rfl (lv_at hl 0 rfl) ?_
      obtain ⟨⟨vM_27, vM_letters_27⟩, hc27, hok⟩ := k_bind hok
      try dsimp only at hok
      refine kCv (wc := (wX9_next cy aM qM vM_18 vM_tape vM_letters)) (wc2 := (wX9_next cy aM qM vM_27 vM_tape vM_letters_27)) (wr := [(qM 16, rI cy 224 vM_fresh)]) (ws2 := (wX9_houseLine cy aM qM vM_27 vM_fresh vM_tape vM_letters_27)) (kRunV (As := []) (rest := []) ⟨hx, hb, hml, hown, ht0⟩ (kX9_next l D cy _ aM qM vM_18 vM_tape vM_letters vM_27 vM_letters_27 hc27 _ rfl) (cwV 0 ht0 (gV wd766 wd767 wd768 wd744 wd769) rfl rfl rfl (by decide +kernel) ⟨Nat.le_of_ble_eq_true rfl, Nat.le_of_ble_eq_true rfl⟩) hK hN hP hD [0, 2, 3] rfl (by decide) 0 8 rfl rfl rfl hl.1 rfl (Nat.le_of_ble_eq_true rfl) dX9_houseLine_27 ⟨Nat.zero_le _, Nat.zero_le _⟩) hP hD hS hA [0, 2, 3] [1] rfl rfl (by decide) (by decide) [1, 0, 2, 3] (by decide) rfl rfl (fun H locs hP hD hS => ?_)
      refine lv_aload_n hx hb dX9_houseLine_30 rfl (lv_at hl 0 rfl) ?_
      refine va_ldcS hx hb hown (hSt.2.1 _ (List.mem_of_getElem? (i := 30) rfl)) dX9_houseLine_31 ?_
      refine lv_iconst (v := 1) hx hb dX9_houseLine_33 (by decide) ?_
      refine lv_iconst (v := 5) hx hb dX9_houseLine_34 (by decide) ?_
      obtain ⟨⟨r35, vM_35, vM_letters_35⟩, hc35, hok⟩ := k_bind hok
      try dsimp only at hok
      refine kCi (wc := (wX9_after cy aM qM vM_27 vM_letters_27 vM_tape)) (wc2 := (wX9_after cy aM qM vM_35 vM_letters_35 vM_tape)) (wr := [(qM 16, rI cy 224 vM_fresh)]) (ws2 := (wX9_houseLine cy aM qM vM_35 vM_fresh vM_tape vM_letters_35)) (kRunVS (As := [.ref (ad.1 4), .int 1, .int 5]) (rest := []) ⟨hx, hb, hml, hown, ht0⟩ (kX9_after l D cy ad _ aM qM vM_27 vM_letters_27 vM_tape 4 (1 : Int32) (5 : Int32) r35 vM_35 vM_letters_35 hc35 _ rfl) (cwV 3 ht0 (gV wd806 wd807 wd808 wd744 wd809) rfl rfl rfl (by decide +kernel) ⟨Nat.le_of_ble_eq_true rfl, Nat.le_of_ble_eq_true rfl⟩) hK hN hP hD hSt hS hA [0, 3, 2] rfl (by decide) 0 8 rfl rfl rfl hl.1 rfl (Nat.le_of_ble_eq_true rfl) dX9_houseLine_35 ⟨Nat.zero_le _, Nat.zero_le _⟩) hP hD hS hA [0, 3, 2] [1] rfl rfl (by decide) (by decide) [1, 0, 3, 2] (by decide) rfl rfl (fun H locs hP hD hS => ?_)
      refine lv_istore_n (lv' := [(1, .int r35), (0, .ref aM)]) hx hb dX9_houseLine_38 rfl hl (by decide) rfl (fun ls hl => ?_)
      refine lv_aload_n hx hb dX9_houseLine_39 rfl (lv_at hl 1 rfl) ?_
      refine va_get (D := D) (ci := 8) (v := .ref (qM 16)) (C := RX9) (T := TX9) (N := 29) hx hb ht0 niX9 hown hK hP 0 rfl rfl 16 (by decide) (ht0 _ wd778) (fun _ h9 => h9) rfl dX9_houseLine_40 ?_
      refine lv_iconst (v := 1) hx hb dX9_houseLine_43 (by decide) ?_
      refine lv_aload_n hx hb dX9_houseLine_44 rfl (lv_at hl 1 rfl) ?_
      refine va_ldcS hx hb hown (hSt.2.1 _ (List.mem_of_getElem? (i := 31) rfl)) dX9_houseLine_45 ?_
      refine lv_iconst (v := 0) hx hb dX9_houseLine_47 (by decide) ?_
      refine lv_bipush (v := 100) hx hb dX9_houseLine_48 (by decide) ?_
      obtain ⟨⟨r50, vM_50, vM_letters_50⟩, hc50, hok⟩ := k_bind hok
      try dsimp only at hok
      refine kCi (wc := (wX9_after cy aM qM vM_35 vM_letters_35 vM_tape)) (wc2 := (wX9_after cy aM qM vM_50 vM_letters_50 vM_tape)) (wr := [(qM 16, rI cy 224 vM_fresh)]) (ws2 := (wX9_houseLine cy aM qM vM_50 vM_fresh vM_tape vM_letters_50)) (kRunVS (As := [.ref (ad.1 5), .int 0, .int 100]) (rest := [.int 1, .ref (qM 16)]) ⟨hx, hb, hml, hown, ht0⟩ (kX9_after l D cy ad _ aM qM vM_35 vM_letters_35 vM_tape 5 (0 : Int32) (100 : Int32) r50 vM_50 vM_letters_50 hc50 _ rfl) (cwV 3 ht0 (gV wd806 wd807 wd808 wd744 wd809) rfl rfl rfl (by decide +kernel) ⟨Nat.le_of_ble_eq_true rfl, Nat.le_of_ble_eq_true rfl⟩) hK hN hP hD hSt hS hA [0, 3, 2] rfl (by decide) 0 8 rfl rfl rfl hl.1 rfl (Nat.le_of_ble_eq_true rfl) dX9_houseLine_50 ⟨Nat.zero_le _, Nat.zero_le _⟩) hP hD hS hA [0, 3, 2] [1] rfl rfl (by decide) (by decide) [1, 0, 3, 2] (by decide) rfl rfl (fun H locs hP hD hS => ?_)
      obtain ⟨g53, hok⟩ := gd_some hok
      refine va_iast hx hb hK hP hD hS 1 0 rfl rfl (okI_in g53) dX9_houseLine_53 (fun H locs hP hD hS => ?_)
      have hP : va_P D vwCl (wX9_houseLine cy aM qM vM_50 (upd vM_fresh (1 : Int32).toNatClampNeg r50) vM_tape vM_letters_50) H := hP
      have hD : va_D A (wX9_houseLine cy aM qM vM_50 (upd vM_fresh (1 : Int32).toNatClampNeg r50) vM_tape vM_letters_50) := hD
      refine lv_aload_n hx hb dX9_houseLine_54 rfl (lv_at hl 1 rfl) ?_
      refine va_get (D := D) (ci := 8) (v := .int (vM_50 13)) (C := RX9) (T := TX9) (N := 29) hx hb ht0 niX9 hown hK hP 0 rfl rfl 13 (by decide) (ht0 _ wd757) (fun _ h9 => h9) rfl dX9_houseLine_55 ?_
      refine lv_if_ne (tgt := 68) hx hb dX9_houseLine_58 (by decide) (fun c58 => ?_) (fun c58 => ?_)
      · have hok := k_neg c58 hok
        exact J68 (upd vM_fresh (1 : Int32).toNatClampNeg r50) vM_letters_50 vM_50 H locs ls hP hD hS (lv_sub hl [] rfl) hok
      · have hok := k_pos c58 hok
        refine lv_aload_n hx hb dX9_houseLine_61 rfl (lv_at hl 1 rfl) ?_
        refine va_get (D := D) (ci := 8) (v := .ref (qM 16)) (C := RX9) (T := TX9) (N := 29) hx hb ht0 niX9 hown hK hP 0 rfl rfl 16 (by decide) (ht0 _ wd778) (fun _ h9 => h9) rfl dX9_houseLine_62 ?_
        refine lv_iconst (v := 0) hx hb dX9_houseLine_65 (by decide) ?_
        refine lv_iload_n hx hb dX9_houseLine_66 rfl (lv_at hl 0 rfl) ?_
        obtain ⟨g67, hok⟩ := gd_some hok
        refine va_iast hx hb hK hP hD hS 1 0 rfl rfl (okI_in g67) dX9_houseLine_67 (fun H locs hP hD hS => ?_)
        have hP : va_P D vwCl (wX9_houseLine cy aM qM vM_50 (upd (upd vM_fresh (1 : Int32).toNatClampNeg r50) (0 : Int32).toNatClampNeg r35) vM_tape vM_letters_50) H := hP
        have hD : va_D A (wX9_houseLine cy aM qM vM_50 (upd (upd vM_fresh (1 : Int32).toNatClampNeg r50) (0 : Int32).toNatClampNeg r35) vM_tape vM_letters_50) := hD
        exact J68 (upd (upd vM_fresh (1 : Int32).toNatClampNeg r50) (0 : Int32).toNatClampNeg r35) vM_letters_50 vM_50 H locs ls hP hD hS (lv_sub hl [] rfl) hok
    · have hok := k_neg c22 hok
      cases hok
      subst hQe; exact W.vret hx hb hr (fun t ht hW => ⟨⟨(), rfl, trivial, by rw [ht]; exact hP, va_K.moved hW.alike hK, hD⟩, hS.F ht⟩) hS.2.2 dX9_houseLine_25
  unfold fX9_houseLine at hok
  obtain ⟨H, hH⟩ : ∃ H, H = s.heap := ⟨_, rfl⟩
  obtain ⟨locs, hlc⟩ : ∃ x : List Loc, x = [] := ⟨_, rfl⟩
  have hP : va_P D vwCl (wX9_houseLine cy aM qM vM vM_fresh vM_tape vM_letters) H := by rw [hH]; exact hP
  have hS : va_S A s.heap H locs := by rw [hH, hlc]; exact hS
  rw [show W p l e _ s m _ below meth c s.heap [] = W p l e _ s m _ below meth c H locs from by rw [hH, hlc]]
  refine lv_aload_n hx hb dX9_houseLine_0 rfl (lv_at hl 0 rfl) ?_
  refine va_get (D := D) (ci := 8) (v := .ref (qM 16)) (C := RX9) (T := TX9) (N := 29) hx hb ht0 niX9 hown hK hP 0 rfl rfl 16 (by decide) (ht0 _ wd778) (fun _ h9 => h9) rfl dX9_houseLine_1 ?_
  refine lv_iconst (v := 0) hx hb dX9_houseLine_4 (by decide) ?_
  obtain ⟨g5, hok⟩ := gd_some hok
  refine va_iald hx hb hK hP 1 0 rfl rfl (okI_in g5) dX9_houseLine_5 ?_
  refine lv_if_le (tgt := 18) hx hb dX9_houseLine_6 (by decide) (fun c6 => ?_) (fun c6 => ?_)
  · have hok := k_pos c6 hok
    exact J18 vM H locs ls hP hD hS (lv_sub hl [0] rfl) hok
  · have hok := k_neg c6 hok
    refine lv_aload_n hx hb dX9_houseLine_9 rfl (lv_at hl 0 rfl) ?_
    refine lv_iconst (v := 3) hx hb dX9_houseLine_10 (by decide) ?_
    refine lv_aload_n hx hb dX9_houseLine_11 rfl (lv_at hl 0 rfl) ?_
    refine va_get (D := D) (ci := 8) (v := .int (vM 4)) (C := RX9) (T := TX9) (N := 29) hx hb ht0 niX9 hown hK hP 0 rfl rfl 4 (by decide) (ht0 _ wd756) (fun _ h9 => h9) rfl dX9_houseLine_12 ?_
    obtain ⟨vM_15, hc15, hok⟩ := k_bind hok
    refine kCv (wc := (wX9_wrong cy aM qM vM)) (wc2 := (wX9_wrong cy aM qM vM_15)) (wr := [(qM 16, rI cy 224 vM_fresh), (qM 1, rI cy 900 vM_tape), (qM 12, rI cy 8 vM_letters)]) (ws2 := (wX9_houseLine cy aM qM vM_15 vM_fresh vM_tape vM_letters)) (kRunV (As := [.int 3, .int (vM 4)]) (rest := []) ⟨hx, hb, hml, hown, ht0⟩ (kX9_wrong l D cy _ aM qM vM (3 : Int32) (vM 4) vM_15 hc15 _ rfl) (cwV 2 ht0 (gV wd774 wd775 wd776 wd744 wd777) rfl rfl rfl (by decide +kernel) ⟨Nat.le_of_ble_eq_true rfl, Nat.le_of_ble_eq_true rfl⟩) hK hN hP hD [0] rfl (by decide) 0 8 rfl rfl rfl hl.1 rfl (Nat.le_of_ble_eq_true rfl) dX9_houseLine_15 ⟨Nat.zero_le _, Nat.zero_le _⟩) hP hD hS hA [0] [1, 2, 3] rfl rfl (by decide) (by decide) [3, 0, 1, 2] (by decide) rfl rfl (fun H locs hP hD hS => ?_)
    exact J18 vM_15 H locs ls hP hD hS (lv_sub hl [0] rfl) hok
def wsX9_begins : List Cond := .code yX9_begins cX9_begins 3 (some .boolean) :: W0
abbrev wX9_begins (cy : Nat → ClassId) (aM : Nat) (qM : Nat → Nat) (vM : Nat → Int32) (vM_letters : Nat → Int32) (vM_fresh : Nat → Int32) (vM_tape : Nat → Int32) : va_W := [(aM, oX9 vM qM), (qM 12, rI cy 8 vM_letters), (qM 16, rI cy 224 vM_fresh), (qM 1, rI cy 900 vM_tape)]
set_option maxHeartbeats 4000000 in
set_option maxRecDepth 100000 in
theorem kX9_begins (l : Launch) (D : va_G) (cy : Nat → ClassId) (ad : (Nat → Nat) × (Nat → Nat)) (sz : Nat) (aM : Nat) (qM : Nat → Nat) (vM : Nat → Int32) (vM_letters : Nat → Int32) (vM_fresh : Nat → Int32) (vM_tape : Nat → Int32) (x1 : Nat) (x2 : Int32) (zr : Int32) (z_vM : Nat → Int32) (z_vM_letters : Nat → Int32) (hok : fX9_begins vM vM_letters vM_fresh vM_tape x1 x2 = some (zr, z_vM, z_vM_letters)) (A : Nat → Prop) (hAe : va_A (wX9_begins cy aM qM vM vM_letters vM_fresh vM_tape) sz = A) : Met l yX9_begins wsX9_begins ({ frames := 5, cells := 0, slots := 0, locals := 108 } : Room) (kPreS D cy ad [.ref aM, .ref (ad.1 x1), .int x2] (wX9_begins cy aM qM vM vM_letters vM_fresh vM_tape) sz A) (kQi D cy zr A (wX9_begins cy aM qM z_vM z_vM_letters vM_fresh vM_tape)) 0 0 A := by
  refine Met.ofW (cc := cX9_begins) (maxL := 3) (ret := (some .boolean)) (by decide) rfl ?_
  intro p e s m args below meth c s₁ B hml hv
  obtain ⟨rfl, ⟨hsz, hP, hK, hD0, hN⟩, hSt⟩ := hv
  have hx := B.exec
  have hb := B.bytes
  have hr := B.returns
  have ht0 : ∀ w ∈ W0, w.before _ s = true := fun w h => atoms_spec (ws := wsX9_begins) B.pre w (List.mem_cons_of_mem _ h)
  have hown : s.vm.findClass RX9 = some m.cls := findClass_of_methodNamed B.named
  have hlocks := B.notSynchronized
  subst hsz
  have hD : va_D A (wX9_begins cy aM qM vM vM_letters vM_fresh vM_tape) := by rw [← hAe]; exact hD0.self
  have hA : ∀ q : Nat, s.heap.size ≤ q → A q := fun q h => by rw [← hAe]; exact Or.inr h
  have hS : va_S A s.heap s.heap [] := va_S.rf
  have hl := lv_entry ([.ref aM, .ref (ad.1 x1), .int x2]) (n := 3) (Nat.le_of_ble_eq_true rfl)
  rw [lg_entry_eq]
  generalize (lg_sl ([.ref aM, .ref (ad.1 x1), .int x2]) ++ List.replicate (3 - (lg_sl ([.ref aM, .ref (ad.1 x1), .int x2])).length) Slot.unset).toArray = ls at hl ⊢
  have hl : lv_has ls 3 [(0, .ref aM), (1, .ref (ad.1 x1)), (2, .int x2)] := hl
  generalize hQe : MQ below (kQi D cy zr A (wX9_begins cy aM qM z_vM z_vM_letters vM_fresh vM_tape)) ([.ref aM, .ref (ad.1 x1), .int x2] : List Value).toArray s 0 0 A = Q
  have J53 : ∀ (vM_letters_53 : Nat → Int32) (vM_53 : Nat → Int32), ∀ (H : Heap) (locs : List Loc) (ls : Array Slot), va_P D vwCl (wX9_begins cy aM qM vM_53 vM_letters_53 vM_fresh vM_tape) H → va_D A (wX9_begins cy aM qM vM_53 vM_letters_53 vM_fresh vM_tape) → va_S A s.heap H locs → lv_has ls 3 [] → fX9_begins_J53 vM_letters_53 vM_53 = some (zr, z_vM, z_vM_letters) → W p l e ({ frames := 5, cells := 0, slots := 0, locals := 108 } : Room) s m ([.ref aM, .ref (ad.1 x1), .int x2] : List Value).toArray below meth c H locs 0 0 Q (F0 m 53 ls []) := by
    intro vM_letters_53 vM_53 H locs ls hP hD hS hl hok
    unfold fX9_begins_J53 at hok
    refine lv_iconst (v := 1) hx hb dX9_begins_53 (by decide) ?_
    cases hok
    subst hQe; exact W.zret hx hb hr rfl (fun t ht hW => ⟨⟨_, (), rfl, rfl, by rw [ht]; exact hP, va_K.moved hW.alike hK, hD⟩, hS.F ht⟩) hS.2.2 dX9_begins_54
  have J42 : ∀ (vM_42 : Nat → Int32), ∀ (H : Heap) (locs : List Loc) (ls : Array Slot), va_P D vwCl (wX9_begins cy aM qM vM_42 vM_letters vM_fresh vM_tape) H → va_D A (wX9_begins cy aM qM vM_42 vM_letters vM_fresh vM_tape) → va_S A s.heap H locs → lv_has ls 3 [(0, .ref aM)] → fX9_begins_J42 vM_letters vM_tape vM_42 = some (zr, z_vM, z_vM_letters) → W p l e ({ frames := 5, cells := 0, slots := 0, locals := 108 } : Room) s m ([.ref aM, .ref (ad.1 x1), .int x2] : List Value).toArray below meth c H locs 0 0 Q (F0 m 42 ls []) := by
    intro vM_42 H locs ls hP hD hS hl hok
    unfold fX9_begins_J42 at hok
    refine lv_aload_n hx hb dX9_begins_42 rfl (lv_at hl 0 rfl) ?_
    refine va_get (D := D) (ci := 8) (v := .int (vM_42 13)) (C := RX9) (T := TX9) (N := 29) hx hb ht0 niX9 hown hK hP 0 rfl rfl 13 (by decide) (ht0 _ wd757) (fun _ h9 => h9) rfl dX9_begins_43 ?_
    refine lv_if_ne (tgt := 53) hx hb dX9_begins_46 (by decide) (fun c46 => ?_) (fun c46 => ?_)
    · have hok := k_neg c46 hok
      exact J53 vM_letters vM_42 H locs ls hP hD hS (lv_sub hl [] rfl) hok
    · have hok := k_pos c46 hok
      refine lv_aload_n hx hb dX9_begins_49 rfl (lv_at hl 0 rfl) ?_
      obtain ⟨⟨vM_50, vM_letters_50⟩, hc50, hok⟩ := k_bind hok
      try dsimp only at hok
      refine kCv (wc := (wX9_next cy aM qM vM_42 vM_tape vM_letters)) (wc2 := (wX9_next cy aM qM vM_50 vM_tape vM_letters_50)) (wr := [(qM 16, rI cy 224 vM_fresh)]) (ws2 := (wX9_begins cy aM qM vM_50 vM_letters_50 vM_fresh vM_tape)) (kRunV (As := []) (rest := []) ⟨hx, hb, hml, hown, ht0⟩ (kX9_next l D cy _ aM qM vM_42 vM_tape vM_letters vM_50 vM_letters_50 hc50 _ rfl) (cwV 0 ht0 (gV wd766 wd767 wd768 wd744 wd769) rfl rfl rfl (by decide +kernel) ⟨Nat.le_of_ble_eq_true rfl, Nat.le_of_ble_eq_true rfl⟩) hK hN hP hD [0, 3, 1] rfl (by decide) 0 8 rfl rfl rfl hl.1 rfl (Nat.le_of_ble_eq_true rfl) dX9_begins_50 ⟨Nat.zero_le _, Nat.zero_le _⟩) hP hD hS hA [0, 3, 1] [2] rfl rfl (by decide) (by decide) [1, 3, 0, 2] (by decide) rfl rfl (fun H locs hP hD hS => ?_)
      exact J53 vM_letters_50 vM_50 H locs ls hP hD hS (lv_sub hl [] rfl) hok
  have J23 : ∀ (vM_23 : Nat → Int32), ∀ (H : Heap) (locs : List Loc) (ls : Array Slot), va_P D vwCl (wX9_begins cy aM qM vM_23 vM_letters vM_fresh vM_tape) H → va_D A (wX9_begins cy aM qM vM_23 vM_letters vM_fresh vM_tape) → va_S A s.heap H locs → lv_has ls 3 [(0, .ref aM)] → fX9_begins_J23 vM_letters vM_fresh vM_tape vM_23 = some (zr, z_vM, z_vM_letters) → W p l e ({ frames := 5, cells := 0, slots := 0, locals := 108 } : Room) s m ([.ref aM, .ref (ad.1 x1), .int x2] : List Value).toArray below meth c H locs 0 0 Q (F0 m 23 ls []) := by
    intro vM_23 H locs ls hP hD hS hl hok
    unfold fX9_begins_J23 at hok
    refine lv_aload_n hx hb dX9_begins_23 rfl (lv_at hl 0 rfl) ?_
    refine va_get (D := D) (ci := 8) (v := .ref (qM 16)) (C := RX9) (T := TX9) (N := 29) hx hb ht0 niX9 hown hK hP 0 rfl rfl 16 (by decide) (ht0 _ wd778) (fun _ h9 => h9) rfl dX9_begins_24 ?_
    refine lv_iconst (v := 0) hx hb dX9_begins_27 (by decide) ?_
    obtain ⟨g28, hok⟩ := gd_some hok
    refine va_iald hx hb hK hP 2 0 rfl rfl (okI_in g28) dX9_begins_28 ?_
    refine lv_if_ne (tgt := 42) hx hb dX9_begins_29 (by decide) (fun c29 => ?_) (fun c29 => ?_)
    · have hok := k_neg c29 hok
      exact J42 vM_23 H locs ls hP hD hS (lv_sub hl [0] rfl) hok
    · have hok := k_pos c29 hok
      refine lv_aload_n hx hb dX9_begins_32 rfl (lv_at hl 0 rfl) ?_
      refine lv_bipush (v := 6) hx hb dX9_begins_33 (by decide) ?_
      refine lv_aload_n hx hb dX9_begins_35 rfl (lv_at hl 0 rfl) ?_
      refine va_get (D := D) (ci := 8) (v := .int (vM_23 4)) (C := RX9) (T := TX9) (N := 29) hx hb ht0 niX9 hown hK hP 0 rfl rfl 4 (by decide) (ht0 _ wd756) (fun _ h9 => h9) rfl dX9_begins_36 ?_
      obtain ⟨vM_39, hc39, hok⟩ := k_bind hok
      refine kCv (wc := (wX9_wrong cy aM qM vM_23)) (wc2 := (wX9_wrong cy aM qM vM_39)) (wr := [(qM 12, rI cy 8 vM_letters), (qM 16, rI cy 224 vM_fresh), (qM 1, rI cy 900 vM_tape)]) (ws2 := (wX9_begins cy aM qM vM_39 vM_letters vM_fresh vM_tape)) (kRunV (As := [.int 6, .int (vM_23 4)]) (rest := []) ⟨hx, hb, hml, hown, ht0⟩ (kX9_wrong l D cy _ aM qM vM_23 (6 : Int32) (vM_23 4) vM_39 hc39 _ rfl) (cwV 2 ht0 (gV wd774 wd775 wd776 wd744 wd777) rfl rfl rfl (by decide +kernel) ⟨Nat.le_of_ble_eq_true rfl, Nat.le_of_ble_eq_true rfl⟩) hK hN hP hD [0] rfl (by decide) 0 8 rfl rfl rfl hl.1 rfl (Nat.le_of_ble_eq_true rfl) dX9_begins_39 ⟨Nat.zero_le _, Nat.zero_le _⟩) hP hD hS hA [0] [1, 2, 3] rfl rfl (by decide) (by decide) [3, 0, 1, 2] (by decide) rfl rfl (fun H locs hP hD hS => ?_)
      exact J42 vM_39 H locs ls hP hD hS (lv_sub hl [0] rfl) hok
  unfold fX9_begins at hok
  obtain ⟨H, hH⟩ : ∃ H, H = s.heap := ⟨_, rfl⟩
  obtain ⟨locs, hlc⟩ : ∃ x : List Loc, x = [] := ⟨_, rfl⟩
  have hP : va_P D vwCl (wX9_begins cy aM qM vM vM_letters vM_fresh vM_tape) H := by rw [hH]; exact hP
  have hS : va_S A s.heap H locs := by rw [hH, hlc]; exact hS
  rw [show W p l e _ s m _ below meth c s.heap [] = W p l e _ s m _ below meth c H locs from by rw [hH, hlc]]
  refine lv_aload_n hx hb dX9_begins_0 rfl (lv_at hl 0 rfl) ?_
  refine lv_aload_n hx hb dX9_begins_1 rfl (lv_at hl 1 rfl) ?_
  obtain ⟨r2, hc2, hok⟩ := k_bind hok
  refine kCi (wc := (wX9_isWord cy aM qM vM vM_letters)) (wc2 := (wX9_isWord cy aM qM vM vM_letters)) (wr := [(qM 16, rI cy 224 vM_fresh), (qM 1, rI cy 900 vM_tape)]) (ws2 := (wX9_begins cy aM qM vM vM_letters vM_fresh vM_tape)) (kRunVS (As := [.ref (ad.1 x1)]) (rest := []) ⟨hx, hb, hml, hown, ht0⟩ (kX9_isWord l D cy ad _ aM qM vM vM_letters x1 r2 hc2 _ rfl) (cwV 1 ht0 (gV wd762 wd763 wd764 wd744 wd765) rfl rfl rfl (by decide +kernel) ⟨Nat.le_of_ble_eq_true rfl, Nat.le_of_ble_eq_true rfl⟩) hK hN hP hD hSt hS hA [0, 1] rfl (by decide) 0 8 rfl rfl rfl hl.1 rfl (Nat.le_of_ble_eq_true rfl) dX9_begins_2 ⟨Nat.zero_le _, Nat.zero_le _⟩) hP hD hS hA [0, 1] [2, 3] rfl rfl (by decide) (by decide) [2, 3, 0, 1] (by decide) rfl rfl (fun H locs hP hD hS => ?_)
  refine lv_if_ne (tgt := 10) hx hb dX9_begins_5 (by decide) (fun c5 => ?_) (fun c5 => ?_)
  · have hok := k_neg c5 hok
    refine lv_iload_n hx hb dX9_begins_10 rfl (lv_at hl 2 rfl) ?_
    refine lv_if_ne (tgt := 23) hx hb dX9_begins_11 (by decide) (fun c11 => ?_) (fun c11 => ?_)
    · have hok := k_neg c11 hok
      exact J23 vM H locs ls hP hD hS (lv_sub hl [0] rfl) hok
    · have hok := k_pos c11 hok
      refine lv_aload_n hx hb dX9_begins_14 rfl (lv_at hl 0 rfl) ?_
      refine lv_iconst (v := 5) hx hb dX9_begins_15 (by decide) ?_
      refine lv_aload_n hx hb dX9_begins_16 rfl (lv_at hl 0 rfl) ?_
      refine va_get (D := D) (ci := 8) (v := .int (vM 4)) (C := RX9) (T := TX9) (N := 29) hx hb ht0 niX9 hown hK hP 0 rfl rfl 4 (by decide) (ht0 _ wd756) (fun _ h9 => h9) rfl dX9_begins_17 ?_
      obtain ⟨vM_20, hc20, hok⟩ := k_bind hok
      refine kCv (wc := (wX9_wrong cy aM qM vM)) (wc2 := (wX9_wrong cy aM qM vM_20)) (wr := [(qM 12, rI cy 8 vM_letters), (qM 16, rI cy 224 vM_fresh), (qM 1, rI cy 900 vM_tape)]) (ws2 := (wX9_begins cy aM qM vM_20 vM_letters vM_fresh vM_tape)) (kRunV (As := [.int 5, .int (vM 4)]) (rest := []) ⟨hx, hb, hml, hown, ht0⟩ (kX9_wrong l D cy _ aM qM vM (5 : Int32) (vM 4) vM_20 hc20 _ rfl) (cwV 2 ht0 (gV wd774 wd775 wd776 wd744 wd777) rfl rfl rfl (by decide +kernel) ⟨Nat.le_of_ble_eq_true rfl, Nat.le_of_ble_eq_true rfl⟩) hK hN hP hD [0] rfl (by decide) 0 8 rfl rfl rfl hl.1 rfl (Nat.le_of_ble_eq_true rfl) dX9_begins_20 ⟨Nat.zero_le _, Nat.zero_le _⟩) hP hD hS hA [0] [1, 2, 3] rfl rfl (by decide) (by decide) [3, 0, 1, 2] (by decide) rfl rfl (fun H locs hP hD hS => ?_)
      exact J23 vM_20 H locs ls hP hD hS (lv_sub hl [0] rfl) hok
  · have hok := k_pos c5 hok
    refine lv_iconst (v := 0) hx hb dX9_begins_8 (by decide) ?_
    cases hok
    subst hQe; exact W.zret hx hb hr rfl (fun t ht hW => ⟨⟨_, (), rfl, rfl, by rw [ht]; exact hP, va_K.moved hW.alike hK, hD⟩, hS.F ht⟩) hS.2.2 dX9_begins_9
def wsX9_ringLine : List Cond := .code yX9_ringLine cX9_ringLine 3 none :: W0
abbrev wX9_ringLine (cy : Nat → ClassId) (aM : Nat) (qM : Nat → Nat) (vM : Nat → Int32) (vM_fresh : Nat → Int32) (vM_letters : Nat → Int32) (vM_tape : Nat → Int32) : va_W := [(aM, oX9 vM qM), (qM 16, rI cy 224 vM_fresh), (qM 12, rI cy 8 vM_letters), (qM 1, rI cy 900 vM_tape)]
set_option maxHeartbeats 4000000 in
set_option maxRecDepth 100000 in
theorem kX9_ringLine (l : Launch) (D : va_G) (cy : Nat → ClassId) (ad : (Nat → Nat) × (Nat → Nat)) (sz : Nat) (aM : Nat) (qM : Nat → Nat) (vM : Nat → Int32) (vM_fresh : Nat → Int32) (vM_letters : Nat → Int32) (vM_tape : Nat → Int32) (z_vM : Nat → Int32) (z_vM_fresh : Nat → Int32) (z_vM_letters : Nat → Int32) (hok : fX9_ringLine vM vM_fresh vM_letters vM_tape = some (z_vM, z_vM_fresh, z_vM_letters)) (A : Nat → Prop) (hAe : va_A (wX9_ringLine cy aM qM vM vM_fresh vM_letters vM_tape) sz = A) : Met l yX9_ringLine wsX9_ringLine ({ frames := 8, cells := 0, slots := 0, locals := 173 } : Room) (kPreS D cy ad [.ref aM] (wX9_ringLine cy aM qM vM vM_fresh vM_letters vM_tape) sz A) (kQv D cy A (wX9_ringLine cy aM qM z_vM z_vM_fresh z_vM_letters vM_tape)) 0 0 A := by
  refine Met.ofW (cc := cX9_ringLine) (maxL := 3) (ret := none) (by decide) rfl ?_
  intro p e s m args below meth c s₁ B hml hv
  obtain ⟨rfl, ⟨hsz, hP, hK, hD0, hN⟩, hSt⟩ := hv
  have hx := B.exec
  have hb := B.bytes
  have hr := B.returns
  have ht0 : ∀ w ∈ W0, w.before _ s = true := fun w h => atoms_spec (ws := wsX9_ringLine) B.pre w (List.mem_cons_of_mem _ h)
  have hown : s.vm.findClass RX9 = some m.cls := findClass_of_methodNamed B.named
  have hlocks := B.notSynchronized
  subst hsz
  have hD : va_D A (wX9_ringLine cy aM qM vM vM_fresh vM_letters vM_tape) := by rw [← hAe]; exact hD0.self
  have hA : ∀ q : Nat, s.heap.size ≤ q → A q := fun q h => by rw [← hAe]; exact Or.inr h
  have hS : va_S A s.heap s.heap [] := va_S.rf
  have hl := lv_entry ([.ref aM]) (n := 3) (Nat.le_of_ble_eq_true rfl)
  rw [lg_entry_eq]
  generalize (lg_sl ([.ref aM]) ++ List.replicate (3 - (lg_sl ([.ref aM])).length) Slot.unset).toArray = ls at hl ⊢
  have hl : lv_has ls 3 [(0, .ref aM)] := hl
  generalize hQe : MQ below (kQv D cy A (wX9_ringLine cy aM qM z_vM z_vM_fresh z_vM_letters vM_tape)) ([.ref aM] : List Value).toArray s 0 0 A = Q
  have J137 : ∀ (vM_fresh_137 : Nat → Int32) (vM_letters_137 : Nat → Int32) (vM_137 : Nat → Int32), ∀ (H : Heap) (locs : List Loc) (ls : Array Slot), va_P D vwCl (wX9_ringLine cy aM qM vM_137 vM_fresh_137 vM_letters_137 vM_tape) H → va_D A (wX9_ringLine cy aM qM vM_137 vM_fresh_137 vM_letters_137 vM_tape) → va_S A s.heap H locs → lv_has ls 3 [] → fX9_ringLine_J137 vM_fresh_137 vM_letters_137 vM_137 = some (z_vM, z_vM_fresh, z_vM_letters) → W p l e ({ frames := 8, cells := 0, slots := 0, locals := 173 } : Room) s m ([.ref aM] : List Value).toArray below meth c H locs 0 0 Q (F0 m 137 ls []) := by
    intro vM_fresh_137 vM_letters_137 vM_137 H locs ls hP hD hS hl hok
    unfold fX9_ringLine_J137 at hok
    cases hok
    subst hQe; exact W.vret hx hb hr (fun t ht hW => ⟨⟨(), rfl, trivial, by rw [ht]; exact hP, va_K.moved hW.alike hK, hD⟩, hS.F ht⟩) hS.2.2 dX9_ringLine_137
  have J84 : ∀ (y2_84 : Int32) (vM_fresh_84 : Nat → Int32) (vM_letters_84 : Nat → Int32) (vM_84 : Nat → Int32), ∀ (H : Heap) (locs : List Loc) (ls : Array Slot), va_P D vwCl (wX9_ringLine cy aM qM vM_84 vM_fresh_84 vM_letters_84 vM_tape) H → va_D A (wX9_ringLine cy aM qM vM_84 vM_fresh_84 vM_letters_84 vM_tape) → va_S A s.heap H locs → lv_has ls 3 [(0, .ref aM), (1, .int ((8 : Int32) + ((2 : Int32) * (vM_fresh (2 : Int32).toNatClampNeg)))), (2, .int y2_84)] → fX9_ringLine_J84 vM_fresh vM_tape y2_84 vM_fresh_84 vM_letters_84 vM_84 = some (z_vM, z_vM_fresh, z_vM_letters) → W p l e ({ frames := 8, cells := 0, slots := 0, locals := 173 } : Room) s m ([.ref aM] : List Value).toArray below meth c H locs 0 0 Q (F0 m 84 ls []) := by
    intro y2_84 vM_fresh_84 vM_letters_84 vM_84 H locs ls hP hD hS hl hok
    unfold fX9_ringLine_J84 at hok
    refine lv_aload_n hx hb dX9_ringLine_84 rfl (lv_at hl 0 rfl) ?_
    refine va_get (D := D) (ci := 8) (v := .int (vM_84 13)) (C := RX9) (T := TX9) (N := 29) hx hb ht0 niX9 hown hK hP 0 rfl rfl 13 (by decide) (ht0 _ wd757) (fun _ h9 => h9) rfl dX9_ringLine_85 ?_
    refine lv_if_eq (tgt := 92) hx hb dX9_ringLine_88 (by decide) (fun c88 => ?_) (fun c88 => ?_)
    · have hok := k_pos c88 hok
      refine lv_aload_n hx hb dX9_ringLine_92 rfl (lv_at hl 0 rfl) ?_
      obtain ⟨⟨vM_93, vM_letters_93⟩, hc93, hok⟩ := k_bind hok
      try dsimp only at hok
      refine kCv (wc := (wX9_next cy aM qM vM_84 vM_tape vM_letters_84)) (wc2 := (wX9_next cy aM qM vM_93 vM_tape vM_letters_93)) (wr := [(qM 16, rI cy 224 vM_fresh_84)]) (ws2 := (wX9_ringLine cy aM qM vM_93 vM_fresh_84 vM_letters_93 vM_tape)) (kRunV (As := []) (rest := []) ⟨hx, hb, hml, hown, ht0⟩ (kX9_next l D cy _ aM qM vM_84 vM_tape vM_letters_84 vM_93 vM_letters_93 hc93 _ rfl) (cwV 0 ht0 (gV wd766 wd767 wd768 wd744 wd769) rfl rfl rfl (by decide +kernel) ⟨Nat.le_of_ble_eq_true rfl, Nat.le_of_ble_eq_true rfl⟩) hK hN hP hD [0, 3, 2] rfl (by decide) 0 8 rfl rfl rfl hl.1 rfl (Nat.le_of_ble_eq_true rfl) dX9_ringLine_93 ⟨Nat.zero_le _, Nat.zero_le _⟩) hP hD hS hA [0, 3, 2] [1] rfl rfl (by decide) (by decide) [1, 0, 3, 2] (by decide) rfl rfl (fun H locs hP hD hS => ?_)
      refine lv_aload_n hx hb dX9_ringLine_96 rfl (lv_at hl 0 rfl) ?_
      refine va_get (D := D) (ci := 8) (v := .ref (qM 16)) (C := RX9) (T := TX9) (N := 29) hx hb ht0 niX9 hown hK hP 0 rfl rfl 16 (by decide) (ht0 _ wd778) (fun _ h9 => h9) rfl dX9_ringLine_97 ?_
      refine lv_iload_n hx hb dX9_ringLine_100 rfl (lv_at hl 1 rfl) ?_
      refine lv_iload_n hx hb dX9_ringLine_101 rfl (lv_at hl 2 rfl) ?_
      obtain ⟨g102, hok⟩ := gd_some hok
      refine va_iast hx hb hK hP hD hS 1 0 rfl rfl (okI_in g102) dX9_ringLine_102 (fun H locs hP hD hS => ?_)
      have hP : va_P D vwCl (wX9_ringLine cy aM qM vM_93 (upd vM_fresh_84 ((8 : Int32) + ((2 : Int32) * (vM_fresh (2 : Int32).toNatClampNeg))).toNatClampNeg y2_84) vM_letters_93 vM_tape) H := hP
      have hD : va_D A (wX9_ringLine cy aM qM vM_93 (upd vM_fresh_84 ((8 : Int32) + ((2 : Int32) * (vM_fresh (2 : Int32).toNatClampNeg))).toNatClampNeg y2_84) vM_letters_93 vM_tape) := hD
      refine lv_aload_n hx hb dX9_ringLine_103 rfl (lv_at hl 0 rfl) ?_
      refine va_get (D := D) (ci := 8) (v := .ref (qM 16)) (C := RX9) (T := TX9) (N := 29) hx hb ht0 niX9 hown hK hP 0 rfl rfl 16 (by decide) (ht0 _ wd778) (fun _ h9 => h9) rfl dX9_ringLine_104 ?_
      refine lv_iload_n hx hb dX9_ringLine_107 rfl (lv_at hl 1 rfl) ?_
      refine lv_iconst (v := 1) hx hb dX9_ringLine_108 (by decide) ?_
      refine lv_iadd hx hb dX9_ringLine_109 ?_
      refine lv_aload_n hx hb dX9_ringLine_110 rfl (lv_at hl 0 rfl) ?_
      refine va_ldcS hx hb hown (hSt.2.1 _ (List.mem_of_getElem? (i := 34) rfl)) dX9_ringLine_111 ?_
      refine lv_iconst (v := 2) hx hb dX9_ringLine_113 (by decide) ?_
      refine lv_bipush (v := 9) hx hb dX9_ringLine_114 (by decide) ?_
      obtain ⟨⟨r116, vM_116, vM_letters_116⟩, hc116, hok⟩ := k_bind hok
      try dsimp only at hok
      refine kCi (wc := (wX9_after cy aM qM vM_93 vM_letters_93 vM_tape)) (wc2 := (wX9_after cy aM qM vM_116 vM_letters_116 vM_tape)) (wr := [(qM 16, rI cy 224 (upd vM_fresh_84 ((8 : Int32) + ((2 : Int32) * (vM_fresh (2 : Int32).toNatClampNeg))).toNatClampNeg y2_84))]) (ws2 := (wX9_ringLine cy aM qM vM_116 (upd vM_fresh_84 ((8 : Int32) + ((2 : Int32) * (vM_fresh (2 : Int32).toNatClampNeg))).toNatClampNeg y2_84) vM_letters_116 vM_tape)) (kRunVS (As := [.ref (ad.1 16), .int 2, .int 9]) (rest := [.int (((8 : Int32) + ((2 : Int32) * (vM_fresh (2 : Int32).toNatClampNeg))) + (1 : Int32)), .ref (qM 16)]) ⟨hx, hb, hml, hown, ht0⟩ (kX9_after l D cy ad _ aM qM vM_93 vM_letters_93 vM_tape 16 (2 : Int32) (9 : Int32) r116 vM_116 vM_letters_116 hc116 _ rfl) (cwV 3 ht0 (gV wd806 wd807 wd808 wd744 wd809) rfl rfl rfl (by decide +kernel) ⟨Nat.le_of_ble_eq_true rfl, Nat.le_of_ble_eq_true rfl⟩) hK hN hP hD hSt hS hA [0, 2, 3] rfl (by decide) 0 8 rfl rfl rfl hl.1 rfl (Nat.le_of_ble_eq_true rfl) dX9_ringLine_116 ⟨Nat.zero_le _, Nat.zero_le _⟩) hP hD hS hA [0, 2, 3] [1] rfl rfl (by decide) (by decide) [1, 0, 2, 3] (by decide) rfl rfl (fun H locs hP hD hS => ?_)
      obtain ⟨g119, hok⟩ := gd_some hok
      refine va_iast hx hb hK hP hD hS 1 0 rfl rfl (okI_in g119) dX9_ringLine_119 (fun H locs hP hD hS => ?_)
      have hP : va_P D vwCl (wX9_ringLine cy aM qM vM_116 (upd (upd vM_fresh_84 ((8 : Int32) + ((2 : Int32) * (vM_fresh (2 : Int32).toNatClampNeg))).toNatClampNeg y2_84) (((8 : Int32) + ((2 : Int32) * (vM_fresh (2 : Int32).toNatClampNeg))) + (1 : Int32)).toNatClampNeg r116) vM_letters_116 vM_tape) H := hP
      have hD : va_D A (wX9_ringLine cy aM qM vM_116 (upd (upd vM_fresh_84 ((8 : Int32) + ((2 : Int32) * (vM_fresh (2 : Int32).toNatClampNeg))).toNatClampNeg y2_84) (((8 : Int32) + ((2 : Int32) * (vM_fresh (2 : Int32).toNatClampNeg))) + (1 : Int32)).toNatClampNeg r116) vM_letters_116 vM_tape) := hD
      refine lv_aload_n hx hb dX9_ringLine_120 rfl (lv_at hl 0 rfl) ?_
      refine va_get (D := D) (ci := 8) (v := .int (vM_116 13)) (C := RX9) (T := TX9) (N := 29) hx hb ht0 niX9 hown hK hP 0 rfl rfl 13 (by decide) (ht0 _ wd757) (fun _ h9 => h9) rfl dX9_ringLine_121 ?_
      refine lv_if_ne (tgt := 137) hx hb dX9_ringLine_124 (by decide) (fun c124 => ?_) (fun c124 => ?_)
      · have hok := k_neg c124 hok
        exact J137 (upd (upd vM_fresh_84 ((8 : Int32) + ((2 : Int32) * (vM_fresh (2 : Int32).toNatClampNeg))).toNatClampNeg y2_84) (((8 : Int32) + ((2 : Int32) * (vM_fresh (2 : Int32).toNatClampNeg))) + (1 : Int32)).toNatClampNeg r116) vM_letters_116 vM_116 H locs ls hP hD hS (lv_sub hl [] rfl) hok
      · have hok := k_pos c124 hok
        refine lv_aload_n hx hb dX9_ringLine_127 rfl (lv_at hl 0 rfl) ?_
        refine va_get (D := D) (ci := 8) (v := .ref (qM 16)) (C := RX9) (T := TX9) (N := 29) hx hb ht0 niX9 hown hK hP 0 rfl rfl 16 (by decide) (ht0 _ wd778) (fun _ h9 => h9) rfl dX9_ringLine_128 ?_
        refine lv_iconst (v := 2) hx hb dX9_ringLine_131 (by decide) ?_
        refine lv_dup2_11 hx hb dX9_ringLine_132 rfl rfl ?_
        obtain ⟨g133, hok⟩ := gd_some hok
        refine va_iald hx hb hK hP 1 0 rfl rfl (okI_in g133) dX9_ringLine_133 ?_
        refine lv_iconst (v := 1) hx hb dX9_ringLine_134 (by decide) ?_
        refine lv_iadd hx hb dX9_ringLine_135 ?_
        obtain ⟨g136, hok⟩ := gd_some hok
        refine va_iast hx hb hK hP hD hS 1 0 rfl rfl (okI_in g136) dX9_ringLine_136 (fun H locs hP hD hS => ?_)
        have hP : va_P D vwCl (wX9_ringLine cy aM qM vM_116 (upd (upd (upd vM_fresh_84 ((8 : Int32) + ((2 : Int32) * (vM_fresh (2 : Int32).toNatClampNeg))).toNatClampNeg y2_84) (((8 : Int32) + ((2 : Int32) * (vM_fresh (2 : Int32).toNatClampNeg))) + (1 : Int32)).toNatClampNeg r116) (2 : Int32).toNatClampNeg (((upd (upd vM_fresh_84 ((8 : Int32) + ((2 : Int32) * (vM_fresh (2 : Int32).toNatClampNeg))).toNatClampNeg y2_84) (((8 : Int32) + ((2 : Int32) * (vM_fresh (2 : Int32).toNatClampNeg))) + (1 : Int32)).toNatClampNeg r116) (2 : Int32).toNatClampNeg) + (1 : Int32))) vM_letters_116 vM_tape) H := hP
        have hD : va_D A (wX9_ringLine cy aM qM vM_116 (upd (upd (upd vM_fresh_84 ((8 : Int32) + ((2 : Int32) * (vM_fresh (2 : Int32).toNatClampNeg))).toNatClampNeg y2_84) (((8 : Int32) + ((2 : Int32) * (vM_fresh (2 : Int32).toNatClampNeg))) + (1 : Int32)).toNatClampNeg r116) (2 : Int32).toNatClampNeg (((upd (upd vM_fresh_84 ((8 : Int32) + ((2 : Int32) * (vM_fresh (2 : Int32).toNatClampNeg))).toNatClampNeg y2_84) (((8 : Int32) + ((2 : Int32) * (vM_fresh (2 : Int32).toNatClampNeg))) + (1 : Int32)).toNatClampNeg r116) (2 : Int32).toNatClampNeg) + (1 : Int32))) vM_letters_116 vM_tape) := hD
        exact J137 (upd (upd (upd vM_fresh_84 ((8 : Int32) + ((2 : Int32) * (vM_fresh (2 : Int32).toNatClampNeg))).toNatClampNeg y2_84) (((8 : Int32) + ((2 : Int32) * (vM_fresh (2 : Int32).toNatClampNeg))) + (1 : Int32)).toNatClampNeg r116) (2 : Int32).toNatClampNeg (((upd (upd vM_fresh_84 ((8 : Int32) + ((2 : Int32) * (vM_fresh (2 : Int32).toNatClampNeg))).toNatClampNeg y2_84) (((8 : Int32) + ((2 : Int32) * (vM_fresh (2 : Int32).toNatClampNeg))) + (1 : Int32)).toNatClampNeg r116) (2 : Int32).toNatClampNeg) + (1 : Int32))) vM_letters_116 vM_116 H locs ls hP hD hS (lv_sub hl [] rfl) hok
    · have hok := k_neg c88 hok
      cases hok
      subst hQe; exact W.vret hx hb hr (fun t ht hW => ⟨⟨(), rfl, trivial, by rw [ht]; exact hP, va_K.moved hW.alike hK, hD⟩, hS.F ht⟩) hS.2.2 dX9_ringLine_91
  have J70 : ∀ (t0_70 : Int32) (vM_fresh_70 : Nat → Int32) (vM_letters_70 : Nat → Int32) (vM_70 : Nat → Int32), ∀ (H : Heap) (locs : List Loc) (ls : Array Slot), va_P D vwCl (wX9_ringLine cy aM qM vM_70 vM_fresh_70 vM_letters_70 vM_tape) H → va_D A (wX9_ringLine cy aM qM vM_70 vM_fresh_70 vM_letters_70 vM_tape) → va_S A s.heap H locs → lv_has ls 3 [(0, .ref aM), (1, .int ((8 : Int32) + ((2 : Int32) * (vM_fresh (2 : Int32).toNatClampNeg))))] → fX9_ringLine_J70 vM_fresh vM_tape t0_70 vM_fresh_70 vM_letters_70 vM_70 = some (z_vM, z_vM_fresh, z_vM_letters) → W p l e ({ frames := 8, cells := 0, slots := 0, locals := 173 } : Room) s m ([.ref aM] : List Value).toArray below meth c H locs 0 0 Q (F0 m 70 ls [.int t0_70]) := by
    intro t0_70 vM_fresh_70 vM_letters_70 vM_70 H locs ls hP hD hS hl hok
    unfold fX9_ringLine_J70 at hok
    refine lv_istore_n (lv' := [(2, .int t0_70), (0, .ref aM), (1, .int ((8 : Int32) + ((2 : Int32) * (vM_fresh (2 : Int32).toNatClampNeg))))]) hx hb dX9_ringLine_70 rfl hl (by decide) rfl (fun ls hl => ?_)
    refine lv_iload_n hx hb dX9_ringLine_71 rfl (lv_at hl 0 rfl) ?_
    refine lv_if_ge (tgt := 84) hx hb dX9_ringLine_72 (by decide) (fun c72 => ?_) (fun c72 => ?_)
    · have hok := k_pos c72 hok
      exact J84 t0_70 vM_fresh_70 vM_letters_70 vM_70 H locs ls hP hD hS (lv_sub hl [1, 2, 0] rfl) hok
    · have hok := k_neg c72 hok
      refine lv_aload_n hx hb dX9_ringLine_75 rfl (lv_at hl 1 rfl) ?_
      refine lv_iconst (v := 1) hx hb dX9_ringLine_76 (by decide) ?_
      refine lv_aload_n hx hb dX9_ringLine_77 rfl (lv_at hl 1 rfl) ?_
      refine va_get (D := D) (ci := 8) (v := .int (vM_70 4)) (C := RX9) (T := TX9) (N := 29) hx hb ht0 niX9 hown hK hP 0 rfl rfl 4 (by decide) (ht0 _ wd756) (fun _ h9 => h9) rfl dX9_ringLine_78 ?_
      obtain ⟨vM_81, hc81, hok⟩ := k_bind hok
      refine kCv (wc := (wX9_wrong cy aM qM vM_70)) (wc2 := (wX9_wrong cy aM qM vM_81)) (wr := [(qM 16, rI cy 224 vM_fresh_70), (qM 12, rI cy 8 vM_letters_70), (qM 1, rI cy 900 vM_tape)]) (ws2 := (wX9_ringLine cy aM qM vM_81 vM_fresh_70 vM_letters_70 vM_tape)) (kRunV (As := [.int 1, .int (vM_70 4)]) (rest := []) ⟨hx, hb, hml, hown, ht0⟩ (kX9_wrong l D cy _ aM qM vM_70 (1 : Int32) (vM_70 4) vM_81 hc81 _ rfl) (cwV 2 ht0 (gV wd774 wd775 wd776 wd744 wd777) rfl rfl rfl (by decide +kernel) ⟨Nat.le_of_ble_eq_true rfl, Nat.le_of_ble_eq_true rfl⟩) hK hN hP hD [0] rfl (by decide) 0 8 rfl rfl rfl hl.1 rfl (Nat.le_of_ble_eq_true rfl) dX9_ringLine_81 ⟨Nat.zero_le _, Nat.zero_le _⟩) hP hD hS hA [0] [1, 2, 3] rfl rfl (by decide) (by decide) [3, 0, 1, 2] (by decide) rfl rfl (fun H locs hP hD hS => ?_)
      exact J84 t0_70 vM_fresh_70 vM_letters_70 vM_81 H locs ls hP hD hS (lv_sub hl [1, 2, 0] rfl) hok
  unfold fX9_ringLine at hok
  obtain ⟨H, hH⟩ : ∃ H, H = s.heap := ⟨_, rfl⟩
  obtain ⟨locs, hlc⟩ : ∃ x : List Loc, x = [] := ⟨_, rfl⟩
  have hP : va_P D vwCl (wX9_ringLine cy aM qM vM vM_fresh vM_letters vM_tape) H := by rw [hH]; exact hP
  have hS : va_S A s.heap H locs := by rw [hH, hlc]; exact hS
  rw [show W p l e _ s m _ below meth c s.heap [] = W p l e _ s m _ below meth c H locs from by rw [hH, hlc]]
  refine lv_aload_n hx hb dX9_ringLine_0 rfl (lv_at hl 0 rfl) ?_
  refine va_get (D := D) (ci := 8) (v := .int (vM 13)) (C := RX9) (T := TX9) (N := 29) hx hb ht0 niX9 hown hK hP 0 rfl rfl 13 (by decide) (ht0 _ wd757) (fun _ h9 => h9) rfl dX9_ringLine_1 ?_
  refine lv_if_eq (tgt := 8) hx hb dX9_ringLine_4 (by decide) (fun c4 => ?_) (fun c4 => ?_)
  · have hok := k_pos c4 hok
    refine lv_bipush (v := 8) hx hb dX9_ringLine_8 (by decide) ?_
    refine lv_iconst (v := 2) hx hb dX9_ringLine_10 (by decide) ?_
    refine lv_aload_n hx hb dX9_ringLine_11 rfl (lv_at hl 0 rfl) ?_
    refine va_get (D := D) (ci := 8) (v := .ref (qM 16)) (C := RX9) (T := TX9) (N := 29) hx hb ht0 niX9 hown hK hP 0 rfl rfl 16 (by decide) (ht0 _ wd778) (fun _ h9 => h9) rfl dX9_ringLine_12 ?_
    refine lv_iconst (v := 2) hx hb dX9_ringLine_15 (by decide) ?_
    obtain ⟨g16, hok⟩ := gd_some hok
    refine va_iald hx hb hK hP 1 0 rfl rfl (okI_in g16) dX9_ringLine_16 ?_
    refine lv_imul hx hb dX9_ringLine_17 ?_
    refine lv_iadd hx hb dX9_ringLine_18 ?_
    refine lv_istore_n (lv' := [(1, .int ((8 : Int32) + ((2 : Int32) * (vM_fresh (2 : Int32).toNatClampNeg)))), (0, .ref aM)]) hx hb dX9_ringLine_19 rfl hl (by decide) rfl (fun ls hl => ?_)
    refine lv_aload_n hx hb dX9_ringLine_20 rfl (lv_at hl 1 rfl) ?_
    refine lv_aload_n hx hb dX9_ringLine_21 rfl (lv_at hl 1 rfl) ?_
    refine va_get (D := D) (ci := 8) (v := .ref (qM 16)) (C := RX9) (T := TX9) (N := 29) hx hb ht0 niX9 hown hK hP 0 rfl rfl 16 (by decide) (ht0 _ wd778) (fun _ h9 => h9) rfl dX9_ringLine_22 ?_
    refine lv_iconst (v := 2) hx hb dX9_ringLine_25 (by decide) ?_
    obtain ⟨g26, hok⟩ := gd_some hok
    refine va_iald hx hb hK hP 1 0 rfl rfl (okI_in g26) dX9_ringLine_26 ?_
    obtain ⟨⟨vM_27, vM_letters_27, vM_fresh_27⟩, hc27, hok⟩ := k_bind hok
    try dsimp only at hok
    refine kCv (wc := (wX9_newName cy aM qM vM vM_letters vM_fresh vM_tape)) (wc2 := (wX9_newName cy aM qM vM_27 vM_letters_27 vM_fresh_27 vM_tape)) (wr := []) (ws2 := (wX9_ringLine cy aM qM vM_27 vM_fresh_27 vM_letters_27 vM_tape)) (kRunVS (As := [.int (vM_fresh (2 : Int32).toNatClampNeg)]) (rest := []) ⟨hx, hb, hml, hown, ht0⟩ (kX9_newName l D cy ad _ aM qM vM vM_letters vM_fresh vM_tape (vM_fresh (2 : Int32).toNatClampNeg) vM_27 vM_letters_27 vM_fresh_27 hc27 _ rfl) (cwV 1 ht0 (gV wd810 wd811 wd812 wd744 wd813) rfl rfl rfl (by decide +kernel) ⟨Nat.le_of_ble_eq_true rfl, Nat.le_of_ble_eq_true rfl⟩) hK hN hP hD hSt hS hA [0, 2, 1, 3] rfl (by decide) 0 8 rfl rfl rfl hl.1 rfl (Nat.le_of_ble_eq_true rfl) dX9_ringLine_27 ⟨Nat.zero_le _, Nat.zero_le _⟩) hP hD hS hA [0, 2, 1, 3] [] rfl rfl (by decide) (by decide) [0, 2, 1, 3] (by decide) rfl rfl (fun H locs hP hD hS => ?_)
    refine lv_aload_n hx hb dX9_ringLine_30 rfl (lv_at hl 1 rfl) ?_
    refine va_ldcS hx hb hown (hSt.2.1 _ (List.mem_of_getElem? (i := 32) rfl)) dX9_ringLine_31 ?_
    obtain ⟨r33, hc33, hok⟩ := k_bind hok
    refine kCi (wc := (wX9_isWord cy aM qM vM_27 vM_letters_27)) (wc2 := (wX9_isWord cy aM qM vM_27 vM_letters_27)) (wr := [(qM 16, rI cy 224 vM_fresh_27), (qM 1, rI cy 900 vM_tape)]) (ws2 := (wX9_ringLine cy aM qM vM_27 vM_fresh_27 vM_letters_27 vM_tape)) (kRunVS (As := [.ref (ad.1 17)]) (rest := []) ⟨hx, hb, hml, hown, ht0⟩ (kX9_isWord l D cy ad _ aM qM vM_27 vM_letters_27 17 r33 hc33 _ rfl) (cwV 1 ht0 (gV wd762 wd763 wd764 wd744 wd765) rfl rfl rfl (by decide +kernel) ⟨Nat.le_of_ble_eq_true rfl, Nat.le_of_ble_eq_true rfl⟩) hK hN hP hD hSt hS hA [0, 2] rfl (by decide) 0 8 rfl rfl rfl hl.1 rfl (Nat.le_of_ble_eq_true rfl) dX9_ringLine_33 ⟨Nat.zero_le _, Nat.zero_le _⟩) hP hD hS hA [0, 2] [1, 3] rfl rfl (by decide) (by decide) [2, 0, 3, 1] (by decide) rfl rfl (fun H locs hP hD hS => ?_)
    refine lv_if_eq (tgt := 43) hx hb dX9_ringLine_36 (by decide) (fun c36 => ?_) (fun c36 => ?_)
    · have hok := k_pos c36 hok
      refine lv_aload_n hx hb dX9_ringLine_43 rfl (lv_at hl 1 rfl) ?_
      refine va_ldcS hx hb hown (hSt.2.1 _ (List.mem_of_getElem? (i := 30) rfl)) dX9_ringLine_44 ?_
      obtain ⟨r46, hc46, hok⟩ := k_bind hok
      refine kCi (wc := (wX9_isWord cy aM qM vM_27 vM_letters_27)) (wc2 := (wX9_isWord cy aM qM vM_27 vM_letters_27)) (wr := [(qM 16, rI cy 224 vM_fresh_27), (qM 1, rI cy 900 vM_tape)]) (ws2 := (wX9_ringLine cy aM qM vM_27 vM_fresh_27 vM_letters_27 vM_tape)) (kRunVS (As := [.ref (ad.1 4)]) (rest := []) ⟨hx, hb, hml, hown, ht0⟩ (kX9_isWord l D cy ad _ aM qM vM_27 vM_letters_27 4 r46 hc46 _ rfl) (cwV 1 ht0 (gV wd762 wd763 wd764 wd744 wd765) rfl rfl rfl (by decide +kernel) ⟨Nat.le_of_ble_eq_true rfl, Nat.le_of_ble_eq_true rfl⟩) hK hN hP hD hSt hS hA [0, 2] rfl (by decide) 0 8 rfl rfl rfl hl.1 rfl (Nat.le_of_ble_eq_true rfl) dX9_ringLine_46 ⟨Nat.zero_le _, Nat.zero_le _⟩) hP hD hS hA [0, 2] [1, 3] rfl rfl (by decide) (by decide) [2, 0, 3, 1] (by decide) rfl rfl (fun H locs hP hD hS => ?_)
      refine lv_if_eq (tgt := 56) hx hb dX9_ringLine_49 (by decide) (fun c49 => ?_) (fun c49 => ?_)
      · have hok := k_pos c49 hok
        refine lv_aload_n hx hb dX9_ringLine_56 rfl (lv_at hl 1 rfl) ?_
        refine va_ldcS hx hb hown (hSt.2.1 _ (List.mem_of_getElem? (i := 33) rfl)) dX9_ringLine_57 ?_
        obtain ⟨r59, hc59, hok⟩ := k_bind hok
        refine kCi (wc := (wX9_isWord cy aM qM vM_27 vM_letters_27)) (wc2 := (wX9_isWord cy aM qM vM_27 vM_letters_27)) (wr := [(qM 16, rI cy 224 vM_fresh_27), (qM 1, rI cy 900 vM_tape)]) (ws2 := (wX9_ringLine cy aM qM vM_27 vM_fresh_27 vM_letters_27 vM_tape)) (kRunVS (As := [.ref (ad.1 1)]) (rest := []) ⟨hx, hb, hml, hown, ht0⟩ (kX9_isWord l D cy ad _ aM qM vM_27 vM_letters_27 1 r59 hc59 _ rfl) (cwV 1 ht0 (gV wd762 wd763 wd764 wd744 wd765) rfl rfl rfl (by decide +kernel) ⟨Nat.le_of_ble_eq_true rfl, Nat.le_of_ble_eq_true rfl⟩) hK hN hP hD hSt hS hA [0, 2] rfl (by decide) 0 8 rfl rfl rfl hl.1 rfl (Nat.le_of_ble_eq_true rfl) dX9_ringLine_59 ⟨Nat.zero_le _, Nat.zero_le _⟩) hP hD hS hA [0, 2] [1, 3] rfl rfl (by decide) (by decide) [2, 0, 3, 1] (by decide) rfl rfl (fun H locs hP hD hS => ?_)
        refine lv_if_eq (tgt := 69) hx hb dX9_ringLine_62 (by decide) (fun c62 => ?_) (fun c62 => ?_)
        · have hok := k_pos c62 hok
          refine lv_iconst (v := -1) hx hb dX9_ringLine_69 (by decide) ?_
          exact J70 (-1 : Int32) vM_fresh_27 vM_letters_27 vM_27 H locs ls hP hD hS (lv_sub hl [1, 0] rfl) hok
        · have hok := k_neg c62 hok
          refine lv_iconst (v := 2) hx hb dX9_ringLine_65 (by decide) ?_
          refine lv_goto (tgt := 70) hx hb dX9_ringLine_66 (by decide) ?_
          exact J70 (2 : Int32) vM_fresh_27 vM_letters_27 vM_27 H locs ls hP hD hS (lv_sub hl [1, 0] rfl) hok
      · have hok := k_neg c49 hok
        refine lv_iconst (v := 1) hx hb dX9_ringLine_52 (by decide) ?_
        refine lv_goto (tgt := 70) hx hb dX9_ringLine_53 (by decide) ?_
        exact J70 (1 : Int32) vM_fresh_27 vM_letters_27 vM_27 H locs ls hP hD hS (lv_sub hl [1, 0] rfl) hok
    · have hok := k_neg c36 hok
      refine lv_iconst (v := 0) hx hb dX9_ringLine_39 (by decide) ?_
      refine lv_goto (tgt := 70) hx hb dX9_ringLine_40 (by decide) ?_
      exact J70 (0 : Int32) vM_fresh_27 vM_letters_27 vM_27 H locs ls hP hD hS (lv_sub hl [1, 0] rfl) hok
  · have hok := k_neg c4 hok
    cases hok
    subst hQe; exact W.vret hx hb hr (fun t ht hW => ⟨⟨(), rfl, trivial, by rw [ht]; exact hP, va_K.moved hW.alike hK, hD⟩, hS.F ht⟩) hS.2.2 dX9_ringLine_7
def wsX9_narrowLine : List Cond := .code yX9_narrowLine cX9_narrowLine 4 none :: W0
abbrev wX9_narrowLine (cy : Nat → ClassId) (aM : Nat) (qM : Nat → Nat) (vM : Nat → Int32) (vM_letters : Nat → Int32) (vM_fresh : Nat → Int32) (vM_tape : Nat → Int32) : va_W := [(aM, oX9 vM qM), (qM 12, rI cy 8 vM_letters), (qM 16, rI cy 224 vM_fresh), (qM 1, rI cy 900 vM_tape)]
set_option maxHeartbeats 4000000 in
set_option maxRecDepth 100000 in
theorem kX9_narrowLine (l : Launch) (D : va_G) (cy : Nat → ClassId) (ad : (Nat → Nat) × (Nat → Nat)) (sz : Nat) (aM : Nat) (qM : Nat → Nat) (vM : Nat → Int32) (vM_letters : Nat → Int32) (vM_fresh : Nat → Int32) (vM_tape : Nat → Int32) (z_vM : Nat → Int32) (z_vM_letters : Nat → Int32) (z_vM_fresh : Nat → Int32) (hok : fX9_narrowLine vM vM_letters vM_fresh vM_tape = some (z_vM, z_vM_letters, z_vM_fresh)) (A : Nat → Prop) (hAe : va_A (wX9_narrowLine cy aM qM vM vM_letters vM_fresh vM_tape) sz = A) : Met l yX9_narrowLine wsX9_narrowLine ({ frames := 8, cells := 0, slots := 0, locals := 173 } : Room) (kPreS D cy ad [.ref aM] (wX9_narrowLine cy aM qM vM vM_letters vM_fresh vM_tape) sz A) (kQv D cy A (wX9_narrowLine cy aM qM z_vM z_vM_letters z_vM_fresh vM_tape)) 0 0 A := by
  refine Met.ofW (cc := cX9_narrowLine) (maxL := 4) (ret := none) (by decide) rfl ?_
  intro p e s m args below meth c s₁ B hml hv
  obtain ⟨rfl, ⟨hsz, hP, hK, hD0, hN⟩, hSt⟩ := hv
  have hx := B.exec
  have hb := B.bytes
  have hr := B.returns
  have ht0 : ∀ w ∈ W0, w.before _ s = true := fun w h => atoms_spec (ws := wsX9_narrowLine) B.pre w (List.mem_cons_of_mem _ h)
  have hown : s.vm.findClass RX9 = some m.cls := findClass_of_methodNamed B.named
  have hlocks := B.notSynchronized
  subst hsz
  have hD : va_D A (wX9_narrowLine cy aM qM vM vM_letters vM_fresh vM_tape) := by rw [← hAe]; exact hD0.self
  have hA : ∀ q : Nat, s.heap.size ≤ q → A q := fun q h => by rw [← hAe]; exact Or.inr h
  have hS : va_S A s.heap s.heap [] := va_S.rf
  have hl := lv_entry ([.ref aM]) (n := 4) (Nat.le_of_ble_eq_true rfl)
  rw [lg_entry_eq]
  generalize (lg_sl ([.ref aM]) ++ List.replicate (4 - (lg_sl ([.ref aM])).length) Slot.unset).toArray = ls at hl ⊢
  have hl : lv_has ls 4 [(0, .ref aM)] := hl
  generalize hQe : MQ below (kQv D cy A (wX9_narrowLine cy aM qM z_vM z_vM_letters z_vM_fresh vM_tape)) ([.ref aM] : List Value).toArray s 0 0 A = Q
  have J55 : ∀ (y2_55 : Int32) (vM_letters_55 : Nat → Int32) (vM_55 : Nat → Int32), ∀ (H : Heap) (locs : List Loc) (ls : Array Slot), va_P D vwCl (wX9_narrowLine cy aM qM vM_55 vM_letters_55 vM_fresh vM_tape) H → va_D A (wX9_narrowLine cy aM qM vM_55 vM_letters_55 vM_fresh vM_tape) → va_S A s.heap H locs → lv_has ls 4 [(0, .ref aM), (2, .int y2_55)] → fX9_narrowLine_J55 vM_fresh vM_tape y2_55 vM_letters_55 vM_55 = some (z_vM, z_vM_letters, z_vM_fresh) → W p l e ({ frames := 8, cells := 0, slots := 0, locals := 173 } : Room) s m ([.ref aM] : List Value).toArray below meth c H locs 0 0 Q (F0 m 55 ls []) := by
    intro y2_55 vM_letters_55 vM_55 H locs ls hP hD hS hl hok
    unfold fX9_narrowLine_J55 at hok
    refine lv_aload_n hx hb dX9_narrowLine_55 rfl (lv_at hl 0 rfl) ?_
    refine va_get (D := D) (ci := 8) (v := .int (vM_55 13)) (C := RX9) (T := TX9) (N := 29) hx hb ht0 niX9 hown hK hP 0 rfl rfl 13 (by decide) (ht0 _ wd757) (fun _ h9 => h9) rfl dX9_narrowLine_56 ?_
    refine lv_if_eq (tgt := 63) hx hb dX9_narrowLine_59 (by decide) (fun c59 => ?_) (fun c59 => ?_)
    · have hok := k_pos c59 hok
      refine lv_aload_n hx hb dX9_narrowLine_63 rfl (lv_at hl 0 rfl) ?_
      obtain ⟨⟨vM_64, vM_letters_64⟩, hc64, hok⟩ := k_bind hok
      try dsimp only at hok
      refine kCv (wc := (wX9_next cy aM qM vM_55 vM_tape vM_letters_55)) (wc2 := (wX9_next cy aM qM vM_64 vM_tape vM_letters_64)) (wr := [(qM 16, rI cy 224 vM_fresh)]) (ws2 := (wX9_narrowLine cy aM qM vM_64 vM_letters_64 vM_fresh vM_tape)) (kRunV (As := []) (rest := []) ⟨hx, hb, hml, hown, ht0⟩ (kX9_next l D cy _ aM qM vM_55 vM_tape vM_letters_55 vM_64 vM_letters_64 hc64 _ rfl) (cwV 0 ht0 (gV wd766 wd767 wd768 wd744 wd769) rfl rfl rfl (by decide +kernel) ⟨Nat.le_of_ble_eq_true rfl, Nat.le_of_ble_eq_true rfl⟩) hK hN hP hD [0, 3, 1] rfl (by decide) 0 8 rfl rfl rfl hl.1 rfl (Nat.le_of_ble_eq_true rfl) dX9_narrowLine_64 ⟨Nat.zero_le _, Nat.zero_le _⟩) hP hD hS hA [0, 3, 1] [2] rfl rfl (by decide) (by decide) [1, 3, 0, 2] (by decide) rfl rfl (fun H locs hP hD hS => ?_)
      refine lv_aload_n hx hb dX9_narrowLine_67 rfl (lv_at hl 0 rfl) ?_
      refine va_ldcS hx hb hown (hSt.2.1 _ (List.mem_of_getElem? (i := 35) rfl)) dX9_narrowLine_68 ?_
      refine lv_iconst (v := 0) hx hb dX9_narrowLine_70 (by decide) ?_
      refine lv_bipush (v := 9) hx hb dX9_narrowLine_71 (by decide) ?_
      obtain ⟨⟨r73, vM_73, vM_letters_73⟩, hc73, hok⟩ := k_bind hok
      try dsimp only at hok
      refine kCi (wc := (wX9_after cy aM qM vM_64 vM_letters_64 vM_tape)) (wc2 := (wX9_after cy aM qM vM_73 vM_letters_73 vM_tape)) (wr := [(qM 16, rI cy 224 vM_fresh)]) (ws2 := (wX9_narrowLine cy aM qM vM_73 vM_letters_73 vM_fresh vM_tape)) (kRunVS (As := [.ref (ad.1 3), .int 0, .int 9]) (rest := []) ⟨hx, hb, hml, hown, ht0⟩ (kX9_after l D cy ad _ aM qM vM_64 vM_letters_64 vM_tape 3 (0 : Int32) (9 : Int32) r73 vM_73 vM_letters_73 hc73 _ rfl) (cwV 3 ht0 (gV wd806 wd807 wd808 wd744 wd809) rfl rfl rfl (by decide +kernel) ⟨Nat.le_of_ble_eq_true rfl, Nat.le_of_ble_eq_true rfl⟩) hK hN hP hD hSt hS hA [0, 1, 3] rfl (by decide) 0 8 rfl rfl rfl hl.1 rfl (Nat.le_of_ble_eq_true rfl) dX9_narrowLine_73 ⟨Nat.zero_le _, Nat.zero_le _⟩) hP hD hS hA [0, 1, 3] [2] rfl rfl (by decide) (by decide) [1, 2, 0, 3] (by decide) rfl rfl (fun H locs hP hD hS => ?_)
      refine lv_istore_n (lv' := [(3, .int r73), (0, .ref aM), (2, .int y2_55)]) hx hb dX9_narrowLine_76 rfl hl (by decide) rfl (fun ls hl => ?_)
      refine lv_aload_n hx hb dX9_narrowLine_77 rfl (lv_at hl 1 rfl) ?_
      refine va_get (D := D) (ci := 8) (v := .int (vM_73 13)) (C := RX9) (T := TX9) (N := 29) hx hb ht0 niX9 hown hK hP 0 rfl rfl 13 (by decide) (ht0 _ wd757) (fun _ h9 => h9) rfl dX9_narrowLine_78 ?_
      refine lv_if_eq (tgt := 85) hx hb dX9_narrowLine_81 (by decide) (fun c81 => ?_) (fun c81 => ?_)
      · have hok := k_pos c81 hok
        refine lv_aload_n hx hb dX9_narrowLine_85 rfl (lv_at hl 1 rfl) ?_
        refine va_get (D := D) (ci := 8) (v := .ref (qM 16)) (C := RX9) (T := TX9) (N := 29) hx hb ht0 niX9 hown hK hP 0 rfl rfl 16 (by decide) (ht0 _ wd778) (fun _ h9 => h9) rfl dX9_narrowLine_86 ?_
        refine lv_bipush (v := 16) hx hb dX9_narrowLine_89 (by decide) ?_
        refine lv_iload_n hx hb dX9_narrowLine_91 rfl (lv_at hl 2 rfl) ?_
        refine lv_iadd hx hb dX9_narrowLine_92 ?_
        refine lv_iload_n hx hb dX9_narrowLine_93 rfl (lv_at hl 0 rfl) ?_
        refine lv_iconst (v := 1) hx hb dX9_narrowLine_94 (by decide) ?_
        refine lv_iadd hx hb dX9_narrowLine_95 ?_
        obtain ⟨g96, hok⟩ := gd_some hok
        refine va_iast hx hb hK hP hD hS 2 0 rfl rfl (okI_in g96) dX9_narrowLine_96 (fun H locs hP hD hS => ?_)
        have hP : va_P D vwCl (wX9_narrowLine cy aM qM vM_73 vM_letters_73 (upd vM_fresh ((16 : Int32) + y2_55).toNatClampNeg (r73 + (1 : Int32))) vM_tape) H := hP
        have hD : va_D A (wX9_narrowLine cy aM qM vM_73 vM_letters_73 (upd vM_fresh ((16 : Int32) + y2_55).toNatClampNeg (r73 + (1 : Int32))) vM_tape) := hD
        refine lv_aload_n hx hb dX9_narrowLine_97 rfl (lv_at hl 1 rfl) ?_
        refine va_get (D := D) (ci := 8) (v := .ref (qM 16)) (C := RX9) (T := TX9) (N := 29) hx hb ht0 niX9 hown hK hP 0 rfl rfl 16 (by decide) (ht0 _ wd778) (fun _ h9 => h9) rfl dX9_narrowLine_98 ?_
        refine lv_iconst (v := 4) hx hb dX9_narrowLine_101 (by decide) ?_
        refine lv_dup2_11 hx hb dX9_narrowLine_102 rfl rfl ?_
        obtain ⟨g103, hok⟩ := gd_some hok
        refine va_iald hx hb hK hP 2 0 rfl rfl (okI_in g103) dX9_narrowLine_103 ?_
        refine lv_iconst (v := 1) hx hb dX9_narrowLine_104 (by decide) ?_
        refine lv_iadd hx hb dX9_narrowLine_105 ?_
        obtain ⟨g106, hok⟩ := gd_some hok
        refine va_iast hx hb hK hP hD hS 2 0 rfl rfl (okI_in g106) dX9_narrowLine_106 (fun H locs hP hD hS => ?_)
        have hP : va_P D vwCl (wX9_narrowLine cy aM qM vM_73 vM_letters_73 (upd (upd vM_fresh ((16 : Int32) + y2_55).toNatClampNeg (r73 + (1 : Int32))) (4 : Int32).toNatClampNeg (((upd vM_fresh ((16 : Int32) + y2_55).toNatClampNeg (r73 + (1 : Int32))) (4 : Int32).toNatClampNeg) + (1 : Int32))) vM_tape) H := hP
        have hD : va_D A (wX9_narrowLine cy aM qM vM_73 vM_letters_73 (upd (upd vM_fresh ((16 : Int32) + y2_55).toNatClampNeg (r73 + (1 : Int32))) (4 : Int32).toNatClampNeg (((upd vM_fresh ((16 : Int32) + y2_55).toNatClampNeg (r73 + (1 : Int32))) (4 : Int32).toNatClampNeg) + (1 : Int32))) vM_tape) := hD
        cases hok
        subst hQe; exact W.vret hx hb hr (fun t ht hW => ⟨⟨(), rfl, trivial, by rw [ht]; exact hP, va_K.moved hW.alike hK, hD⟩, hS.F ht⟩) hS.2.2 dX9_narrowLine_107
      · have hok := k_neg c81 hok
        cases hok
        subst hQe; exact W.vret hx hb hr (fun t ht hW => ⟨⟨(), rfl, trivial, by rw [ht]; exact hP, va_K.moved hW.alike hK, hD⟩, hS.F ht⟩) hS.2.2 dX9_narrowLine_84
    · have hok := k_neg c59 hok
      cases hok
      subst hQe; exact W.vret hx hb hr (fun t ht hW => ⟨⟨(), rfl, trivial, by rw [ht]; exact hP, va_K.moved hW.alike hK, hD⟩, hS.F ht⟩) hS.2.2 dX9_narrowLine_62
  unfold fX9_narrowLine at hok
  obtain ⟨H, hH⟩ : ∃ H, H = s.heap := ⟨_, rfl⟩
  obtain ⟨locs, hlc⟩ : ∃ x : List Loc, x = [] := ⟨_, rfl⟩
  have hP : va_P D vwCl (wX9_narrowLine cy aM qM vM vM_letters vM_fresh vM_tape) H := by rw [hH]; exact hP
  have hS : va_S A s.heap H locs := by rw [hH, hlc]; exact hS
  rw [show W p l e _ s m _ below meth c s.heap [] = W p l e _ s m _ below meth c H locs from by rw [hH, hlc]]
  refine lv_aload_n hx hb dX9_narrowLine_0 rfl (lv_at hl 0 rfl) ?_
  refine va_get (D := D) (ci := 8) (v := .int (vM 13)) (C := RX9) (T := TX9) (N := 29) hx hb ht0 niX9 hown hK hP 0 rfl rfl 13 (by decide) (ht0 _ wd757) (fun _ h9 => h9) rfl dX9_narrowLine_1 ?_
  refine lv_if_eq (tgt := 8) hx hb dX9_narrowLine_4 (by decide) (fun c4 => ?_) (fun c4 => ?_)
  · have hok := k_pos c4 hok
    refine lv_aload_n hx hb dX9_narrowLine_8 rfl (lv_at hl 0 rfl) ?_
    obtain ⟨⟨r9, vM_9, vM_letters_9⟩, hc9, hok⟩ := k_bind hok
    try dsimp only at hok
    refine kCi (wc := (wX9_ringName cy aM qM vM vM_letters vM_fresh vM_tape)) (wc2 := (wX9_ringName cy aM qM vM_9 vM_letters_9 vM_fresh vM_tape)) (wr := []) (ws2 := (wX9_narrowLine cy aM qM vM_9 vM_letters_9 vM_fresh vM_tape)) (kRunVS (As := []) (rest := []) ⟨hx, hb, hml, hown, ht0⟩ (kX9_ringName l D cy ad _ aM qM vM vM_letters vM_fresh vM_tape r9 vM_9 vM_letters_9 hc9 _ rfl) (cwV 0 ht0 (gV wd814 wd815 wd816 wd744 wd817) rfl rfl rfl (by decide +kernel) ⟨Nat.le_of_ble_eq_true rfl, Nat.le_of_ble_eq_true rfl⟩) hK hN hP hD hSt hS hA [0, 1, 2, 3] rfl (by decide) 0 8 rfl rfl rfl hl.1 rfl (Nat.le_of_ble_eq_true rfl) dX9_narrowLine_9 ⟨Nat.zero_le _, Nat.zero_le _⟩) hP hD hS hA [0, 1, 2, 3] [] rfl rfl (by decide) (by decide) [0, 1, 2, 3] (by decide) rfl rfl (fun H locs hP hD hS => ?_)
    refine lv_istore_n (lv' := [(1, .int r9), (0, .ref aM)]) hx hb dX9_narrowLine_12 rfl hl (by decide) rfl (fun ls hl => ?_)
    refine lv_aload_n hx hb dX9_narrowLine_13 rfl (lv_at hl 1 rfl) ?_
    refine va_get (D := D) (ci := 8) (v := .int (vM_9 13)) (C := RX9) (T := TX9) (N := 29) hx hb ht0 niX9 hown hK hP 0 rfl rfl 13 (by decide) (ht0 _ wd757) (fun _ h9 => h9) rfl dX9_narrowLine_14 ?_
    refine lv_if_eq (tgt := 21) hx hb dX9_narrowLine_17 (by decide) (fun c17 => ?_) (fun c17 => ?_)
    · have hok := k_pos c17 hok
      refine lv_aload_n hx hb dX9_narrowLine_21 rfl (lv_at hl 1 rfl) ?_
      refine lv_iload_n hx hb dX9_narrowLine_22 rfl (lv_at hl 0 rfl) ?_
      obtain ⟨⟨r23, vM_23⟩, hc23, hok⟩ := k_bind hok
      try dsimp only at hok
      refine kCi (wc := (wX9_placeHere cy aM qM vM_9 vM_fresh)) (wc2 := (wX9_placeHere cy aM qM vM_23 vM_fresh)) (wr := [(qM 12, rI cy 8 vM_letters_9), (qM 1, rI cy 900 vM_tape)]) (ws2 := (wX9_narrowLine cy aM qM vM_23 vM_letters_9 vM_fresh vM_tape)) (kRunV (As := [.int r9]) (rest := []) ⟨hx, hb, hml, hown, ht0⟩ (kX9_placeHere l D cy _ aM qM vM_9 vM_fresh r9 r23 vM_23 hc23 _ rfl) (cwV 1 ht0 (gV wd818 wd819 wd820 wd744 wd821) rfl rfl rfl (by decide +kernel) ⟨Nat.le_of_ble_eq_true rfl, Nat.le_of_ble_eq_true rfl⟩) hK hN hP hD [0, 2] rfl (by decide) 0 8 rfl rfl rfl hl.1 rfl (Nat.le_of_ble_eq_true rfl) dX9_narrowLine_23 ⟨Nat.zero_le _, Nat.zero_le _⟩) hP hD hS hA [0, 2] [1, 3] rfl rfl (by decide) (by decide) [2, 0, 3, 1] (by decide) rfl rfl (fun H locs hP hD hS => ?_)
      refine lv_istore_n (lv' := [(2, .int r23), (1, .int r9), (0, .ref aM)]) hx hb dX9_narrowLine_26 rfl hl (by decide) rfl (fun ls hl => ?_)
      refine lv_aload_n hx hb dX9_narrowLine_27 rfl (lv_at hl 2 rfl) ?_
      refine va_get (D := D) (ci := 8) (v := .int (vM_23 13)) (C := RX9) (T := TX9) (N := 29) hx hb ht0 niX9 hown hK hP 0 rfl rfl 13 (by decide) (ht0 _ wd757) (fun _ h9 => h9) rfl dX9_narrowLine_28 ?_
      refine lv_if_ne (tgt := 55) hx hb dX9_narrowLine_31 (by decide) (fun c31 => ?_) (fun c31 => ?_)
      · have hok := k_neg c31 hok
        exact J55 r23 vM_letters_9 vM_23 H locs ls hP hD hS (lv_sub hl [2, 0] rfl) hok
      · have hok := k_pos c31 hok
        refine lv_aload_n hx hb dX9_narrowLine_34 rfl (lv_at hl 2 rfl) ?_
        refine va_get (D := D) (ci := 8) (v := .ref (qM 16)) (C := RX9) (T := TX9) (N := 29) hx hb ht0 niX9 hown hK hP 0 rfl rfl 16 (by decide) (ht0 _ wd778) (fun _ h9 => h9) rfl dX9_narrowLine_35 ?_
        refine lv_bipush (v := 16) hx hb dX9_narrowLine_38 (by decide) ?_
        refine lv_iload_n hx hb dX9_narrowLine_40 rfl (lv_at hl 0 rfl) ?_
        refine lv_iadd hx hb dX9_narrowLine_41 ?_
        obtain ⟨g42, hok⟩ := gd_some hok
        refine va_iald hx hb hK hP 2 0 rfl rfl (okI_in g42) dX9_narrowLine_42 ?_
        refine lv_if_le (tgt := 55) hx hb dX9_narrowLine_43 (by decide) (fun c43 => ?_) (fun c43 => ?_)
        · have hok := k_pos c43 hok
          exact J55 r23 vM_letters_9 vM_23 H locs ls hP hD hS (lv_sub hl [2, 0] rfl) hok
        · have hok := k_neg c43 hok
          refine lv_aload_n hx hb dX9_narrowLine_46 rfl (lv_at hl 2 rfl) ?_
          refine lv_iconst (v := 3) hx hb dX9_narrowLine_47 (by decide) ?_
          refine lv_aload_n hx hb dX9_narrowLine_48 rfl (lv_at hl 2 rfl) ?_
          refine va_get (D := D) (ci := 8) (v := .int (vM_23 4)) (C := RX9) (T := TX9) (N := 29) hx hb ht0 niX9 hown hK hP 0 rfl rfl 4 (by decide) (ht0 _ wd756) (fun _ h9 => h9) rfl dX9_narrowLine_49 ?_
          obtain ⟨vM_52, hc52, hok⟩ := k_bind hok
          refine kCv (wc := (wX9_wrong cy aM qM vM_23)) (wc2 := (wX9_wrong cy aM qM vM_52)) (wr := [(qM 12, rI cy 8 vM_letters_9), (qM 16, rI cy 224 vM_fresh), (qM 1, rI cy 900 vM_tape)]) (ws2 := (wX9_narrowLine cy aM qM vM_52 vM_letters_9 vM_fresh vM_tape)) (kRunV (As := [.int 3, .int (vM_23 4)]) (rest := []) ⟨hx, hb, hml, hown, ht0⟩ (kX9_wrong l D cy _ aM qM vM_23 (3 : Int32) (vM_23 4) vM_52 hc52 _ rfl) (cwV 2 ht0 (gV wd774 wd775 wd776 wd744 wd777) rfl rfl rfl (by decide +kernel) ⟨Nat.le_of_ble_eq_true rfl, Nat.le_of_ble_eq_true rfl⟩) hK hN hP hD [0] rfl (by decide) 0 8 rfl rfl rfl hl.1 rfl (Nat.le_of_ble_eq_true rfl) dX9_narrowLine_52 ⟨Nat.zero_le _, Nat.zero_le _⟩) hP hD hS hA [0] [1, 2, 3] rfl rfl (by decide) (by decide) [3, 0, 1, 2] (by decide) rfl rfl (fun H locs hP hD hS => ?_)
          exact J55 r23 vM_letters_9 vM_52 H locs ls hP hD hS (lv_sub hl [2, 0] rfl) hok
    · have hok := k_neg c17 hok
      cases hok
      subst hQe; exact W.vret hx hb hr (fun t ht hW => ⟨⟨(), rfl, trivial, by rw [ht]; exact hP, va_K.moved hW.alike hK, hD⟩, hS.F ht⟩) hS.2.2 dX9_narrowLine_20
  · have hok := k_neg c4 hok
    cases hok
    subst hQe; exact W.vret hx hb hr (fun t ht hW => ⟨⟨(), rfl, trivial, by rw [ht]; exact hP, va_K.moved hW.alike hK, hD⟩, hS.F ht⟩) hS.2.2 dX9_narrowLine_7
def wsX9_doorLine : List Cond := .code yX9_doorLine cX9_doorLine 10 none :: W0
abbrev wX9_doorLine (cy : Nat → ClassId) (aM : Nat) (qM : Nat → Nat) (vM : Nat → Int32) (vM_fresh : Nat → Int32) (vM_letters : Nat → Int32) (vM_tape : Nat → Int32) : va_W := [(aM, oX9 vM qM), (qM 16, rI cy 224 vM_fresh), (qM 12, rI cy 8 vM_letters), (qM 1, rI cy 900 vM_tape)]
set_option maxHeartbeats 4000000 in
set_option maxRecDepth 100000 in
theorem kX9_doorLine (l : Launch) (D : va_G) (cy : Nat → ClassId) (ad : (Nat → Nat) × (Nat → Nat)) (sz : Nat) (aM : Nat) (qM : Nat → Nat) (vM : Nat → Int32) (vM_fresh : Nat → Int32) (vM_letters : Nat → Int32) (vM_tape : Nat → Int32) (z_vM : Nat → Int32) (z_vM_fresh : Nat → Int32) (z_vM_letters : Nat → Int32) (hok : fX9_doorLine vM vM_fresh vM_letters vM_tape = some (z_vM, z_vM_fresh, z_vM_letters)) (A : Nat → Prop) (hAe : va_A (wX9_doorLine cy aM qM vM vM_fresh vM_letters vM_tape) sz = A) : Met l yX9_doorLine wsX9_doorLine ({ frames := 8, cells := 0, slots := 0, locals := 171 } : Room) (kPreS D cy ad [.ref aM] (wX9_doorLine cy aM qM vM vM_fresh vM_letters vM_tape) sz A) (kQv D cy A (wX9_doorLine cy aM qM z_vM z_vM_fresh z_vM_letters vM_tape)) 0 0 A := by
  refine Met.ofW (cc := cX9_doorLine) (maxL := 10) (ret := none) (by decide) rfl ?_
  intro p e s m args below meth c s₁ B hml hv
  obtain ⟨rfl, ⟨hsz, hP, hK, hD0, hN⟩, hSt⟩ := hv
  have hx := B.exec
  have hb := B.bytes
  have hr := B.returns
  have ht0 : ∀ w ∈ W0, w.before _ s = true := fun w h => atoms_spec (ws := wsX9_doorLine) B.pre w (List.mem_cons_of_mem _ h)
  have hown : s.vm.findClass RX9 = some m.cls := findClass_of_methodNamed B.named
  have hlocks := B.notSynchronized
  subst hsz
  have hD : va_D A (wX9_doorLine cy aM qM vM vM_fresh vM_letters vM_tape) := by rw [← hAe]; exact hD0.self
  have hA : ∀ q : Nat, s.heap.size ≤ q → A q := fun q h => by rw [← hAe]; exact Or.inr h
  have hS : va_S A s.heap s.heap [] := va_S.rf
  have hl := lv_entry ([.ref aM]) (n := 10) (Nat.le_of_ble_eq_true rfl)
  rw [lg_entry_eq]
  generalize (lg_sl ([.ref aM]) ++ List.replicate (10 - (lg_sl ([.ref aM])).length) Slot.unset).toArray = ls at hl ⊢
  have hl : lv_has ls 10 [(0, .ref aM)] := hl
  generalize hQe : MQ below (kQv D cy A (wX9_doorLine cy aM qM z_vM z_vM_fresh z_vM_letters vM_tape)) ([.ref aM] : List Value).toArray s 0 0 A = Q
  have J195 : ∀ (y3_195 : Int32) (y5_195 : Int32) (vM_letters_195 : Nat → Int32) (vM_195 : Nat → Int32), ∀ (H : Heap) (locs : List Loc) (ls : Array Slot), va_P D vwCl (wX9_doorLine cy aM qM vM_195 vM_fresh vM_letters_195 vM_tape) H → va_D A (wX9_doorLine cy aM qM vM_195 vM_fresh vM_letters_195 vM_tape) → va_S A s.heap H locs → lv_has ls 10 [(0, .ref aM), (1, .int ((52 : Int32) + ((2 : Int32) * (vM_fresh (5 : Int32).toNatClampNeg)))), (3, .int y3_195), (5, .int y5_195)] → fX9_doorLine_J195 vM_fresh vM_tape y3_195 y5_195 vM_letters_195 vM_195 = some (z_vM, z_vM_fresh, z_vM_letters) → W p l e ({ frames := 8, cells := 0, slots := 0, locals := 171 } : Room) s m ([.ref aM] : List Value).toArray below meth c H locs 0 0 Q (F0 m 195 ls []) := by
    intro y3_195 y5_195 vM_letters_195 vM_195 H locs ls hP hD hS hl hok
    unfold fX9_doorLine_J195 at hok
    refine lv_aload_n hx hb dX9_doorLine_195 rfl (lv_at hl 0 rfl) ?_
    refine va_get (D := D) (ci := 8) (v := .int (vM_195 13)) (C := RX9) (T := TX9) (N := 29) hx hb ht0 niX9 hown hK hP 0 rfl rfl 13 (by decide) (ht0 _ wd757) (fun _ h9 => h9) rfl dX9_doorLine_196 ?_
    refine lv_if_eq (tgt := 203) hx hb dX9_doorLine_199 (by decide) (fun c199 => ?_) (fun c199 => ?_)
    · have hok := k_pos c199 hok
      refine lv_aload_n hx hb dX9_doorLine_203 rfl (lv_at hl 0 rfl) ?_
      obtain ⟨⟨vM_204, vM_letters_204⟩, hc204, hok⟩ := k_bind hok
      try dsimp only at hok
      refine kCv (wc := (wX9_next cy aM qM vM_195 vM_tape vM_letters_195)) (wc2 := (wX9_next cy aM qM vM_204 vM_tape vM_letters_204)) (wr := [(qM 16, rI cy 224 vM_fresh)]) (ws2 := (wX9_doorLine cy aM qM vM_204 vM_fresh vM_letters_204 vM_tape)) (kRunV (As := []) (rest := []) ⟨hx, hb, hml, hown, ht0⟩ (kX9_next l D cy _ aM qM vM_195 vM_tape vM_letters_195 vM_204 vM_letters_204 hc204 _ rfl) (cwV 0 ht0 (gV wd766 wd767 wd768 wd744 wd769) rfl rfl rfl (by decide +kernel) ⟨Nat.le_of_ble_eq_true rfl, Nat.le_of_ble_eq_true rfl⟩) hK hN hP hD [0, 3, 2] rfl (by decide) 0 8 rfl rfl rfl hl.1 rfl (Nat.le_of_ble_eq_true rfl) dX9_doorLine_204 ⟨Nat.zero_le _, Nat.zero_le _⟩) hP hD hS hA [0, 3, 2] [1] rfl rfl (by decide) (by decide) [1, 0, 3, 2] (by decide) rfl rfl (fun H locs hP hD hS => ?_)
      refine lv_aload_n hx hb dX9_doorLine_207 rfl (lv_at hl 0 rfl) ?_
      refine va_get (D := D) (ci := 8) (v := .ref (qM 16)) (C := RX9) (T := TX9) (N := 29) hx hb ht0 niX9 hown hK hP 0 rfl rfl 16 (by decide) (ht0 _ wd778) (fun _ h9 => h9) rfl dX9_doorLine_208 ?_
      refine lv_iload_n hx hb dX9_doorLine_211 rfl (lv_at hl 1 rfl) ?_
      refine lv_iload_n hx hb dX9_doorLine_212 rfl (lv_at hl 2 rfl) ?_
      obtain ⟨g213, hok⟩ := gd_some hok
      refine va_iast hx hb hK hP hD hS 1 0 rfl rfl (okI_in g213) dX9_doorLine_213 (fun H locs hP hD hS => ?_)
      have hP : va_P D vwCl (wX9_doorLine cy aM qM vM_204 (upd vM_fresh ((52 : Int32) + ((2 : Int32) * (vM_fresh (5 : Int32).toNatClampNeg))).toNatClampNeg y3_195) vM_letters_204 vM_tape) H := hP
      have hD : va_D A (wX9_doorLine cy aM qM vM_204 (upd vM_fresh ((52 : Int32) + ((2 : Int32) * (vM_fresh (5 : Int32).toNatClampNeg))).toNatClampNeg y3_195) vM_letters_204 vM_tape) := hD
      refine lv_aload_n hx hb dX9_doorLine_214 rfl (lv_at hl 0 rfl) ?_
      refine va_get (D := D) (ci := 8) (v := .ref (qM 16)) (C := RX9) (T := TX9) (N := 29) hx hb ht0 niX9 hown hK hP 0 rfl rfl 16 (by decide) (ht0 _ wd778) (fun _ h9 => h9) rfl dX9_doorLine_215 ?_
      refine lv_iload_n hx hb dX9_doorLine_218 rfl (lv_at hl 1 rfl) ?_
      refine lv_iconst (v := 1) hx hb dX9_doorLine_219 (by decide) ?_
      refine lv_iadd hx hb dX9_doorLine_220 ?_
      refine lv_iload hx hb dX9_doorLine_221 (lv_at hl 3 rfl) ?_
      obtain ⟨g223, hok⟩ := gd_some hok
      refine va_iast hx hb hK hP hD hS 1 0 rfl rfl (okI_in g223) dX9_doorLine_223 (fun H locs hP hD hS => ?_)
      have hP : va_P D vwCl (wX9_doorLine cy aM qM vM_204 (upd (upd vM_fresh ((52 : Int32) + ((2 : Int32) * (vM_fresh (5 : Int32).toNatClampNeg))).toNatClampNeg y3_195) (((52 : Int32) + ((2 : Int32) * (vM_fresh (5 : Int32).toNatClampNeg))) + (1 : Int32)).toNatClampNeg y5_195) vM_letters_204 vM_tape) H := hP
      have hD : va_D A (wX9_doorLine cy aM qM vM_204 (upd (upd vM_fresh ((52 : Int32) + ((2 : Int32) * (vM_fresh (5 : Int32).toNatClampNeg))).toNatClampNeg y3_195) (((52 : Int32) + ((2 : Int32) * (vM_fresh (5 : Int32).toNatClampNeg))) + (1 : Int32)).toNatClampNeg y5_195) vM_letters_204 vM_tape) := hD
      refine lv_aload_n hx hb dX9_doorLine_224 rfl (lv_at hl 0 rfl) ?_
      refine va_get (D := D) (ci := 8) (v := .ref (qM 16)) (C := RX9) (T := TX9) (N := 29) hx hb ht0 niX9 hown hK hP 0 rfl rfl 16 (by decide) (ht0 _ wd778) (fun _ h9 => h9) rfl dX9_doorLine_225 ?_
      refine lv_iconst (v := 5) hx hb dX9_doorLine_228 (by decide) ?_
      refine lv_dup2_11 hx hb dX9_doorLine_229 rfl rfl ?_
      obtain ⟨g230, hok⟩ := gd_some hok
      refine va_iald hx hb hK hP 1 0 rfl rfl (okI_in g230) dX9_doorLine_230 ?_
      refine lv_iconst (v := 1) hx hb dX9_doorLine_231 (by decide) ?_
      refine lv_iadd hx hb dX9_doorLine_232 ?_
      obtain ⟨g233, hok⟩ := gd_some hok
      refine va_iast hx hb hK hP hD hS 1 0 rfl rfl (okI_in g233) dX9_doorLine_233 (fun H locs hP hD hS => ?_)
      have hP : va_P D vwCl (wX9_doorLine cy aM qM vM_204 (upd (upd (upd vM_fresh ((52 : Int32) + ((2 : Int32) * (vM_fresh (5 : Int32).toNatClampNeg))).toNatClampNeg y3_195) (((52 : Int32) + ((2 : Int32) * (vM_fresh (5 : Int32).toNatClampNeg))) + (1 : Int32)).toNatClampNeg y5_195) (5 : Int32).toNatClampNeg (((upd (upd vM_fresh ((52 : Int32) + ((2 : Int32) * (vM_fresh (5 : Int32).toNatClampNeg))).toNatClampNeg y3_195) (((52 : Int32) + ((2 : Int32) * (vM_fresh (5 : Int32).toNatClampNeg))) + (1 : Int32)).toNatClampNeg y5_195) (5 : Int32).toNatClampNeg) + (1 : Int32))) vM_letters_204 vM_tape) H := hP
      have hD : va_D A (wX9_doorLine cy aM qM vM_204 (upd (upd (upd vM_fresh ((52 : Int32) + ((2 : Int32) * (vM_fresh (5 : Int32).toNatClampNeg))).toNatClampNeg y3_195) (((52 : Int32) + ((2 : Int32) * (vM_fresh (5 : Int32).toNatClampNeg))) + (1 : Int32)).toNatClampNeg y5_195) (5 : Int32).toNatClampNeg (((upd (upd vM_fresh ((52 : Int32) + ((2 : Int32) * (vM_fresh (5 : Int32).toNatClampNeg))).toNatClampNeg y3_195) (((52 : Int32) + ((2 : Int32) * (vM_fresh (5 : Int32).toNatClampNeg))) + (1 : Int32)).toNatClampNeg y5_195) (5 : Int32).toNatClampNeg) + (1 : Int32))) vM_letters_204 vM_tape) := hD
      cases hok
      subst hQe; exact W.vret hx hb hr (fun t ht hW => ⟨⟨(), rfl, trivial, by rw [ht]; exact hP, va_K.moved hW.alike hK, hD⟩, hS.F ht⟩) hS.2.2 dX9_doorLine_234
    · have hok := k_neg c199 hok
      cases hok
      subst hQe; exact W.vret hx hb hr (fun t ht hW => ⟨⟨(), rfl, trivial, by rw [ht]; exact hP, va_K.moved hW.alike hK, hD⟩, hS.F ht⟩) hS.2.2 dX9_doorLine_202
  have L89 : ∀ (fuel : Nat) (y3_89 : Int32) (y5_89 : Int32) (y6_89 : Int32) (y7_89 : Int32) (vM_letters_89 : Nat → Int32) (vM_89 : Nat → Int32), ∀ (H : Heap) (locs : List Loc) (ls : Array Slot), va_P D vwCl (wX9_doorLine cy aM qM vM_89 vM_fresh vM_letters_89 vM_tape) H → va_D A (wX9_doorLine cy aM qM vM_89 vM_fresh vM_letters_89 vM_tape) → va_S A s.heap H locs → lv_has ls 10 [(0, .ref aM), (1, .int ((52 : Int32) + ((2 : Int32) * (vM_fresh (5 : Int32).toNatClampNeg)))), (3, .int y3_89), (5, .int y5_89), (6, .int y6_89), (7, .int y7_89)] → lp (fX9_doorLine_B89 vM_fresh vM_tape) fuel (y3_89, y5_89, y6_89, y7_89, vM_letters_89, vM_89) = some (z_vM, z_vM_fresh, z_vM_letters) → W p l e ({ frames := 8, cells := 0, slots := 0, locals := 171 } : Room) s m ([.ref aM] : List Value).toArray below meth c H locs 0 0 Q (F0 m 89 ls []) := by
    intro fuel
    induction fuel with
    | zero => intro y3_89 y5_89 y6_89 y7_89 vM_letters_89 vM_89 H locs ls hP hD hS hl hok; exact (lp_0 hok).elim
    | succ fuel ih89 =>
      intro y3_89 y5_89 y6_89 y7_89 vM_letters_89 vM_89 H locs ls hP hD hS hl hok
      obtain ⟨y89, hok, hL89, hR89⟩ := lp_step hok
      have J166 : ∀ (t0_166 : Int32), ∀ (H : Heap) (locs : List Loc) (ls : Array Slot), va_P D vwCl (wX9_doorLine cy aM qM vM_89 vM_fresh vM_letters_89 vM_tape) H → va_D A (wX9_doorLine cy aM qM vM_89 vM_fresh vM_letters_89 vM_tape) → va_S A s.heap H locs → lv_has ls 10 [(0, .ref aM), (1, .int ((52 : Int32) + ((2 : Int32) * (vM_fresh (5 : Int32).toNatClampNeg)))), (3, .int y3_89), (5, .int y5_89), (7, .int y7_89)] → fX9_doorLine_J166 y3_89 y5_89 y7_89 vM_letters_89 vM_89 t0_166 = some y89 → W p l e ({ frames := 8, cells := 0, slots := 0, locals := 171 } : Room) s m ([.ref aM] : List Value).toArray below meth c H locs 0 0 Q (F0 m 166 ls [.int t0_166]) := by
        intro t0_166 H locs ls hP hD hS hl hok
        unfold fX9_doorLine_J166 at hok
        refine lv_istore (lv' := [(6, .int t0_166), (0, .ref aM), (1, .int ((52 : Int32) + ((2 : Int32) * (vM_fresh (5 : Int32).toNatClampNeg)))), (3, .int y3_89), (5, .int y5_89), (7, .int y7_89)]) hx hb dX9_doorLine_166 hl (by decide) rfl (fun ls hl => ?_)
        refine lv_iinc (v := (y7_89 + 1)) (lv' := [(7, .int (y7_89 + 1)), (6, .int t0_166), (0, .ref aM), (1, .int ((52 : Int32) + ((2 : Int32) * (vM_fresh (5 : Int32).toNatClampNeg)))), (3, .int y3_89), (5, .int y5_89)]) hx hb dX9_doorLine_168 hl (k := 5) rfl (by first | rfl | decide) (by decide) rfl (fun ls hl => ?_)
        refine lv_goto (tgt := 89) hx hb dX9_doorLine_171 (by decide) ?_
        exact ih89 y3_89 y5_89 t0_166 (y7_89 + 1) vM_letters_89 vM_89 H locs ls hP hD hS (lv_sub hl [2, 3, 4, 5, 1, 0] rfl) (hR89 _ (Option.some.inj hok).symm)
      have J165 : ∀ (H : Heap) (locs : List Loc) (ls : Array Slot), va_P D vwCl (wX9_doorLine cy aM qM vM_89 vM_fresh vM_letters_89 vM_tape) H → va_D A (wX9_doorLine cy aM qM vM_89 vM_fresh vM_letters_89 vM_tape) → va_S A s.heap H locs → lv_has ls 10 [(0, .ref aM), (1, .int ((52 : Int32) + ((2 : Int32) * (vM_fresh (5 : Int32).toNatClampNeg)))), (3, .int y3_89), (5, .int y5_89), (7, .int y7_89)] → fX9_doorLine_J165 y3_89 y5_89 y7_89 vM_letters_89 vM_89 = some y89 → W p l e ({ frames := 8, cells := 0, slots := 0, locals := 171 } : Room) s m ([.ref aM] : List Value).toArray below meth c H locs 0 0 Q (F0 m 165 ls []) := by
        intro  H locs ls hP hD hS hl hok
        unfold fX9_doorLine_J165 at hok
        refine lv_iconst (v := 0) hx hb dX9_doorLine_165 (by decide) ?_
        exact J166 (0 : Int32) H locs ls hP hD hS (lv_sub hl [0, 1, 2, 3, 4] rfl) hok
      have J161 : ∀ (H : Heap) (locs : List Loc) (ls : Array Slot), va_P D vwCl (wX9_doorLine cy aM qM vM_89 vM_fresh vM_letters_89 vM_tape) H → va_D A (wX9_doorLine cy aM qM vM_89 vM_fresh vM_letters_89 vM_tape) → va_S A s.heap H locs → lv_has ls 10 [(0, .ref aM), (1, .int ((52 : Int32) + ((2 : Int32) * (vM_fresh (5 : Int32).toNatClampNeg)))), (3, .int y3_89), (5, .int y5_89), (7, .int y7_89)] → fX9_doorLine_J161 y3_89 y5_89 y7_89 vM_letters_89 vM_89 = some y89 → W p l e ({ frames := 8, cells := 0, slots := 0, locals := 171 } : Room) s m ([.ref aM] : List Value).toArray below meth c H locs 0 0 Q (F0 m 161 ls []) := by
        intro  H locs ls hP hD hS hl hok
        unfold fX9_doorLine_J161 at hok
        refine lv_iconst (v := 1) hx hb dX9_doorLine_161 (by decide) ?_
        refine lv_goto (tgt := 166) hx hb dX9_doorLine_162 (by decide) ?_
        exact J166 (1 : Int32) H locs ls hP hD hS (lv_sub hl [0, 1, 2, 3, 4] rfl) hok
      have J148 : ∀ (H : Heap) (locs : List Loc) (ls : Array Slot), va_P D vwCl (wX9_doorLine cy aM qM vM_89 vM_fresh vM_letters_89 vM_tape) H → va_D A (wX9_doorLine cy aM qM vM_89 vM_fresh vM_letters_89 vM_tape) → va_S A s.heap H locs → lv_has ls 10 [(0, .ref aM), (1, .int ((52 : Int32) + ((2 : Int32) * (vM_fresh (5 : Int32).toNatClampNeg)))), (3, .int y3_89), (5, .int y5_89), (7, .int y7_89), (8, .int (vM_fresh ((52 : Int32) + ((2 : Int32) * y7_89)).toNatClampNeg)), (9, .int (vM_fresh (((52 : Int32) + ((2 : Int32) * y7_89)) + (1 : Int32)).toNatClampNeg))] → fX9_doorLine_J148 vM_fresh y3_89 y5_89 y7_89 vM_letters_89 vM_89 = some y89 → W p l e ({ frames := 8, cells := 0, slots := 0, locals := 171 } : Room) s m ([.ref aM] : List Value).toArray below meth c H locs 0 0 Q (F0 m 148 ls []) := by
        intro  H locs ls hP hD hS hl hok
        unfold fX9_doorLine_J148 at hok
        refine lv_iload hx hb dX9_doorLine_148 (lv_at hl 5 rfl) ?_
        refine lv_iload hx hb dX9_doorLine_150 (lv_at hl 3 rfl) ?_
        refine lv_icmp_ne (tgt := 165) hx hb dX9_doorLine_152 (by decide) (fun c152 => ?_) (fun c152 => ?_)
        · have hok := k_neg c152 hok
          exact J165  H locs ls hP hD hS (lv_sub hl [0, 1, 2, 3, 4] rfl) hok
        · have hok := k_pos c152 hok
          refine lv_iload hx hb dX9_doorLine_155 (lv_at hl 6 rfl) ?_
          refine lv_iload_n hx hb dX9_doorLine_157 rfl (lv_at hl 2 rfl) ?_
          refine lv_icmp_ne (tgt := 165) hx hb dX9_doorLine_158 (by decide) (fun c158 => ?_) (fun c158 => ?_)
          · have hok := k_neg c158 hok
            exact J165  H locs ls hP hD hS (lv_sub hl [0, 1, 2, 3, 4] rfl) hok
          · have hok := k_pos c158 hok
            exact J161  H locs ls hP hD hS (lv_sub hl [0, 1, 2, 3, 4] rfl) hok
      unfold fX9_doorLine_B89 at hok
      try dsimp only at hok
      refine lv_iload hx hb dX9_doorLine_89 (lv_at hl 5 rfl) ?_
      refine lv_aload_n hx hb dX9_doorLine_91 rfl (lv_at hl 0 rfl) ?_
      refine va_get (D := D) (ci := 8) (v := .ref (qM 16)) (C := RX9) (T := TX9) (N := 29) hx hb ht0 niX9 hown hK hP 0 rfl rfl 16 (by decide) (ht0 _ wd778) (fun _ h9 => h9) rfl dX9_doorLine_92 ?_
      refine lv_iconst (v := 5) hx hb dX9_doorLine_95 (by decide) ?_
      obtain ⟨g96, hok⟩ := gd_some hok
      refine va_iald hx hb hK hP 1 0 rfl rfl (okI_in g96) dX9_doorLine_96 ?_
      refine lv_icmp_ge (tgt := 174) hx hb dX9_doorLine_97 (by decide) (fun c97 => ?_) (fun c97 => ?_)
      · have hok := k_pos c97 hok
        obtain ⟨e89, hok, he89⟩ := ex_some hok
        have hok := hok.trans (congrArg some (hL89 _ he89))
        refine lv_aload_n hx hb dX9_doorLine_174 rfl (lv_at hl 0 rfl) ?_
        refine va_get (D := D) (ci := 8) (v := .int (vM_89 13)) (C := RX9) (T := TX9) (N := 29) hx hb ht0 niX9 hown hK hP 0 rfl rfl 13 (by decide) (ht0 _ wd757) (fun _ h9 => h9) rfl dX9_doorLine_175 ?_
        refine lv_if_ne (tgt := 195) hx hb dX9_doorLine_178 (by decide) (fun c178 => ?_) (fun c178 => ?_)
        · have hok := k_neg c178 hok
          exact J195 y3_89 y5_89 vM_letters_89 vM_89 H locs ls hP hD hS (lv_sub hl [0, 1, 2, 3] rfl) hok
        · have hok := k_pos c178 hok
          refine lv_iload hx hb dX9_doorLine_181 (lv_at hl 4 rfl) ?_
          refine lv_if_eq (tgt := 195) hx hb dX9_doorLine_183 (by decide) (fun c183 => ?_) (fun c183 => ?_)
          · have hok := k_pos c183 hok
            exact J195 y3_89 y5_89 vM_letters_89 vM_89 H locs ls hP hD hS (lv_sub hl [0, 1, 2, 3] rfl) hok
          · have hok := k_neg c183 hok
            refine lv_aload_n hx hb dX9_doorLine_186 rfl (lv_at hl 0 rfl) ?_
            refine lv_iconst (v := 3) hx hb dX9_doorLine_187 (by decide) ?_
            refine lv_aload_n hx hb dX9_doorLine_188 rfl (lv_at hl 0 rfl) ?_
            refine va_get (D := D) (ci := 8) (v := .int (vM_89 4)) (C := RX9) (T := TX9) (N := 29) hx hb ht0 niX9 hown hK hP 0 rfl rfl 4 (by decide) (ht0 _ wd756) (fun _ h9 => h9) rfl dX9_doorLine_189 ?_
            obtain ⟨vM_192, hc192, hok⟩ := k_bind hok
            refine kCv (wc := (wX9_wrong cy aM qM vM_89)) (wc2 := (wX9_wrong cy aM qM vM_192)) (wr := [(qM 16, rI cy 224 vM_fresh), (qM 12, rI cy 8 vM_letters_89), (qM 1, rI cy 900 vM_tape)]) (ws2 := (wX9_doorLine cy aM qM vM_192 vM_fresh vM_letters_89 vM_tape)) (kRunV (As := [.int 3, .int (vM_89 4)]) (rest := []) ⟨hx, hb, hml, hown, ht0⟩ (kX9_wrong l D cy _ aM qM vM_89 (3 : Int32) (vM_89 4) vM_192 hc192 _ rfl) (cwV 2 ht0 (gV wd774 wd775 wd776 wd744 wd777) rfl rfl rfl (by decide +kernel) ⟨Nat.le_of_ble_eq_true rfl, Nat.le_of_ble_eq_true rfl⟩) hK hN hP hD [0] rfl (by decide) 0 8 rfl rfl rfl hl.1 rfl (Nat.le_of_ble_eq_true rfl) dX9_doorLine_192 ⟨Nat.zero_le _, Nat.zero_le _⟩) hP hD hS hA [0] [1, 2, 3] rfl rfl (by decide) (by decide) [3, 0, 1, 2] (by decide) rfl rfl (fun H locs hP hD hS => ?_)
            exact J195 y3_89 y5_89 vM_letters_89 vM_192 H locs ls hP hD hS (lv_sub hl [0, 1, 2, 3] rfl) hok
      · have hok := k_neg c97 hok
        refine lv_aload_n hx hb dX9_doorLine_100 rfl (lv_at hl 0 rfl) ?_
        refine va_get (D := D) (ci := 8) (v := .ref (qM 16)) (C := RX9) (T := TX9) (N := 29) hx hb ht0 niX9 hown hK hP 0 rfl rfl 16 (by decide) (ht0 _ wd778) (fun _ h9 => h9) rfl dX9_doorLine_101 ?_
        refine lv_bipush (v := 52) hx hb dX9_doorLine_104 (by decide) ?_
        refine lv_iconst (v := 2) hx hb dX9_doorLine_106 (by decide) ?_
        refine lv_iload hx hb dX9_doorLine_107 (lv_at hl 5 rfl) ?_
        refine lv_imul hx hb dX9_doorLine_109 ?_
        refine lv_iadd hx hb dX9_doorLine_110 ?_
        obtain ⟨g111, hok⟩ := gd_some hok
        refine va_iald hx hb hK hP 1 0 rfl rfl (okI_in g111) dX9_doorLine_111 ?_
        refine lv_istore (lv' := [(8, .int (vM_fresh ((52 : Int32) + ((2 : Int32) * y7_89)).toNatClampNeg)), (0, .ref aM), (1, .int ((52 : Int32) + ((2 : Int32) * (vM_fresh (5 : Int32).toNatClampNeg)))), (3, .int y3_89), (5, .int y5_89), (6, .int y6_89), (7, .int y7_89)]) hx hb dX9_doorLine_112 hl (by decide) rfl (fun ls hl => ?_)
        refine lv_aload_n hx hb dX9_doorLine_114 rfl (lv_at hl 1 rfl) ?_
        refine va_get (D := D) (ci := 8) (v := .ref (qM 16)) (C := RX9) (T := TX9) (N := 29) hx hb ht0 niX9 hown hK hP 0 rfl rfl 16 (by decide) (ht0 _ wd778) (fun _ h9 => h9) rfl dX9_doorLine_115 ?_
        refine lv_bipush (v := 52) hx hb dX9_doorLine_118 (by decide) ?_
        refine lv_iconst (v := 2) hx hb dX9_doorLine_120 (by decide) ?_
        refine lv_iload hx hb dX9_doorLine_121 (lv_at hl 6 rfl) ?_
        refine lv_imul hx hb dX9_doorLine_123 ?_
        refine lv_iadd hx hb dX9_doorLine_124 ?_
        refine lv_iconst (v := 1) hx hb dX9_doorLine_125 (by decide) ?_
        refine lv_iadd hx hb dX9_doorLine_126 ?_
        obtain ⟨g127, hok⟩ := gd_some hok
        refine va_iald hx hb hK hP 1 0 rfl rfl (okI_in g127) dX9_doorLine_127 ?_
        refine lv_istore (lv' := [(9, .int (vM_fresh (((52 : Int32) + ((2 : Int32) * y7_89)) + (1 : Int32)).toNatClampNeg)), (8, .int (vM_fresh ((52 : Int32) + ((2 : Int32) * y7_89)).toNatClampNeg)), (0, .ref aM), (1, .int ((52 : Int32) + ((2 : Int32) * (vM_fresh (5 : Int32).toNatClampNeg)))), (3, .int y3_89), (5, .int y5_89), (6, .int y6_89), (7, .int y7_89)]) hx hb dX9_doorLine_128 hl (by decide) rfl (fun ls hl => ?_)
        refine lv_iload hx hb dX9_doorLine_130 (lv_at hl 6 rfl) ?_
        refine lv_if_ne (tgt := 161) hx hb dX9_doorLine_132 (by decide) (fun c132 => ?_) (fun c132 => ?_)
        · have hok := k_neg c132 hok
          exact J161  H locs ls hP hD hS (lv_sub hl [2, 3, 4, 5, 7] rfl) hok
        · have hok := k_pos c132 hok
          refine lv_iload hx hb dX9_doorLine_135 (lv_at hl 1 rfl) ?_
          refine lv_iload_n hx hb dX9_doorLine_137 rfl (lv_at hl 4 rfl) ?_
          refine lv_icmp_ne (tgt := 148) hx hb dX9_doorLine_138 (by decide) (fun c138 => ?_) (fun c138 => ?_)
          · have hok := k_neg c138 hok
            exact J148  H locs ls hP hD hS (lv_sub hl [2, 3, 4, 5, 7, 1, 0] rfl) hok
          · have hok := k_pos c138 hok
            refine lv_iload hx hb dX9_doorLine_141 (lv_at hl 0 rfl) ?_
            refine lv_iload hx hb dX9_doorLine_143 (lv_at hl 5 rfl) ?_
            refine lv_icmp_eq (tgt := 161) hx hb dX9_doorLine_145 (by decide) (fun c145 => ?_) (fun c145 => ?_)
            · have hok := k_pos c145 hok
              exact J161  H locs ls hP hD hS (lv_sub hl [2, 3, 4, 5, 7] rfl) hok
            · have hok := k_neg c145 hok
              exact J148  H locs ls hP hD hS (lv_sub hl [2, 3, 4, 5, 7, 1, 0] rfl) hok
  have J84 : ∀ (y3_84 : Int32) (y5_84 : Int32) (t0_84 : Int32) (vM_letters_84 : Nat → Int32) (vM_84 : Nat → Int32), ∀ (H : Heap) (locs : List Loc) (ls : Array Slot), va_P D vwCl (wX9_doorLine cy aM qM vM_84 vM_fresh vM_letters_84 vM_tape) H → va_D A (wX9_doorLine cy aM qM vM_84 vM_fresh vM_letters_84 vM_tape) → va_S A s.heap H locs → lv_has ls 10 [(0, .ref aM), (1, .int ((52 : Int32) + ((2 : Int32) * (vM_fresh (5 : Int32).toNatClampNeg)))), (3, .int y3_84), (5, .int y5_84)] → fX9_doorLine_J84 vM_fresh vM_tape y3_84 y5_84 t0_84 vM_letters_84 vM_84 = some (z_vM, z_vM_fresh, z_vM_letters) → W p l e ({ frames := 8, cells := 0, slots := 0, locals := 171 } : Room) s m ([.ref aM] : List Value).toArray below meth c H locs 0 0 Q (F0 m 84 ls [.int t0_84]) := by
    intro y3_84 y5_84 t0_84 vM_letters_84 vM_84 H locs ls hP hD hS hl hok
    unfold fX9_doorLine_J84 at hok
    refine lv_istore (lv' := [(6, .int t0_84), (0, .ref aM), (1, .int ((52 : Int32) + ((2 : Int32) * (vM_fresh (5 : Int32).toNatClampNeg)))), (3, .int y3_84), (5, .int y5_84)]) hx hb dX9_doorLine_84 hl (by decide) rfl (fun ls hl => ?_)
    refine lv_iconst (v := 0) hx hb dX9_doorLine_86 (by decide) ?_
    refine lv_istore (lv' := [(7, .int 0), (6, .int t0_84), (0, .ref aM), (1, .int ((52 : Int32) + ((2 : Int32) * (vM_fresh (5 : Int32).toNatClampNeg)))), (3, .int y3_84), (5, .int y5_84)]) hx hb dX9_doorLine_87 hl (by decide) rfl (fun ls hl => ?_)
    exact L89 5000 y3_84 y5_84 t0_84 (0 : Int32) vM_letters_84 vM_84 H locs ls hP hD hS (lv_sub hl [2, 3, 4, 5, 1, 0] rfl) hok
  unfold fX9_doorLine at hok
  obtain ⟨H, hH⟩ : ∃ H, H = s.heap := ⟨_, rfl⟩
  obtain ⟨locs, hlc⟩ : ∃ x : List Loc, x = [] := ⟨_, rfl⟩
  have hP : va_P D vwCl (wX9_doorLine cy aM qM vM vM_fresh vM_letters vM_tape) H := by rw [hH]; exact hP
  have hS : va_S A s.heap H locs := by rw [hH, hlc]; exact hS
  rw [show W p l e _ s m _ below meth c s.heap [] = W p l e _ s m _ below meth c H locs from by rw [hH, hlc]]
  refine lv_aload_n hx hb dX9_doorLine_0 rfl (lv_at hl 0 rfl) ?_
  refine va_get (D := D) (ci := 8) (v := .int (vM 13)) (C := RX9) (T := TX9) (N := 29) hx hb ht0 niX9 hown hK hP 0 rfl rfl 13 (by decide) (ht0 _ wd757) (fun _ h9 => h9) rfl dX9_doorLine_1 ?_
  refine lv_if_eq (tgt := 8) hx hb dX9_doorLine_4 (by decide) (fun c4 => ?_) (fun c4 => ?_)
  · have hok := k_pos c4 hok
    refine lv_bipush (v := 52) hx hb dX9_doorLine_8 (by decide) ?_
    refine lv_iconst (v := 2) hx hb dX9_doorLine_10 (by decide) ?_
    refine lv_aload_n hx hb dX9_doorLine_11 rfl (lv_at hl 0 rfl) ?_
    refine va_get (D := D) (ci := 8) (v := .ref (qM 16)) (C := RX9) (T := TX9) (N := 29) hx hb ht0 niX9 hown hK hP 0 rfl rfl 16 (by decide) (ht0 _ wd778) (fun _ h9 => h9) rfl dX9_doorLine_12 ?_
    refine lv_iconst (v := 5) hx hb dX9_doorLine_15 (by decide) ?_
    obtain ⟨g16, hok⟩ := gd_some hok
    refine va_iald hx hb hK hP 1 0 rfl rfl (okI_in g16) dX9_doorLine_16 ?_
    refine lv_imul hx hb dX9_doorLine_17 ?_
    refine lv_iadd hx hb dX9_doorLine_18 ?_
    refine lv_istore_n (lv' := [(1, .int ((52 : Int32) + ((2 : Int32) * (vM_fresh (5 : Int32).toNatClampNeg)))), (0, .ref aM)]) hx hb dX9_doorLine_19 rfl hl (by decide) rfl (fun ls hl => ?_)
    refine lv_aload_n hx hb dX9_doorLine_20 rfl (lv_at hl 1 rfl) ?_
    obtain ⟨⟨r21, vM_21, vM_letters_21⟩, hc21, hok⟩ := k_bind hok
    try dsimp only at hok
    refine kCi (wc := (wX9_ringName cy aM qM vM vM_letters vM_fresh vM_tape)) (wc2 := (wX9_ringName cy aM qM vM_21 vM_letters_21 vM_fresh vM_tape)) (wr := []) (ws2 := (wX9_doorLine cy aM qM vM_21 vM_fresh vM_letters_21 vM_tape)) (kRunVS (As := []) (rest := []) ⟨hx, hb, hml, hown, ht0⟩ (kX9_ringName l D cy ad _ aM qM vM vM_letters vM_fresh vM_tape r21 vM_21 vM_letters_21 hc21 _ rfl) (cwV 0 ht0 (gV wd814 wd815 wd816 wd744 wd817) rfl rfl rfl (by decide +kernel) ⟨Nat.le_of_ble_eq_true rfl, Nat.le_of_ble_eq_true rfl⟩) hK hN hP hD hSt hS hA [0, 2, 1, 3] rfl (by decide) 0 8 rfl rfl rfl hl.1 rfl (Nat.le_of_ble_eq_true rfl) dX9_doorLine_21 ⟨Nat.zero_le _, Nat.zero_le _⟩) hP hD hS hA [0, 2, 1, 3] [] rfl rfl (by decide) (by decide) [0, 2, 1, 3] (by decide) rfl rfl (fun H locs hP hD hS => ?_)
    refine lv_istore_n (lv' := [(2, .int r21), (1, .int ((52 : Int32) + ((2 : Int32) * (vM_fresh (5 : Int32).toNatClampNeg)))), (0, .ref aM)]) hx hb dX9_doorLine_24 rfl hl (by decide) rfl (fun ls hl => ?_)
    refine lv_aload_n hx hb dX9_doorLine_25 rfl (lv_at hl 2 rfl) ?_
    refine va_get (D := D) (ci := 8) (v := .int (vM_21 13)) (C := RX9) (T := TX9) (N := 29) hx hb ht0 niX9 hown hK hP 0 rfl rfl 13 (by decide) (ht0 _ wd757) (fun _ h9 => h9) rfl dX9_doorLine_26 ?_
    refine lv_if_eq (tgt := 33) hx hb dX9_doorLine_29 (by decide) (fun c29 => ?_) (fun c29 => ?_)
    · have hok := k_pos c29 hok
      refine lv_aload_n hx hb dX9_doorLine_33 rfl (lv_at hl 2 rfl) ?_
      refine lv_iload_n hx hb dX9_doorLine_34 rfl (lv_at hl 0 rfl) ?_
      obtain ⟨⟨r35, vM_35⟩, hc35, hok⟩ := k_bind hok
      try dsimp only at hok
      refine kCi (wc := (wX9_placeHere cy aM qM vM_21 vM_fresh)) (wc2 := (wX9_placeHere cy aM qM vM_35 vM_fresh)) (wr := [(qM 12, rI cy 8 vM_letters_21), (qM 1, rI cy 900 vM_tape)]) (ws2 := (wX9_doorLine cy aM qM vM_35 vM_fresh vM_letters_21 vM_tape)) (kRunV (As := [.int r21]) (rest := []) ⟨hx, hb, hml, hown, ht0⟩ (kX9_placeHere l D cy _ aM qM vM_21 vM_fresh r21 r35 vM_35 hc35 _ rfl) (cwV 1 ht0 (gV wd818 wd819 wd820 wd744 wd821) rfl rfl rfl (by decide +kernel) ⟨Nat.le_of_ble_eq_true rfl, Nat.le_of_ble_eq_true rfl⟩) hK hN hP hD [0, 1] rfl (by decide) 0 8 rfl rfl rfl hl.1 rfl (Nat.le_of_ble_eq_true rfl) dX9_doorLine_35 ⟨Nat.zero_le _, Nat.zero_le _⟩) hP hD hS hA [0, 1] [2, 3] rfl rfl (by decide) (by decide) [2, 3, 0, 1] (by decide) rfl rfl (fun H locs hP hD hS => ?_)
      refine lv_istore_n (lv' := [(3, .int r35), (2, .int r21), (1, .int ((52 : Int32) + ((2 : Int32) * (vM_fresh (5 : Int32).toNatClampNeg)))), (0, .ref aM)]) hx hb dX9_doorLine_38 rfl hl (by decide) rfl (fun ls hl => ?_)
      refine lv_aload_n hx hb dX9_doorLine_39 rfl (lv_at hl 3 rfl) ?_
      refine va_get (D := D) (ci := 8) (v := .int (vM_35 13)) (C := RX9) (T := TX9) (N := 29) hx hb ht0 niX9 hown hK hP 0 rfl rfl 13 (by decide) (ht0 _ wd757) (fun _ h9 => h9) rfl dX9_doorLine_40 ?_
      refine lv_if_eq (tgt := 47) hx hb dX9_doorLine_43 (by decide) (fun c43 => ?_) (fun c43 => ?_)
      · have hok := k_pos c43 hok
        refine lv_aload_n hx hb dX9_doorLine_47 rfl (lv_at hl 3 rfl) ?_
        obtain ⟨⟨vM_48, vM_letters_48⟩, hc48, hok⟩ := k_bind hok
        try dsimp only at hok
        refine kCv (wc := (wX9_next cy aM qM vM_35 vM_tape vM_letters_21)) (wc2 := (wX9_next cy aM qM vM_48 vM_tape vM_letters_48)) (wr := [(qM 16, rI cy 224 vM_fresh)]) (ws2 := (wX9_doorLine cy aM qM vM_48 vM_fresh vM_letters_48 vM_tape)) (kRunV (As := []) (rest := []) ⟨hx, hb, hml, hown, ht0⟩ (kX9_next l D cy _ aM qM vM_35 vM_tape vM_letters_21 vM_48 vM_letters_48 hc48 _ rfl) (cwV 0 ht0 (gV wd766 wd767 wd768 wd744 wd769) rfl rfl rfl (by decide +kernel) ⟨Nat.le_of_ble_eq_true rfl, Nat.le_of_ble_eq_true rfl⟩) hK hN hP hD [0, 3, 2] rfl (by decide) 0 8 rfl rfl rfl hl.1 rfl (Nat.le_of_ble_eq_true rfl) dX9_doorLine_48 ⟨Nat.zero_le _, Nat.zero_le _⟩) hP hD hS hA [0, 3, 2] [1] rfl rfl (by decide) (by decide) [1, 0, 3, 2] (by decide) rfl rfl (fun H locs hP hD hS => ?_)
        refine lv_aload_n hx hb dX9_doorLine_51 rfl (lv_at hl 3 rfl) ?_
        obtain ⟨⟨r52, vM_52, vM_letters_52⟩, hc52, hok⟩ := k_bind hok
        try dsimp only at hok
        refine kCi (wc := (wX9_ringName cy aM qM vM_48 vM_letters_48 vM_fresh vM_tape)) (wc2 := (wX9_ringName cy aM qM vM_52 vM_letters_52 vM_fresh vM_tape)) (wr := []) (ws2 := (wX9_doorLine cy aM qM vM_52 vM_fresh vM_letters_52 vM_tape)) (kRunVS (As := []) (rest := []) ⟨hx, hb, hml, hown, ht0⟩ (kX9_ringName l D cy ad _ aM qM vM_48 vM_letters_48 vM_fresh vM_tape r52 vM_52 vM_letters_52 hc52 _ rfl) (cwV 0 ht0 (gV wd814 wd815 wd816 wd744 wd817) rfl rfl rfl (by decide +kernel) ⟨Nat.le_of_ble_eq_true rfl, Nat.le_of_ble_eq_true rfl⟩) hK hN hP hD hSt hS hA [0, 2, 1, 3] rfl (by decide) 0 8 rfl rfl rfl hl.1 rfl (Nat.le_of_ble_eq_true rfl) dX9_doorLine_52 ⟨Nat.zero_le _, Nat.zero_le _⟩) hP hD hS hA [0, 2, 1, 3] [] rfl rfl (by decide) (by decide) [0, 2, 1, 3] (by decide) rfl rfl (fun H locs hP hD hS => ?_)
        refine lv_istore (lv' := [(4, .int r52), (3, .int r35), (2, .int r21), (1, .int ((52 : Int32) + ((2 : Int32) * (vM_fresh (5 : Int32).toNatClampNeg)))), (0, .ref aM)]) hx hb dX9_doorLine_55 hl (by decide) rfl (fun ls hl => ?_)
        refine lv_aload_n hx hb dX9_doorLine_57 rfl (lv_at hl 4 rfl) ?_
        refine va_get (D := D) (ci := 8) (v := .int (vM_52 13)) (C := RX9) (T := TX9) (N := 29) hx hb ht0 niX9 hown hK hP 0 rfl rfl 13 (by decide) (ht0 _ wd757) (fun _ h9 => h9) rfl dX9_doorLine_58 ?_
        refine lv_if_eq (tgt := 65) hx hb dX9_doorLine_61 (by decide) (fun c61 => ?_) (fun c61 => ?_)
        · have hok := k_pos c61 hok
          refine lv_aload_n hx hb dX9_doorLine_65 rfl (lv_at hl 4 rfl) ?_
          refine lv_iload hx hb dX9_doorLine_66 (lv_at hl 0 rfl) ?_
          obtain ⟨⟨r68, vM_68⟩, hc68, hok⟩ := k_bind hok
          try dsimp only at hok
          refine kCi (wc := (wX9_placeHere cy aM qM vM_52 vM_fresh)) (wc2 := (wX9_placeHere cy aM qM vM_68 vM_fresh)) (wr := [(qM 12, rI cy 8 vM_letters_52), (qM 1, rI cy 900 vM_tape)]) (ws2 := (wX9_doorLine cy aM qM vM_68 vM_fresh vM_letters_52 vM_tape)) (kRunV (As := [.int r52]) (rest := []) ⟨hx, hb, hml, hown, ht0⟩ (kX9_placeHere l D cy _ aM qM vM_52 vM_fresh r52 r68 vM_68 hc68 _ rfl) (cwV 1 ht0 (gV wd818 wd819 wd820 wd744 wd821) rfl rfl rfl (by decide +kernel) ⟨Nat.le_of_ble_eq_true rfl, Nat.le_of_ble_eq_true rfl⟩) hK hN hP hD [0, 1] rfl (by decide) 0 8 rfl rfl rfl hl.1 rfl (Nat.le_of_ble_eq_true rfl) dX9_doorLine_68 ⟨Nat.zero_le _, Nat.zero_le _⟩) hP hD hS hA [0, 1] [2, 3] rfl rfl (by decide) (by decide) [2, 3, 0, 1] (by decide) rfl rfl (fun H locs hP hD hS => ?_)
          refine lv_istore (lv' := [(5, .int r68), (4, .int r52), (3, .int r35), (2, .int r21), (1, .int ((52 : Int32) + ((2 : Int32) * (vM_fresh (5 : Int32).toNatClampNeg)))), (0, .ref aM)]) hx hb dX9_doorLine_71 hl (by decide) rfl (fun ls hl => ?_)
          refine lv_iload_n hx hb dX9_doorLine_73 rfl (lv_at hl 2 rfl) ?_
          refine lv_iload hx hb dX9_doorLine_74 (lv_at hl 0 rfl) ?_
          refine lv_icmp_ne (tgt := 83) hx hb dX9_doorLine_76 (by decide) (fun c76 => ?_) (fun c76 => ?_)
          · have hok := k_neg c76 hok
            refine lv_iconst (v := 0) hx hb dX9_doorLine_83 (by decide) ?_
            exact J84 r35 r68 (0 : Int32) vM_letters_52 vM_68 H locs ls hP hD hS (lv_sub hl [5, 4, 2, 0] rfl) hok
          · have hok := k_pos c76 hok
            refine lv_iconst (v := 1) hx hb dX9_doorLine_79 (by decide) ?_
            refine lv_goto (tgt := 84) hx hb dX9_doorLine_80 (by decide) ?_
            exact J84 r35 r68 (1 : Int32) vM_letters_52 vM_68 H locs ls hP hD hS (lv_sub hl [5, 4, 2, 0] rfl) hok
        · have hok := k_neg c61 hok
          cases hok
          subst hQe; exact W.vret hx hb hr (fun t ht hW => ⟨⟨(), rfl, trivial, by rw [ht]; exact hP, va_K.moved hW.alike hK, hD⟩, hS.F ht⟩) hS.2.2 dX9_doorLine_64
      · have hok := k_neg c43 hok
        cases hok
        subst hQe; exact W.vret hx hb hr (fun t ht hW => ⟨⟨(), rfl, trivial, by rw [ht]; exact hP, va_K.moved hW.alike hK, hD⟩, hS.F ht⟩) hS.2.2 dX9_doorLine_46
    · have hok := k_neg c29 hok
      cases hok
      subst hQe; exact W.vret hx hb hr (fun t ht hW => ⟨⟨(), rfl, trivial, by rw [ht]; exact hP, va_K.moved hW.alike hK, hD⟩, hS.F ht⟩) hS.2.2 dX9_doorLine_32
  · have hok := k_neg c4 hok
    cases hok
    subst hQe; exact W.vret hx hb hr (fun t ht hW => ⟨⟨(), rfl, trivial, by rw [ht]; exact hP, va_K.moved hW.alike hK, hD⟩, hS.F ht⟩) hS.2.2 dX9_doorLine_7
def wsX9_thingLine : List Cond := .code yX9_thingLine cX9_thingLine 6 none :: W0
abbrev wX9_thingLine (cy : Nat → ClassId) (aM : Nat) (qM : Nat → Nat) (vM : Nat → Int32) (vM_fresh : Nat → Int32) (vM_letters : Nat → Int32) (vM_tape : Nat → Int32) : va_W := [(aM, oX9 vM qM), (qM 16, rI cy 224 vM_fresh), (qM 12, rI cy 8 vM_letters), (qM 1, rI cy 900 vM_tape)]
set_option maxHeartbeats 4000000 in
set_option maxRecDepth 100000 in
theorem kX9_thingLine (l : Launch) (D : va_G) (cy : Nat → ClassId) (ad : (Nat → Nat) × (Nat → Nat)) (sz : Nat) (aM : Nat) (qM : Nat → Nat) (vM : Nat → Int32) (vM_fresh : Nat → Int32) (vM_letters : Nat → Int32) (vM_tape : Nat → Int32) (z_vM : Nat → Int32) (z_vM_fresh : Nat → Int32) (z_vM_letters : Nat → Int32) (hok : fX9_thingLine vM vM_fresh vM_letters vM_tape = some (z_vM, z_vM_fresh, z_vM_letters)) (A : Nat → Prop) (hAe : va_A (wX9_thingLine cy aM qM vM vM_fresh vM_letters vM_tape) sz = A) : Met l yX9_thingLine wsX9_thingLine ({ frames := 8, cells := 0, slots := 0, locals := 173 } : Room) (kPreS D cy ad [.ref aM] (wX9_thingLine cy aM qM vM vM_fresh vM_letters vM_tape) sz A) (kQv D cy A (wX9_thingLine cy aM qM z_vM z_vM_fresh z_vM_letters vM_tape)) 0 0 A := by
  refine Met.ofW (cc := cX9_thingLine) (maxL := 6) (ret := none) (by decide) rfl ?_
  intro p e s m args below meth c s₁ B hml hv
  obtain ⟨rfl, ⟨hsz, hP, hK, hD0, hN⟩, hSt⟩ := hv
  have hx := B.exec
  have hb := B.bytes
  have hr := B.returns
  have ht0 : ∀ w ∈ W0, w.before _ s = true := fun w h => atoms_spec (ws := wsX9_thingLine) B.pre w (List.mem_cons_of_mem _ h)
  have hown : s.vm.findClass RX9 = some m.cls := findClass_of_methodNamed B.named
  have hlocks := B.notSynchronized
  subst hsz
  have hD : va_D A (wX9_thingLine cy aM qM vM vM_fresh vM_letters vM_tape) := by rw [← hAe]; exact hD0.self
  have hA : ∀ q : Nat, s.heap.size ≤ q → A q := fun q h => by rw [← hAe]; exact Or.inr h
  have hS : va_S A s.heap s.heap [] := va_S.rf
  have hl := lv_entry ([.ref aM]) (n := 6) (Nat.le_of_ble_eq_true rfl)
  rw [lg_entry_eq]
  generalize (lg_sl ([.ref aM]) ++ List.replicate (6 - (lg_sl ([.ref aM])).length) Slot.unset).toArray = ls at hl ⊢
  have hl : lv_has ls 6 [(0, .ref aM)] := hl
  generalize hQe : MQ below (kQv D cy A (wX9_thingLine cy aM qM z_vM z_vM_fresh z_vM_letters vM_tape)) ([.ref aM] : List Value).toArray s 0 0 A = Q
  have J261 : ∀ (vM_fresh_261 : Nat → Int32) (vM_letters_261 : Nat → Int32) (vM_261 : Nat → Int32), ∀ (H : Heap) (locs : List Loc) (ls : Array Slot), va_P D vwCl (wX9_thingLine cy aM qM vM_261 vM_fresh_261 vM_letters_261 vM_tape) H → va_D A (wX9_thingLine cy aM qM vM_261 vM_fresh_261 vM_letters_261 vM_tape) → va_S A s.heap H locs → lv_has ls 6 [] → fX9_thingLine_J261 vM_fresh_261 vM_letters_261 vM_261 = some (z_vM, z_vM_fresh, z_vM_letters) → W p l e ({ frames := 8, cells := 0, slots := 0, locals := 173 } : Room) s m ([.ref aM] : List Value).toArray below meth c H locs 0 0 Q (F0 m 261 ls []) := by
    intro vM_fresh_261 vM_letters_261 vM_261 H locs ls hP hD hS hl hok
    unfold fX9_thingLine_J261 at hok
    cases hok
    subst hQe; exact W.vret hx hb hr (fun t ht hW => ⟨⟨(), rfl, trivial, by rw [ht]; exact hP, va_K.moved hW.alike hK, hD⟩, hS.F ht⟩) hS.2.2 dX9_thingLine_261
  have L146 : ∀ (fuel : Nat) (y2_146 : Int32) (y4_146 : Int32) (y5_146 : Int32) (vM_fresh_146 : Nat → Int32) (vM_letters_146 : Nat → Int32) (vM_146 : Nat → Int32), ∀ (H : Heap) (locs : List Loc) (ls : Array Slot), va_P D vwCl (wX9_thingLine cy aM qM vM_146 vM_fresh_146 vM_letters_146 vM_tape) H → va_D A (wX9_thingLine cy aM qM vM_146 vM_fresh_146 vM_letters_146 vM_tape) → va_S A s.heap H locs → lv_has ls 6 [(0, .ref aM), (1, .int ((62 : Int32) + ((3 : Int32) * (vM_fresh (3 : Int32).toNatClampNeg)))), (2, .int y2_146), (4, .int y4_146), (5, .int y5_146)] → lp (fX9_thingLine_B146 vM_fresh vM_tape) fuel (y2_146, y4_146, y5_146, vM_fresh_146, vM_letters_146, vM_146) = some (z_vM, z_vM_fresh, z_vM_letters) → W p l e ({ frames := 8, cells := 0, slots := 0, locals := 173 } : Room) s m ([.ref aM] : List Value).toArray below meth c H locs 0 0 Q (F0 m 146 ls []) := by
    intro fuel
    induction fuel with
    | zero => intro y2_146 y4_146 y5_146 vM_fresh_146 vM_letters_146 vM_146 H locs ls hP hD hS hl hok; exact (lp_0 hok).elim
    | succ fuel ih146 =>
      intro y2_146 y4_146 y5_146 vM_fresh_146 vM_letters_146 vM_146 H locs ls hP hD hS hl hok
      obtain ⟨y146, hok, hL146, hR146⟩ := lp_step hok
      have J192 : ∀ (vM_192 : Nat → Int32), ∀ (H : Heap) (locs : List Loc) (ls : Array Slot), va_P D vwCl (wX9_thingLine cy aM qM vM_192 vM_fresh_146 vM_letters_146 vM_tape) H → va_D A (wX9_thingLine cy aM qM vM_192 vM_fresh_146 vM_letters_146 vM_tape) → va_S A s.heap H locs → lv_has ls 6 [(0, .ref aM), (1, .int ((62 : Int32) + ((3 : Int32) * (vM_fresh (3 : Int32).toNatClampNeg)))), (2, .int y2_146), (4, .int y4_146), (5, .int y5_146)] → fX9_thingLine_J192 y2_146 y4_146 y5_146 vM_fresh_146 vM_letters_146 vM_192 = some y146 → W p l e ({ frames := 8, cells := 0, slots := 0, locals := 173 } : Room) s m ([.ref aM] : List Value).toArray below meth c H locs 0 0 Q (F0 m 192 ls []) := by
        intro vM_192 H locs ls hP hD hS hl hok
        unfold fX9_thingLine_J192 at hok
        refine lv_iinc (v := (y5_146 + 1)) (lv' := [(5, .int (y5_146 + 1)), (0, .ref aM), (1, .int ((62 : Int32) + ((3 : Int32) * (vM_fresh (3 : Int32).toNatClampNeg)))), (2, .int y2_146), (4, .int y4_146)]) hx hb dX9_thingLine_192 hl (k := 4) rfl (by first | rfl | decide) (by decide) rfl (fun ls hl => ?_)
        refine lv_goto (tgt := 146) hx hb dX9_thingLine_195 (by decide) ?_
        exact ih146 y2_146 y4_146 (y5_146 + 1) vM_fresh_146 vM_letters_146 vM_192 H locs ls hP hD hS (lv_sub hl [1, 2, 3, 4, 0] rfl) (hR146 _ (Option.some.inj hok).symm)
      unfold fX9_thingLine_B146 at hok
      try dsimp only at hok
      refine lv_iload hx hb dX9_thingLine_146 (lv_at hl 4 rfl) ?_
      refine lv_aload_n hx hb dX9_thingLine_148 rfl (lv_at hl 0 rfl) ?_
      refine va_get (D := D) (ci := 8) (v := .ref (qM 16)) (C := RX9) (T := TX9) (N := 29) hx hb ht0 niX9 hown hK hP 0 rfl rfl 16 (by decide) (ht0 _ wd778) (fun _ h9 => h9) rfl dX9_thingLine_149 ?_
      refine lv_iconst (v := 3) hx hb dX9_thingLine_152 (by decide) ?_
      obtain ⟨g153, hok⟩ := gd_some hok
      refine va_iald hx hb hK hP 1 0 rfl rfl (okI_in g153) dX9_thingLine_153 ?_
      refine lv_icmp_ge (tgt := 198) hx hb dX9_thingLine_154 (by decide) (fun c154 => ?_) (fun c154 => ?_)
      · have hok := k_pos c154 hok
        obtain ⟨e146, hok, he146⟩ := ex_some hok
        have hok := hok.trans (congrArg some (hL146 _ he146))
        refine lv_aload_n hx hb dX9_thingLine_198 rfl (lv_at hl 0 rfl) ?_
        refine va_get (D := D) (ci := 8) (v := .int (vM_146 13)) (C := RX9) (T := TX9) (N := 29) hx hb ht0 niX9 hown hK hP 0 rfl rfl 13 (by decide) (ht0 _ wd757) (fun _ h9 => h9) rfl dX9_thingLine_199 ?_
        refine lv_if_eq (tgt := 206) hx hb dX9_thingLine_202 (by decide) (fun c202 => ?_) (fun c202 => ?_)
        · have hok := k_pos c202 hok
          refine lv_aload_n hx hb dX9_thingLine_206 rfl (lv_at hl 0 rfl) ?_
          obtain ⟨⟨vM_207, vM_letters_207⟩, hc207, hok⟩ := k_bind hok
          try dsimp only at hok
          refine kCv (wc := (wX9_next cy aM qM vM_146 vM_tape vM_letters_146)) (wc2 := (wX9_next cy aM qM vM_207 vM_tape vM_letters_207)) (wr := [(qM 16, rI cy 224 vM_fresh_146)]) (ws2 := (wX9_thingLine cy aM qM vM_207 vM_fresh_146 vM_letters_207 vM_tape)) (kRunV (As := []) (rest := []) ⟨hx, hb, hml, hown, ht0⟩ (kX9_next l D cy _ aM qM vM_146 vM_tape vM_letters_146 vM_207 vM_letters_207 hc207 _ rfl) (cwV 0 ht0 (gV wd766 wd767 wd768 wd744 wd769) rfl rfl rfl (by decide +kernel) ⟨Nat.le_of_ble_eq_true rfl, Nat.le_of_ble_eq_true rfl⟩) hK hN hP hD [0, 3, 2] rfl (by decide) 0 8 rfl rfl rfl hl.1 rfl (Nat.le_of_ble_eq_true rfl) dX9_thingLine_207 ⟨Nat.zero_le _, Nat.zero_le _⟩) hP hD hS hA [0, 3, 2] [1] rfl rfl (by decide) (by decide) [1, 0, 3, 2] (by decide) rfl rfl (fun H locs hP hD hS => ?_)
          refine lv_aload_n hx hb dX9_thingLine_210 rfl (lv_at hl 0 rfl) ?_
          refine va_get (D := D) (ci := 8) (v := .ref (qM 16)) (C := RX9) (T := TX9) (N := 29) hx hb ht0 niX9 hown hK hP 0 rfl rfl 16 (by decide) (ht0 _ wd778) (fun _ h9 => h9) rfl dX9_thingLine_211 ?_
          refine lv_iload_n hx hb dX9_thingLine_214 rfl (lv_at hl 1 rfl) ?_
          refine lv_iload_n hx hb dX9_thingLine_215 rfl (lv_at hl 2 rfl) ?_
          obtain ⟨g216, hok⟩ := gd_some hok
          refine va_iast hx hb hK hP hD hS 1 0 rfl rfl (okI_in g216) dX9_thingLine_216 (fun H locs hP hD hS => ?_)
          have hP : va_P D vwCl (wX9_thingLine cy aM qM vM_207 (upd vM_fresh_146 ((62 : Int32) + ((3 : Int32) * (vM_fresh (3 : Int32).toNatClampNeg))).toNatClampNeg y2_146) vM_letters_207 vM_tape) H := hP
          have hD : va_D A (wX9_thingLine cy aM qM vM_207 (upd vM_fresh_146 ((62 : Int32) + ((3 : Int32) * (vM_fresh (3 : Int32).toNatClampNeg))).toNatClampNeg y2_146) vM_letters_207 vM_tape) := hD
          refine lv_aload_n hx hb dX9_thingLine_217 rfl (lv_at hl 0 rfl) ?_
          refine va_get (D := D) (ci := 8) (v := .ref (qM 16)) (C := RX9) (T := TX9) (N := 29) hx hb ht0 niX9 hown hK hP 0 rfl rfl 16 (by decide) (ht0 _ wd778) (fun _ h9 => h9) rfl dX9_thingLine_218 ?_
          refine lv_iload_n hx hb dX9_thingLine_221 rfl (lv_at hl 1 rfl) ?_
          refine lv_iconst (v := 1) hx hb dX9_thingLine_222 (by decide) ?_
          refine lv_iadd hx hb dX9_thingLine_223 ?_
          refine lv_iload hx hb dX9_thingLine_224 (lv_at hl 3 rfl) ?_
          obtain ⟨g226, hok⟩ := gd_some hok
          refine va_iast hx hb hK hP hD hS 1 0 rfl rfl (okI_in g226) dX9_thingLine_226 (fun H locs hP hD hS => ?_)
          have hP : va_P D vwCl (wX9_thingLine cy aM qM vM_207 (upd (upd vM_fresh_146 ((62 : Int32) + ((3 : Int32) * (vM_fresh (3 : Int32).toNatClampNeg))).toNatClampNeg y2_146) (((62 : Int32) + ((3 : Int32) * (vM_fresh (3 : Int32).toNatClampNeg))) + (1 : Int32)).toNatClampNeg y4_146) vM_letters_207 vM_tape) H := hP
          have hD : va_D A (wX9_thingLine cy aM qM vM_207 (upd (upd vM_fresh_146 ((62 : Int32) + ((3 : Int32) * (vM_fresh (3 : Int32).toNatClampNeg))).toNatClampNeg y2_146) (((62 : Int32) + ((3 : Int32) * (vM_fresh (3 : Int32).toNatClampNeg))) + (1 : Int32)).toNatClampNeg y4_146) vM_letters_207 vM_tape) := hD
          refine lv_aload_n hx hb dX9_thingLine_227 rfl (lv_at hl 0 rfl) ?_
          refine va_get (D := D) (ci := 8) (v := .ref (qM 16)) (C := RX9) (T := TX9) (N := 29) hx hb ht0 niX9 hown hK hP 0 rfl rfl 16 (by decide) (ht0 _ wd778) (fun _ h9 => h9) rfl dX9_thingLine_228 ?_
          refine lv_iload_n hx hb dX9_thingLine_231 rfl (lv_at hl 1 rfl) ?_
          refine lv_iconst (v := 2) hx hb dX9_thingLine_232 (by decide) ?_
          refine lv_iadd hx hb dX9_thingLine_233 ?_
          refine lv_aload_n hx hb dX9_thingLine_234 rfl (lv_at hl 0 rfl) ?_
          refine va_ldcS hx hb hown (hSt.2.1 _ (List.mem_of_getElem? (i := 41) rfl)) dX9_thingLine_235 ?_
          refine lv_iconst (v := 1) hx hb dX9_thingLine_237 (by decide) ?_
          refine lv_bipush (v := 9) hx hb dX9_thingLine_238 (by decide) ?_
          obtain ⟨⟨r240, vM_240, vM_letters_240⟩, hc240, hok⟩ := k_bind hok
          try dsimp only at hok
          refine kCi (wc := (wX9_after cy aM qM vM_207 vM_letters_207 vM_tape)) (wc2 := (wX9_after cy aM qM vM_240 vM_letters_240 vM_tape)) (wr := [(qM 16, rI cy 224 (upd (upd vM_fresh_146 ((62 : Int32) + ((3 : Int32) * (vM_fresh (3 : Int32).toNatClampNeg))).toNatClampNeg y2_146) (((62 : Int32) + ((3 : Int32) * (vM_fresh (3 : Int32).toNatClampNeg))) + (1 : Int32)).toNatClampNeg y4_146))]) (ws2 := (wX9_thingLine cy aM qM vM_240 (upd (upd vM_fresh_146 ((62 : Int32) + ((3 : Int32) * (vM_fresh (3 : Int32).toNatClampNeg))).toNatClampNeg y2_146) (((62 : Int32) + ((3 : Int32) * (vM_fresh (3 : Int32).toNatClampNeg))) + (1 : Int32)).toNatClampNeg y4_146) vM_letters_240 vM_tape)) (kRunVS (As := [.ref (ad.1 19), .int 1, .int 9]) (rest := [.int (((62 : Int32) + ((3 : Int32) * (vM_fresh (3 : Int32).toNatClampNeg))) + (2 : Int32)), .ref (qM 16)]) ⟨hx, hb, hml, hown, ht0⟩ (kX9_after l D cy ad _ aM qM vM_207 vM_letters_207 vM_tape 19 (1 : Int32) (9 : Int32) r240 vM_240 vM_letters_240 hc240 _ rfl) (cwV 3 ht0 (gV wd806 wd807 wd808 wd744 wd809) rfl rfl rfl (by decide +kernel) ⟨Nat.le_of_ble_eq_true rfl, Nat.le_of_ble_eq_true rfl⟩) hK hN hP hD hSt hS hA [0, 2, 3] rfl (by decide) 0 8 rfl rfl rfl hl.1 rfl (Nat.le_of_ble_eq_true rfl) dX9_thingLine_240 ⟨Nat.zero_le _, Nat.zero_le _⟩) hP hD hS hA [0, 2, 3] [1] rfl rfl (by decide) (by decide) [1, 0, 2, 3] (by decide) rfl rfl (fun H locs hP hD hS => ?_)
          obtain ⟨g243, hok⟩ := gd_some hok
          refine va_iast hx hb hK hP hD hS 1 0 rfl rfl (okI_in g243) dX9_thingLine_243 (fun H locs hP hD hS => ?_)
          have hP : va_P D vwCl (wX9_thingLine cy aM qM vM_240 (upd (upd (upd vM_fresh_146 ((62 : Int32) + ((3 : Int32) * (vM_fresh (3 : Int32).toNatClampNeg))).toNatClampNeg y2_146) (((62 : Int32) + ((3 : Int32) * (vM_fresh (3 : Int32).toNatClampNeg))) + (1 : Int32)).toNatClampNeg y4_146) (((62 : Int32) + ((3 : Int32) * (vM_fresh (3 : Int32).toNatClampNeg))) + (2 : Int32)).toNatClampNeg r240) vM_letters_240 vM_tape) H := hP
          have hD : va_D A (wX9_thingLine cy aM qM vM_240 (upd (upd (upd vM_fresh_146 ((62 : Int32) + ((3 : Int32) * (vM_fresh (3 : Int32).toNatClampNeg))).toNatClampNeg y2_146) (((62 : Int32) + ((3 : Int32) * (vM_fresh (3 : Int32).toNatClampNeg))) + (1 : Int32)).toNatClampNeg y4_146) (((62 : Int32) + ((3 : Int32) * (vM_fresh (3 : Int32).toNatClampNeg))) + (2 : Int32)).toNatClampNeg r240) vM_letters_240 vM_tape) := hD
          refine lv_aload_n hx hb dX9_thingLine_244 rfl (lv_at hl 0 rfl) ?_
          refine va_get (D := D) (ci := 8) (v := .int (vM_240 13)) (C := RX9) (T := TX9) (N := 29) hx hb ht0 niX9 hown hK hP 0 rfl rfl 13 (by decide) (ht0 _ wd757) (fun _ h9 => h9) rfl dX9_thingLine_245 ?_
          refine lv_if_ne (tgt := 261) hx hb dX9_thingLine_248 (by decide) (fun c248 => ?_) (fun c248 => ?_)
          · have hok := k_neg c248 hok
            exact J261 (upd (upd (upd vM_fresh_146 ((62 : Int32) + ((3 : Int32) * (vM_fresh (3 : Int32).toNatClampNeg))).toNatClampNeg y2_146) (((62 : Int32) + ((3 : Int32) * (vM_fresh (3 : Int32).toNatClampNeg))) + (1 : Int32)).toNatClampNeg y4_146) (((62 : Int32) + ((3 : Int32) * (vM_fresh (3 : Int32).toNatClampNeg))) + (2 : Int32)).toNatClampNeg r240) vM_letters_240 vM_240 H locs ls hP hD hS (lv_sub hl [] rfl) hok
          · have hok := k_pos c248 hok
            refine lv_aload_n hx hb dX9_thingLine_251 rfl (lv_at hl 0 rfl) ?_
            refine va_get (D := D) (ci := 8) (v := .ref (qM 16)) (C := RX9) (T := TX9) (N := 29) hx hb ht0 niX9 hown hK hP 0 rfl rfl 16 (by decide) (ht0 _ wd778) (fun _ h9 => h9) rfl dX9_thingLine_252 ?_
            refine lv_iconst (v := 3) hx hb dX9_thingLine_255 (by decide) ?_
            refine lv_dup2_11 hx hb dX9_thingLine_256 rfl rfl ?_
            obtain ⟨g257, hok⟩ := gd_some hok
            refine va_iald hx hb hK hP 1 0 rfl rfl (okI_in g257) dX9_thingLine_257 ?_
            refine lv_iconst (v := 1) hx hb dX9_thingLine_258 (by decide) ?_
            refine lv_iadd hx hb dX9_thingLine_259 ?_
            obtain ⟨g260, hok⟩ := gd_some hok
            refine va_iast hx hb hK hP hD hS 1 0 rfl rfl (okI_in g260) dX9_thingLine_260 (fun H locs hP hD hS => ?_)
            have hP : va_P D vwCl (wX9_thingLine cy aM qM vM_240 (upd (upd (upd (upd vM_fresh_146 ((62 : Int32) + ((3 : Int32) * (vM_fresh (3 : Int32).toNatClampNeg))).toNatClampNeg y2_146) (((62 : Int32) + ((3 : Int32) * (vM_fresh (3 : Int32).toNatClampNeg))) + (1 : Int32)).toNatClampNeg y4_146) (((62 : Int32) + ((3 : Int32) * (vM_fresh (3 : Int32).toNatClampNeg))) + (2 : Int32)).toNatClampNeg r240) (3 : Int32).toNatClampNeg (((upd (upd (upd vM_fresh_146 ((62 : Int32) + ((3 : Int32) * (vM_fresh (3 : Int32).toNatClampNeg))).toNatClampNeg y2_146) (((62 : Int32) + ((3 : Int32) * (vM_fresh (3 : Int32).toNatClampNeg))) + (1 : Int32)).toNatClampNeg y4_146) (((62 : Int32) + ((3 : Int32) * (vM_fresh (3 : Int32).toNatClampNeg))) + (2 : Int32)).toNatClampNeg r240) (3 : Int32).toNatClampNeg) + (1 : Int32))) vM_letters_240 vM_tape) H := hP
            have hD : va_D A (wX9_thingLine cy aM qM vM_240 (upd (upd (upd (upd vM_fresh_146 ((62 : Int32) + ((3 : Int32) * (vM_fresh (3 : Int32).toNatClampNeg))).toNatClampNeg y2_146) (((62 : Int32) + ((3 : Int32) * (vM_fresh (3 : Int32).toNatClampNeg))) + (1 : Int32)).toNatClampNeg y4_146) (((62 : Int32) + ((3 : Int32) * (vM_fresh (3 : Int32).toNatClampNeg))) + (2 : Int32)).toNatClampNeg r240) (3 : Int32).toNatClampNeg (((upd (upd (upd vM_fresh_146 ((62 : Int32) + ((3 : Int32) * (vM_fresh (3 : Int32).toNatClampNeg))).toNatClampNeg y2_146) (((62 : Int32) + ((3 : Int32) * (vM_fresh (3 : Int32).toNatClampNeg))) + (1 : Int32)).toNatClampNeg y4_146) (((62 : Int32) + ((3 : Int32) * (vM_fresh (3 : Int32).toNatClampNeg))) + (2 : Int32)).toNatClampNeg r240) (3 : Int32).toNatClampNeg) + (1 : Int32))) vM_letters_240 vM_tape) := hD
            exact J261 (upd (upd (upd (upd vM_fresh_146 ((62 : Int32) + ((3 : Int32) * (vM_fresh (3 : Int32).toNatClampNeg))).toNatClampNeg y2_146) (((62 : Int32) + ((3 : Int32) * (vM_fresh (3 : Int32).toNatClampNeg))) + (1 : Int32)).toNatClampNeg y4_146) (((62 : Int32) + ((3 : Int32) * (vM_fresh (3 : Int32).toNatClampNeg))) + (2 : Int32)).toNatClampNeg r240) (3 : Int32).toNatClampNeg (((upd (upd (upd vM_fresh_146 ((62 : Int32) + ((3 : Int32) * (vM_fresh (3 : Int32).toNatClampNeg))).toNatClampNeg y2_146) (((62 : Int32) + ((3 : Int32) * (vM_fresh (3 : Int32).toNatClampNeg))) + (1 : Int32)).toNatClampNeg y4_146) (((62 : Int32) + ((3 : Int32) * (vM_fresh (3 : Int32).toNatClampNeg))) + (2 : Int32)).toNatClampNeg r240) (3 : Int32).toNatClampNeg) + (1 : Int32))) vM_letters_240 vM_240 H locs ls hP hD hS (lv_sub hl [] rfl) hok
        · have hok := k_neg c202 hok
          cases hok
          subst hQe; exact W.vret hx hb hr (fun t ht hW => ⟨⟨(), rfl, trivial, by rw [ht]; exact hP, va_K.moved hW.alike hK, hD⟩, hS.F ht⟩) hS.2.2 dX9_thingLine_205
      · have hok := k_neg c154 hok
        refine lv_aload_n hx hb dX9_thingLine_157 rfl (lv_at hl 0 rfl) ?_
        refine va_get (D := D) (ci := 8) (v := .int (vM_146 13)) (C := RX9) (T := TX9) (N := 29) hx hb ht0 niX9 hown hK hP 0 rfl rfl 13 (by decide) (ht0 _ wd757) (fun _ h9 => h9) rfl dX9_thingLine_158 ?_
        refine lv_if_ne (tgt := 192) hx hb dX9_thingLine_161 (by decide) (fun c161 => ?_) (fun c161 => ?_)
        · have hok := k_neg c161 hok
          exact J192 vM_146 H locs ls hP hD hS (lv_sub hl [0, 1, 2, 3, 4] rfl) hok
        · have hok := k_pos c161 hok
          refine lv_aload_n hx hb dX9_thingLine_164 rfl (lv_at hl 0 rfl) ?_
          refine va_get (D := D) (ci := 8) (v := .ref (qM 16)) (C := RX9) (T := TX9) (N := 29) hx hb ht0 niX9 hown hK hP 0 rfl rfl 16 (by decide) (ht0 _ wd778) (fun _ h9 => h9) rfl dX9_thingLine_165 ?_
          refine lv_bipush (v := 62) hx hb dX9_thingLine_168 (by decide) ?_
          refine lv_iconst (v := 3) hx hb dX9_thingLine_170 (by decide) ?_
          refine lv_iload hx hb dX9_thingLine_171 (lv_at hl 4 rfl) ?_
          refine lv_imul hx hb dX9_thingLine_173 ?_
          refine lv_iadd hx hb dX9_thingLine_174 ?_
          refine lv_iconst (v := 1) hx hb dX9_thingLine_175 (by decide) ?_
          refine lv_iadd hx hb dX9_thingLine_176 ?_
          obtain ⟨g177, hok⟩ := gd_some hok
          refine va_iald hx hb hK hP 1 0 rfl rfl (okI_in g177) dX9_thingLine_177 ?_
          refine lv_iload hx hb dX9_thingLine_178 (lv_at hl 3 rfl) ?_
          refine lv_icmp_ne (tgt := 192) hx hb dX9_thingLine_180 (by decide) (fun c180 => ?_) (fun c180 => ?_)
          · have hok := k_neg c180 hok
            exact J192 vM_146 H locs ls hP hD hS (lv_sub hl [0, 1, 2, 3, 4] rfl) hok
          · have hok := k_pos c180 hok
            refine lv_aload_n hx hb dX9_thingLine_183 rfl (lv_at hl 0 rfl) ?_
            refine lv_iconst (v := 3) hx hb dX9_thingLine_184 (by decide) ?_
            refine lv_aload_n hx hb dX9_thingLine_185 rfl (lv_at hl 0 rfl) ?_
            refine va_get (D := D) (ci := 8) (v := .int (vM_146 4)) (C := RX9) (T := TX9) (N := 29) hx hb ht0 niX9 hown hK hP 0 rfl rfl 4 (by decide) (ht0 _ wd756) (fun _ h9 => h9) rfl dX9_thingLine_186 ?_
            obtain ⟨vM_189, hc189, hok⟩ := k_bind hok
            refine kCv (wc := (wX9_wrong cy aM qM vM_146)) (wc2 := (wX9_wrong cy aM qM vM_189)) (wr := [(qM 16, rI cy 224 vM_fresh_146), (qM 12, rI cy 8 vM_letters_146), (qM 1, rI cy 900 vM_tape)]) (ws2 := (wX9_thingLine cy aM qM vM_189 vM_fresh_146 vM_letters_146 vM_tape)) (kRunV (As := [.int 3, .int (vM_146 4)]) (rest := []) ⟨hx, hb, hml, hown, ht0⟩ (kX9_wrong l D cy _ aM qM vM_146 (3 : Int32) (vM_146 4) vM_189 hc189 _ rfl) (cwV 2 ht0 (gV wd774 wd775 wd776 wd744 wd777) rfl rfl rfl (by decide +kernel) ⟨Nat.le_of_ble_eq_true rfl, Nat.le_of_ble_eq_true rfl⟩) hK hN hP hD [0] rfl (by decide) 0 8 rfl rfl rfl hl.1 rfl (Nat.le_of_ble_eq_true rfl) dX9_thingLine_189 ⟨Nat.zero_le _, Nat.zero_le _⟩) hP hD hS hA [0] [1, 2, 3] rfl rfl (by decide) (by decide) [3, 0, 1, 2] (by decide) rfl rfl (fun H locs hP hD hS => ?_)
            exact J192 vM_189 H locs ls hP hD hS (lv_sub hl [0, 1, 2, 3, 4] rfl) hok
  have J99 : ∀ (y2_99 : Int32) (vM_fresh_99 : Nat → Int32) (vM_letters_99 : Nat → Int32) (vM_99 : Nat → Int32), ∀ (H : Heap) (locs : List Loc) (ls : Array Slot), va_P D vwCl (wX9_thingLine cy aM qM vM_99 vM_fresh_99 vM_letters_99 vM_tape) H → va_D A (wX9_thingLine cy aM qM vM_99 vM_fresh_99 vM_letters_99 vM_tape) → va_S A s.heap H locs → lv_has ls 6 [(0, .ref aM), (1, .int ((62 : Int32) + ((3 : Int32) * (vM_fresh (3 : Int32).toNatClampNeg)))), (2, .int y2_99)] → fX9_thingLine_J99 vM_fresh vM_tape y2_99 vM_fresh_99 vM_letters_99 vM_99 = some (z_vM, z_vM_fresh, z_vM_letters) → W p l e ({ frames := 8, cells := 0, slots := 0, locals := 173 } : Room) s m ([.ref aM] : List Value).toArray below meth c H locs 0 0 Q (F0 m 99 ls []) := by
    intro y2_99 vM_fresh_99 vM_letters_99 vM_99 H locs ls hP hD hS hl hok
    unfold fX9_thingLine_J99 at hok
    refine lv_aload_n hx hb dX9_thingLine_99 rfl (lv_at hl 0 rfl) ?_
    refine va_get (D := D) (ci := 8) (v := .int (vM_99 13)) (C := RX9) (T := TX9) (N := 29) hx hb ht0 niX9 hown hK hP 0 rfl rfl 13 (by decide) (ht0 _ wd757) (fun _ h9 => h9) rfl dX9_thingLine_100 ?_
    refine lv_if_eq (tgt := 107) hx hb dX9_thingLine_103 (by decide) (fun c103 => ?_) (fun c103 => ?_)
    · have hok := k_pos c103 hok
      refine lv_aload_n hx hb dX9_thingLine_107 rfl (lv_at hl 0 rfl) ?_
      obtain ⟨⟨vM_108, vM_letters_108⟩, hc108, hok⟩ := k_bind hok
      try dsimp only at hok
      refine kCv (wc := (wX9_next cy aM qM vM_99 vM_tape vM_letters_99)) (wc2 := (wX9_next cy aM qM vM_108 vM_tape vM_letters_108)) (wr := [(qM 16, rI cy 224 vM_fresh_99)]) (ws2 := (wX9_thingLine cy aM qM vM_108 vM_fresh_99 vM_letters_108 vM_tape)) (kRunV (As := []) (rest := []) ⟨hx, hb, hml, hown, ht0⟩ (kX9_next l D cy _ aM qM vM_99 vM_tape vM_letters_99 vM_108 vM_letters_108 hc108 _ rfl) (cwV 0 ht0 (gV wd766 wd767 wd768 wd744 wd769) rfl rfl rfl (by decide +kernel) ⟨Nat.le_of_ble_eq_true rfl, Nat.le_of_ble_eq_true rfl⟩) hK hN hP hD [0, 3, 2] rfl (by decide) 0 8 rfl rfl rfl hl.1 rfl (Nat.le_of_ble_eq_true rfl) dX9_thingLine_108 ⟨Nat.zero_le _, Nat.zero_le _⟩) hP hD hS hA [0, 3, 2] [1] rfl rfl (by decide) (by decide) [1, 0, 3, 2] (by decide) rfl rfl (fun H locs hP hD hS => ?_)
      refine lv_aload_n hx hb dX9_thingLine_111 rfl (lv_at hl 0 rfl) ?_
      refine va_ldcS hx hb hown (hSt.2.1 _ (List.mem_of_getElem? (i := 39) rfl)) dX9_thingLine_112 ?_
      obtain ⟨⟨vM_114, vM_letters_114⟩, hc114, hok⟩ := k_bind hok
      try dsimp only at hok
      refine kCv (wc := (wX9_must cy aM qM vM_108 vM_letters_108 vM_tape)) (wc2 := (wX9_must cy aM qM vM_114 vM_letters_114 vM_tape)) (wr := [(qM 16, rI cy 224 vM_fresh_99)]) (ws2 := (wX9_thingLine cy aM qM vM_114 vM_fresh_99 vM_letters_114 vM_tape)) (kRunVS (As := [.ref (ad.1 9)]) (rest := []) ⟨hx, hb, hml, hown, ht0⟩ (kX9_must l D cy ad _ aM qM vM_108 vM_letters_108 vM_tape 9 vM_114 vM_letters_114 hc114 _ rfl) (cwV 1 ht0 (gV wd798 wd799 wd800 wd744 wd801) rfl rfl rfl (by decide +kernel) ⟨Nat.le_of_ble_eq_true rfl, Nat.le_of_ble_eq_true rfl⟩) hK hN hP hD hSt hS hA [0, 2, 3] rfl (by decide) 0 8 rfl rfl rfl hl.1 rfl (Nat.le_of_ble_eq_true rfl) dX9_thingLine_114 ⟨Nat.zero_le _, Nat.zero_le _⟩) hP hD hS hA [0, 2, 3] [1] rfl rfl (by decide) (by decide) [1, 0, 2, 3] (by decide) rfl rfl (fun H locs hP hD hS => ?_)
      refine lv_aload_n hx hb dX9_thingLine_117 rfl (lv_at hl 0 rfl) ?_
      obtain ⟨⟨r118, vM_118, vM_letters_118⟩, hc118, hok⟩ := k_bind hok
      try dsimp only at hok
      refine kCi (wc := (wX9_ringName cy aM qM vM_114 vM_letters_114 vM_fresh_99 vM_tape)) (wc2 := (wX9_ringName cy aM qM vM_118 vM_letters_118 vM_fresh_99 vM_tape)) (wr := []) (ws2 := (wX9_thingLine cy aM qM vM_118 vM_fresh_99 vM_letters_118 vM_tape)) (kRunVS (As := []) (rest := []) ⟨hx, hb, hml, hown, ht0⟩ (kX9_ringName l D cy ad _ aM qM vM_114 vM_letters_114 vM_fresh_99 vM_tape r118 vM_118 vM_letters_118 hc118 _ rfl) (cwV 0 ht0 (gV wd814 wd815 wd816 wd744 wd817) rfl rfl rfl (by decide +kernel) ⟨Nat.le_of_ble_eq_true rfl, Nat.le_of_ble_eq_true rfl⟩) hK hN hP hD hSt hS hA [0, 2, 1, 3] rfl (by decide) 0 8 rfl rfl rfl hl.1 rfl (Nat.le_of_ble_eq_true rfl) dX9_thingLine_118 ⟨Nat.zero_le _, Nat.zero_le _⟩) hP hD hS hA [0, 2, 1, 3] [] rfl rfl (by decide) (by decide) [0, 2, 1, 3] (by decide) rfl rfl (fun H locs hP hD hS => ?_)
      refine lv_istore_n (lv' := [(3, .int r118), (0, .ref aM), (1, .int ((62 : Int32) + ((3 : Int32) * (vM_fresh (3 : Int32).toNatClampNeg)))), (2, .int y2_99)]) hx hb dX9_thingLine_121 rfl hl (by decide) rfl (fun ls hl => ?_)
      refine lv_aload_n hx hb dX9_thingLine_122 rfl (lv_at hl 1 rfl) ?_
      refine va_ldcS hx hb hown (hSt.2.1 _ (List.mem_of_getElem? (i := 40) rfl)) dX9_thingLine_123 ?_
      obtain ⟨⟨vM_125, vM_letters_125⟩, hc125, hok⟩ := k_bind hok
      try dsimp only at hok
      refine kCv (wc := (wX9_must cy aM qM vM_118 vM_letters_118 vM_tape)) (wc2 := (wX9_must cy aM qM vM_125 vM_letters_125 vM_tape)) (wr := [(qM 16, rI cy 224 vM_fresh_99)]) (ws2 := (wX9_thingLine cy aM qM vM_125 vM_fresh_99 vM_letters_125 vM_tape)) (kRunVS (As := [.ref (ad.1 0)]) (rest := []) ⟨hx, hb, hml, hown, ht0⟩ (kX9_must l D cy ad _ aM qM vM_118 vM_letters_118 vM_tape 0 vM_125 vM_letters_125 hc125 _ rfl) (cwV 1 ht0 (gV wd798 wd799 wd800 wd744 wd801) rfl rfl rfl (by decide +kernel) ⟨Nat.le_of_ble_eq_true rfl, Nat.le_of_ble_eq_true rfl⟩) hK hN hP hD hSt hS hA [0, 2, 3] rfl (by decide) 0 8 rfl rfl rfl hl.1 rfl (Nat.le_of_ble_eq_true rfl) dX9_thingLine_125 ⟨Nat.zero_le _, Nat.zero_le _⟩) hP hD hS hA [0, 2, 3] [1] rfl rfl (by decide) (by decide) [1, 0, 2, 3] (by decide) rfl rfl (fun H locs hP hD hS => ?_)
      refine lv_aload_n hx hb dX9_thingLine_128 rfl (lv_at hl 1 rfl) ?_
      refine va_get (D := D) (ci := 8) (v := .int (vM_125 13)) (C := RX9) (T := TX9) (N := 29) hx hb ht0 niX9 hown hK hP 0 rfl rfl 13 (by decide) (ht0 _ wd757) (fun _ h9 => h9) rfl dX9_thingLine_129 ?_
      refine lv_if_eq (tgt := 136) hx hb dX9_thingLine_132 (by decide) (fun c132 => ?_) (fun c132 => ?_)
      · have hok := k_pos c132 hok
        refine lv_aload_n hx hb dX9_thingLine_136 rfl (lv_at hl 1 rfl) ?_
        refine lv_iload_n hx hb dX9_thingLine_137 rfl (lv_at hl 0 rfl) ?_
        obtain ⟨⟨r138, vM_138⟩, hc138, hok⟩ := k_bind hok
        try dsimp only at hok
        refine kCi (wc := (wX9_placeHere cy aM qM vM_125 vM_fresh_99)) (wc2 := (wX9_placeHere cy aM qM vM_138 vM_fresh_99)) (wr := [(qM 12, rI cy 8 vM_letters_125), (qM 1, rI cy 900 vM_tape)]) (ws2 := (wX9_thingLine cy aM qM vM_138 vM_fresh_99 vM_letters_125 vM_tape)) (kRunV (As := [.int r118]) (rest := []) ⟨hx, hb, hml, hown, ht0⟩ (kX9_placeHere l D cy _ aM qM vM_125 vM_fresh_99 r118 r138 vM_138 hc138 _ rfl) (cwV 1 ht0 (gV wd818 wd819 wd820 wd744 wd821) rfl rfl rfl (by decide +kernel) ⟨Nat.le_of_ble_eq_true rfl, Nat.le_of_ble_eq_true rfl⟩) hK hN hP hD [0, 1] rfl (by decide) 0 8 rfl rfl rfl hl.1 rfl (Nat.le_of_ble_eq_true rfl) dX9_thingLine_138 ⟨Nat.zero_le _, Nat.zero_le _⟩) hP hD hS hA [0, 1] [2, 3] rfl rfl (by decide) (by decide) [2, 3, 0, 1] (by decide) rfl rfl (fun H locs hP hD hS => ?_)
        refine lv_istore (lv' := [(4, .int r138), (3, .int r118), (0, .ref aM), (1, .int ((62 : Int32) + ((3 : Int32) * (vM_fresh (3 : Int32).toNatClampNeg)))), (2, .int y2_99)]) hx hb dX9_thingLine_141 hl (by decide) rfl (fun ls hl => ?_)
        refine lv_iconst (v := 0) hx hb dX9_thingLine_143 (by decide) ?_
        refine lv_istore (lv' := [(5, .int 0), (4, .int r138), (3, .int r118), (0, .ref aM), (1, .int ((62 : Int32) + ((3 : Int32) * (vM_fresh (3 : Int32).toNatClampNeg)))), (2, .int y2_99)]) hx hb dX9_thingLine_144 hl (by decide) rfl (fun ls hl => ?_)
        exact L146 5000 y2_99 r138 (0 : Int32) vM_fresh_99 vM_letters_125 vM_138 H locs ls hP hD hS (lv_sub hl [3, 4, 5, 1, 0] rfl) hok
      · have hok := k_neg c132 hok
        cases hok
        subst hQe; exact W.vret hx hb hr (fun t ht hW => ⟨⟨(), rfl, trivial, by rw [ht]; exact hP, va_K.moved hW.alike hK, hD⟩, hS.F ht⟩) hS.2.2 dX9_thingLine_135
    · have hok := k_neg c103 hok
      cases hok
      subst hQe; exact W.vret hx hb hr (fun t ht hW => ⟨⟨(), rfl, trivial, by rw [ht]; exact hP, va_K.moved hW.alike hK, hD⟩, hS.F ht⟩) hS.2.2 dX9_thingLine_106
  have J85 : ∀ (t0_85 : Int32) (vM_fresh_85 : Nat → Int32) (vM_letters_85 : Nat → Int32) (vM_85 : Nat → Int32), ∀ (H : Heap) (locs : List Loc) (ls : Array Slot), va_P D vwCl (wX9_thingLine cy aM qM vM_85 vM_fresh_85 vM_letters_85 vM_tape) H → va_D A (wX9_thingLine cy aM qM vM_85 vM_fresh_85 vM_letters_85 vM_tape) → va_S A s.heap H locs → lv_has ls 6 [(0, .ref aM), (1, .int ((62 : Int32) + ((3 : Int32) * (vM_fresh (3 : Int32).toNatClampNeg))))] → fX9_thingLine_J85 vM_fresh vM_tape t0_85 vM_fresh_85 vM_letters_85 vM_85 = some (z_vM, z_vM_fresh, z_vM_letters) → W p l e ({ frames := 8, cells := 0, slots := 0, locals := 173 } : Room) s m ([.ref aM] : List Value).toArray below meth c H locs 0 0 Q (F0 m 85 ls [.int t0_85]) := by
    intro t0_85 vM_fresh_85 vM_letters_85 vM_85 H locs ls hP hD hS hl hok
    unfold fX9_thingLine_J85 at hok
    refine lv_istore_n (lv' := [(2, .int t0_85), (0, .ref aM), (1, .int ((62 : Int32) + ((3 : Int32) * (vM_fresh (3 : Int32).toNatClampNeg))))]) hx hb dX9_thingLine_85 rfl hl (by decide) rfl (fun ls hl => ?_)
    refine lv_iload_n hx hb dX9_thingLine_86 rfl (lv_at hl 0 rfl) ?_
    refine lv_if_ge (tgt := 99) hx hb dX9_thingLine_87 (by decide) (fun c87 => ?_) (fun c87 => ?_)
    · have hok := k_pos c87 hok
      exact J99 t0_85 vM_fresh_85 vM_letters_85 vM_85 H locs ls hP hD hS (lv_sub hl [1, 2, 0] rfl) hok
    · have hok := k_neg c87 hok
      refine lv_aload_n hx hb dX9_thingLine_90 rfl (lv_at hl 1 rfl) ?_
      refine lv_iconst (v := 1) hx hb dX9_thingLine_91 (by decide) ?_
      refine lv_aload_n hx hb dX9_thingLine_92 rfl (lv_at hl 1 rfl) ?_
      refine va_get (D := D) (ci := 8) (v := .int (vM_85 4)) (C := RX9) (T := TX9) (N := 29) hx hb ht0 niX9 hown hK hP 0 rfl rfl 4 (by decide) (ht0 _ wd756) (fun _ h9 => h9) rfl dX9_thingLine_93 ?_
      obtain ⟨vM_96, hc96, hok⟩ := k_bind hok
      refine kCv (wc := (wX9_wrong cy aM qM vM_85)) (wc2 := (wX9_wrong cy aM qM vM_96)) (wr := [(qM 16, rI cy 224 vM_fresh_85), (qM 12, rI cy 8 vM_letters_85), (qM 1, rI cy 900 vM_tape)]) (ws2 := (wX9_thingLine cy aM qM vM_96 vM_fresh_85 vM_letters_85 vM_tape)) (kRunV (As := [.int 1, .int (vM_85 4)]) (rest := []) ⟨hx, hb, hml, hown, ht0⟩ (kX9_wrong l D cy _ aM qM vM_85 (1 : Int32) (vM_85 4) vM_96 hc96 _ rfl) (cwV 2 ht0 (gV wd774 wd775 wd776 wd744 wd777) rfl rfl rfl (by decide +kernel) ⟨Nat.le_of_ble_eq_true rfl, Nat.le_of_ble_eq_true rfl⟩) hK hN hP hD [0] rfl (by decide) 0 8 rfl rfl rfl hl.1 rfl (Nat.le_of_ble_eq_true rfl) dX9_thingLine_96 ⟨Nat.zero_le _, Nat.zero_le _⟩) hP hD hS hA [0] [1, 2, 3] rfl rfl (by decide) (by decide) [3, 0, 1, 2] (by decide) rfl rfl (fun H locs hP hD hS => ?_)
      exact J99 t0_85 vM_fresh_85 vM_letters_85 vM_96 H locs ls hP hD hS (lv_sub hl [1, 2, 0] rfl) hok
  unfold fX9_thingLine at hok
  obtain ⟨H, hH⟩ : ∃ H, H = s.heap := ⟨_, rfl⟩
  obtain ⟨locs, hlc⟩ : ∃ x : List Loc, x = [] := ⟨_, rfl⟩
  have hP : va_P D vwCl (wX9_thingLine cy aM qM vM vM_fresh vM_letters vM_tape) H := by rw [hH]; exact hP
  have hS : va_S A s.heap H locs := by rw [hH, hlc]; exact hS
  rw [show W p l e _ s m _ below meth c s.heap [] = W p l e _ s m _ below meth c H locs from by rw [hH, hlc]]
  refine lv_aload_n hx hb dX9_thingLine_0 rfl (lv_at hl 0 rfl) ?_
  refine va_get (D := D) (ci := 8) (v := .int (vM 13)) (C := RX9) (T := TX9) (N := 29) hx hb ht0 niX9 hown hK hP 0 rfl rfl 13 (by decide) (ht0 _ wd757) (fun _ h9 => h9) rfl dX9_thingLine_1 ?_
  refine lv_if_eq (tgt := 8) hx hb dX9_thingLine_4 (by decide) (fun c4 => ?_) (fun c4 => ?_)
  · have hok := k_pos c4 hok
    refine lv_bipush (v := 62) hx hb dX9_thingLine_8 (by decide) ?_
    refine lv_iconst (v := 3) hx hb dX9_thingLine_10 (by decide) ?_
    refine lv_aload_n hx hb dX9_thingLine_11 rfl (lv_at hl 0 rfl) ?_
    refine va_get (D := D) (ci := 8) (v := .ref (qM 16)) (C := RX9) (T := TX9) (N := 29) hx hb ht0 niX9 hown hK hP 0 rfl rfl 16 (by decide) (ht0 _ wd778) (fun _ h9 => h9) rfl dX9_thingLine_12 ?_
    refine lv_iconst (v := 3) hx hb dX9_thingLine_15 (by decide) ?_
    obtain ⟨g16, hok⟩ := gd_some hok
    refine va_iald hx hb hK hP 1 0 rfl rfl (okI_in g16) dX9_thingLine_16 ?_
    refine lv_imul hx hb dX9_thingLine_17 ?_
    refine lv_iadd hx hb dX9_thingLine_18 ?_
    refine lv_istore_n (lv' := [(1, .int ((62 : Int32) + ((3 : Int32) * (vM_fresh (3 : Int32).toNatClampNeg)))), (0, .ref aM)]) hx hb dX9_thingLine_19 rfl hl (by decide) rfl (fun ls hl => ?_)
    refine lv_aload_n hx hb dX9_thingLine_20 rfl (lv_at hl 1 rfl) ?_
    refine lv_iconst (v := 4) hx hb dX9_thingLine_21 (by decide) ?_
    refine lv_aload_n hx hb dX9_thingLine_22 rfl (lv_at hl 1 rfl) ?_
    refine va_get (D := D) (ci := 8) (v := .ref (qM 16)) (C := RX9) (T := TX9) (N := 29) hx hb ht0 niX9 hown hK hP 0 rfl rfl 16 (by decide) (ht0 _ wd778) (fun _ h9 => h9) rfl dX9_thingLine_23 ?_
    refine lv_iconst (v := 3) hx hb dX9_thingLine_26 (by decide) ?_
    obtain ⟨g27, hok⟩ := gd_some hok
    refine va_iald hx hb hK hP 1 0 rfl rfl (okI_in g27) dX9_thingLine_27 ?_
    refine lv_iadd hx hb dX9_thingLine_28 ?_
    obtain ⟨⟨vM_29, vM_letters_29, vM_fresh_29⟩, hc29, hok⟩ := k_bind hok
    try dsimp only at hok
    refine kCv (wc := (wX9_newName cy aM qM vM vM_letters vM_fresh vM_tape)) (wc2 := (wX9_newName cy aM qM vM_29 vM_letters_29 vM_fresh_29 vM_tape)) (wr := []) (ws2 := (wX9_thingLine cy aM qM vM_29 vM_fresh_29 vM_letters_29 vM_tape)) (kRunVS (As := [.int ((4 : Int32) + (vM_fresh (3 : Int32).toNatClampNeg))]) (rest := []) ⟨hx, hb, hml, hown, ht0⟩ (kX9_newName l D cy ad _ aM qM vM vM_letters vM_fresh vM_tape ((4 : Int32) + (vM_fresh (3 : Int32).toNatClampNeg)) vM_29 vM_letters_29 vM_fresh_29 hc29 _ rfl) (cwV 1 ht0 (gV wd810 wd811 wd812 wd744 wd813) rfl rfl rfl (by decide +kernel) ⟨Nat.le_of_ble_eq_true rfl, Nat.le_of_ble_eq_true rfl⟩) hK hN hP hD hSt hS hA [0, 2, 1, 3] rfl (by decide) 0 8 rfl rfl rfl hl.1 rfl (Nat.le_of_ble_eq_true rfl) dX9_thingLine_29 ⟨Nat.zero_le _, Nat.zero_le _⟩) hP hD hS hA [0, 2, 1, 3] [] rfl rfl (by decide) (by decide) [0, 2, 1, 3] (by decide) rfl rfl (fun H locs hP hD hS => ?_)
    refine lv_aload_n hx hb dX9_thingLine_32 rfl (lv_at hl 1 rfl) ?_
    refine va_ldcS hx hb hown (hSt.2.1 _ (List.mem_of_getElem? (i := 32) rfl)) dX9_thingLine_33 ?_
    obtain ⟨r35, hc35, hok⟩ := k_bind hok
    refine kCi (wc := (wX9_isWord cy aM qM vM_29 vM_letters_29)) (wc2 := (wX9_isWord cy aM qM vM_29 vM_letters_29)) (wr := [(qM 16, rI cy 224 vM_fresh_29), (qM 1, rI cy 900 vM_tape)]) (ws2 := (wX9_thingLine cy aM qM vM_29 vM_fresh_29 vM_letters_29 vM_tape)) (kRunVS (As := [.ref (ad.1 17)]) (rest := []) ⟨hx, hb, hml, hown, ht0⟩ (kX9_isWord l D cy ad _ aM qM vM_29 vM_letters_29 17 r35 hc35 _ rfl) (cwV 1 ht0 (gV wd762 wd763 wd764 wd744 wd765) rfl rfl rfl (by decide +kernel) ⟨Nat.le_of_ble_eq_true rfl, Nat.le_of_ble_eq_true rfl⟩) hK hN hP hD hSt hS hA [0, 2] rfl (by decide) 0 8 rfl rfl rfl hl.1 rfl (Nat.le_of_ble_eq_true rfl) dX9_thingLine_35 ⟨Nat.zero_le _, Nat.zero_le _⟩) hP hD hS hA [0, 2] [1, 3] rfl rfl (by decide) (by decide) [2, 0, 3, 1] (by decide) rfl rfl (fun H locs hP hD hS => ?_)
    refine lv_if_eq (tgt := 45) hx hb dX9_thingLine_38 (by decide) (fun c38 => ?_) (fun c38 => ?_)
    · have hok := k_pos c38 hok
      refine lv_aload_n hx hb dX9_thingLine_45 rfl (lv_at hl 1 rfl) ?_
      refine va_ldcS hx hb hown (hSt.2.1 _ (List.mem_of_getElem? (i := 36) rfl)) dX9_thingLine_46 ?_
      obtain ⟨r48, hc48, hok⟩ := k_bind hok
      refine kCi (wc := (wX9_isWord cy aM qM vM_29 vM_letters_29)) (wc2 := (wX9_isWord cy aM qM vM_29 vM_letters_29)) (wr := [(qM 16, rI cy 224 vM_fresh_29), (qM 1, rI cy 900 vM_tape)]) (ws2 := (wX9_thingLine cy aM qM vM_29 vM_fresh_29 vM_letters_29 vM_tape)) (kRunVS (As := [.ref (ad.1 15)]) (rest := []) ⟨hx, hb, hml, hown, ht0⟩ (kX9_isWord l D cy ad _ aM qM vM_29 vM_letters_29 15 r48 hc48 _ rfl) (cwV 1 ht0 (gV wd762 wd763 wd764 wd744 wd765) rfl rfl rfl (by decide +kernel) ⟨Nat.le_of_ble_eq_true rfl, Nat.le_of_ble_eq_true rfl⟩) hK hN hP hD hSt hS hA [0, 2] rfl (by decide) 0 8 rfl rfl rfl hl.1 rfl (Nat.le_of_ble_eq_true rfl) dX9_thingLine_48 ⟨Nat.zero_le _, Nat.zero_le _⟩) hP hD hS hA [0, 2] [1, 3] rfl rfl (by decide) (by decide) [2, 0, 3, 1] (by decide) rfl rfl (fun H locs hP hD hS => ?_)
      refine lv_if_eq (tgt := 58) hx hb dX9_thingLine_51 (by decide) (fun c51 => ?_) (fun c51 => ?_)
      · have hok := k_pos c51 hok
        refine lv_aload_n hx hb dX9_thingLine_58 rfl (lv_at hl 1 rfl) ?_
        refine va_ldcS hx hb hown (hSt.2.1 _ (List.mem_of_getElem? (i := 37) rfl)) dX9_thingLine_59 ?_
        obtain ⟨r61, hc61, hok⟩ := k_bind hok
        refine kCi (wc := (wX9_isWord cy aM qM vM_29 vM_letters_29)) (wc2 := (wX9_isWord cy aM qM vM_29 vM_letters_29)) (wr := [(qM 16, rI cy 224 vM_fresh_29), (qM 1, rI cy 900 vM_tape)]) (ws2 := (wX9_thingLine cy aM qM vM_29 vM_fresh_29 vM_letters_29 vM_tape)) (kRunVS (As := [.ref (ad.1 2)]) (rest := []) ⟨hx, hb, hml, hown, ht0⟩ (kX9_isWord l D cy ad _ aM qM vM_29 vM_letters_29 2 r61 hc61 _ rfl) (cwV 1 ht0 (gV wd762 wd763 wd764 wd744 wd765) rfl rfl rfl (by decide +kernel) ⟨Nat.le_of_ble_eq_true rfl, Nat.le_of_ble_eq_true rfl⟩) hK hN hP hD hSt hS hA [0, 2] rfl (by decide) 0 8 rfl rfl rfl hl.1 rfl (Nat.le_of_ble_eq_true rfl) dX9_thingLine_61 ⟨Nat.zero_le _, Nat.zero_le _⟩) hP hD hS hA [0, 2] [1, 3] rfl rfl (by decide) (by decide) [2, 0, 3, 1] (by decide) rfl rfl (fun H locs hP hD hS => ?_)
        refine lv_if_eq (tgt := 71) hx hb dX9_thingLine_64 (by decide) (fun c64 => ?_) (fun c64 => ?_)
        · have hok := k_pos c64 hok
          refine lv_aload_n hx hb dX9_thingLine_71 rfl (lv_at hl 1 rfl) ?_
          refine va_ldcS hx hb hown (hSt.2.1 _ (List.mem_of_getElem? (i := 38) rfl)) dX9_thingLine_72 ?_
          obtain ⟨r74, hc74, hok⟩ := k_bind hok
          refine kCi (wc := (wX9_isWord cy aM qM vM_29 vM_letters_29)) (wc2 := (wX9_isWord cy aM qM vM_29 vM_letters_29)) (wr := [(qM 16, rI cy 224 vM_fresh_29), (qM 1, rI cy 900 vM_tape)]) (ws2 := (wX9_thingLine cy aM qM vM_29 vM_fresh_29 vM_letters_29 vM_tape)) (kRunVS (As := [.ref (ad.1 14)]) (rest := []) ⟨hx, hb, hml, hown, ht0⟩ (kX9_isWord l D cy ad _ aM qM vM_29 vM_letters_29 14 r74 hc74 _ rfl) (cwV 1 ht0 (gV wd762 wd763 wd764 wd744 wd765) rfl rfl rfl (by decide +kernel) ⟨Nat.le_of_ble_eq_true rfl, Nat.le_of_ble_eq_true rfl⟩) hK hN hP hD hSt hS hA [0, 2] rfl (by decide) 0 8 rfl rfl rfl hl.1 rfl (Nat.le_of_ble_eq_true rfl) dX9_thingLine_74 ⟨Nat.zero_le _, Nat.zero_le _⟩) hP hD hS hA [0, 2] [1, 3] rfl rfl (by decide) (by decide) [2, 0, 3, 1] (by decide) rfl rfl (fun H locs hP hD hS => ?_)
          refine lv_if_eq (tgt := 84) hx hb dX9_thingLine_77 (by decide) (fun c77 => ?_) (fun c77 => ?_)
          · have hok := k_pos c77 hok
            refine lv_iconst (v := -1) hx hb dX9_thingLine_84 (by decide) ?_
            exact J85 (-1 : Int32) vM_fresh_29 vM_letters_29 vM_29 H locs ls hP hD hS (lv_sub hl [1, 0] rfl) hok
          · have hok := k_neg c77 hok
            refine lv_iconst (v := 3) hx hb dX9_thingLine_80 (by decide) ?_
            refine lv_goto (tgt := 85) hx hb dX9_thingLine_81 (by decide) ?_
            exact J85 (3 : Int32) vM_fresh_29 vM_letters_29 vM_29 H locs ls hP hD hS (lv_sub hl [1, 0] rfl) hok
        · have hok := k_neg c64 hok
          refine lv_iconst (v := 2) hx hb dX9_thingLine_67 (by decide) ?_
          refine lv_goto (tgt := 85) hx hb dX9_thingLine_68 (by decide) ?_
          exact J85 (2 : Int32) vM_fresh_29 vM_letters_29 vM_29 H locs ls hP hD hS (lv_sub hl [1, 0] rfl) hok
      · have hok := k_neg c51 hok
        refine lv_iconst (v := 1) hx hb dX9_thingLine_54 (by decide) ?_
        refine lv_goto (tgt := 85) hx hb dX9_thingLine_55 (by decide) ?_
        exact J85 (1 : Int32) vM_fresh_29 vM_letters_29 vM_29 H locs ls hP hD hS (lv_sub hl [1, 0] rfl) hok
    · have hok := k_neg c38 hok
      refine lv_iconst (v := 0) hx hb dX9_thingLine_41 (by decide) ?_
      refine lv_goto (tgt := 85) hx hb dX9_thingLine_42 (by decide) ?_
      exact J85 (0 : Int32) vM_fresh_29 vM_letters_29 vM_29 H locs ls hP hD hS (lv_sub hl [1, 0] rfl) hok
  · have hok := k_neg c4 hok
    cases hok
    subst hQe; exact W.vret hx hb hr (fun t ht hW => ⟨⟨(), rfl, trivial, by rw [ht]; exact hP, va_K.moved hW.alike hK, hD⟩, hS.F ht⟩) hS.2.2 dX9_thingLine_7
def wsX9_wantLine : List Cond := .code yX9_wantLine cX9_wantLine 3 none :: W0
abbrev wX9_wantLine (cy : Nat → ClassId) (aM : Nat) (qM : Nat → Nat) (vM : Nat → Int32) (vM_fresh : Nat → Int32) (vM_letters : Nat → Int32) (vM_tape : Nat → Int32) : va_W := [(aM, oX9 vM qM), (qM 16, rI cy 224 vM_fresh), (qM 12, rI cy 8 vM_letters), (qM 1, rI cy 900 vM_tape)]
set_option maxHeartbeats 4000000 in
set_option maxRecDepth 100000 in
theorem kX9_wantLine (l : Launch) (D : va_G) (cy : Nat → ClassId) (ad : (Nat → Nat) × (Nat → Nat)) (sz : Nat) (aM : Nat) (qM : Nat → Nat) (vM : Nat → Int32) (vM_fresh : Nat → Int32) (vM_letters : Nat → Int32) (vM_tape : Nat → Int32) (z_vM : Nat → Int32) (z_vM_fresh : Nat → Int32) (z_vM_letters : Nat → Int32) (hok : fX9_wantLine vM vM_fresh vM_letters vM_tape = some (z_vM, z_vM_fresh, z_vM_letters)) (A : Nat → Prop) (hAe : va_A (wX9_wantLine cy aM qM vM vM_fresh vM_letters vM_tape) sz = A) : Met l yX9_wantLine wsX9_wantLine ({ frames := 8, cells := 0, slots := 0, locals := 173 } : Room) (kPreS D cy ad [.ref aM] (wX9_wantLine cy aM qM vM vM_fresh vM_letters vM_tape) sz A) (kQv D cy A (wX9_wantLine cy aM qM z_vM z_vM_fresh z_vM_letters vM_tape)) 0 0 A := by
  refine Met.ofW (cc := cX9_wantLine) (maxL := 3) (ret := none) (by decide) rfl ?_
  intro p e s m args below meth c s₁ B hml hv
  obtain ⟨rfl, ⟨hsz, hP, hK, hD0, hN⟩, hSt⟩ := hv
  have hx := B.exec
  have hb := B.bytes
  have hr := B.returns
  have ht0 : ∀ w ∈ W0, w.before _ s = true := fun w h => atoms_spec (ws := wsX9_wantLine) B.pre w (List.mem_cons_of_mem _ h)
  have hown : s.vm.findClass RX9 = some m.cls := findClass_of_methodNamed B.named
  have hlocks := B.notSynchronized
  subst hsz
  have hD : va_D A (wX9_wantLine cy aM qM vM vM_fresh vM_letters vM_tape) := by rw [← hAe]; exact hD0.self
  have hA : ∀ q : Nat, s.heap.size ≤ q → A q := fun q h => by rw [← hAe]; exact Or.inr h
  have hS : va_S A s.heap s.heap [] := va_S.rf
  have hl := lv_entry ([.ref aM]) (n := 3) (Nat.le_of_ble_eq_true rfl)
  rw [lg_entry_eq]
  generalize (lg_sl ([.ref aM]) ++ List.replicate (3 - (lg_sl ([.ref aM])).length) Slot.unset).toArray = ls at hl ⊢
  have hl : lv_has ls 3 [(0, .ref aM)] := hl
  generalize hQe : MQ below (kQv D cy A (wX9_wantLine cy aM qM z_vM z_vM_fresh z_vM_letters vM_tape)) ([.ref aM] : List Value).toArray s 0 0 A = Q
  have J136 : ∀ (vM_fresh_136 : Nat → Int32) (vM_letters_136 : Nat → Int32) (vM_136 : Nat → Int32), ∀ (H : Heap) (locs : List Loc) (ls : Array Slot), va_P D vwCl (wX9_wantLine cy aM qM vM_136 vM_fresh_136 vM_letters_136 vM_tape) H → va_D A (wX9_wantLine cy aM qM vM_136 vM_fresh_136 vM_letters_136 vM_tape) → va_S A s.heap H locs → lv_has ls 3 [] → fX9_wantLine_J136 vM_fresh_136 vM_letters_136 vM_136 = some (z_vM, z_vM_fresh, z_vM_letters) → W p l e ({ frames := 8, cells := 0, slots := 0, locals := 173 } : Room) s m ([.ref aM] : List Value).toArray below meth c H locs 0 0 Q (F0 m 136 ls []) := by
    intro vM_fresh_136 vM_letters_136 vM_136 H locs ls hP hD hS hl hok
    unfold fX9_wantLine_J136 at hok
    cases hok
    subst hQe; exact W.vret hx hb hr (fun t ht hW => ⟨⟨(), rfl, trivial, by rw [ht]; exact hP, va_K.moved hW.alike hK, hD⟩, hS.F ht⟩) hS.2.2 dX9_wantLine_136
  unfold fX9_wantLine at hok
  obtain ⟨H, hH⟩ : ∃ H, H = s.heap := ⟨_, rfl⟩
  obtain ⟨locs, hlc⟩ : ∃ x : List Loc, x = [] := ⟨_, rfl⟩
  have hP : va_P D vwCl (wX9_wantLine cy aM qM vM vM_fresh vM_letters vM_tape) H := by rw [hH]; exact hP
  have hS : va_S A s.heap H locs := by rw [hH, hlc]; exact hS
  rw [show W p l e _ s m _ below meth c s.heap [] = W p l e _ s m _ below meth c H locs from by rw [hH, hlc]]
  refine lv_aload_n hx hb dX9_wantLine_0 rfl (lv_at hl 0 rfl) ?_
  refine va_get (D := D) (ci := 8) (v := .int (vM 13)) (C := RX9) (T := TX9) (N := 29) hx hb ht0 niX9 hown hK hP 0 rfl rfl 13 (by decide) (ht0 _ wd757) (fun _ h9 => h9) rfl dX9_wantLine_1 ?_
  refine lv_if_eq (tgt := 8) hx hb dX9_wantLine_4 (by decide) (fun c4 => ?_) (fun c4 => ?_)
  · have hok := k_pos c4 hok
    refine lv_bipush (v := 83) hx hb dX9_wantLine_8 (by decide) ?_
    refine lv_iconst (v := 4) hx hb dX9_wantLine_10 (by decide) ?_
    refine lv_aload_n hx hb dX9_wantLine_11 rfl (lv_at hl 0 rfl) ?_
    refine va_get (D := D) (ci := 8) (v := .ref (qM 16)) (C := RX9) (T := TX9) (N := 29) hx hb ht0 niX9 hown hK hP 0 rfl rfl 16 (by decide) (ht0 _ wd778) (fun _ h9 => h9) rfl dX9_wantLine_12 ?_
    refine lv_bipush (v := 6) hx hb dX9_wantLine_15 (by decide) ?_
    obtain ⟨g17, hok⟩ := gd_some hok
    refine va_iald hx hb hK hP 1 0 rfl rfl (okI_in g17) dX9_wantLine_17 ?_
    refine lv_imul hx hb dX9_wantLine_18 ?_
    refine lv_iadd hx hb dX9_wantLine_19 ?_
    refine lv_istore_n (lv' := [(1, .int ((83 : Int32) + ((4 : Int32) * (vM_fresh (6 : Int32).toNatClampNeg)))), (0, .ref aM)]) hx hb dX9_wantLine_20 rfl hl (by decide) rfl (fun ls hl => ?_)
    refine lv_aload_n hx hb dX9_wantLine_21 rfl (lv_at hl 1 rfl) ?_
    refine va_get (D := D) (ci := 8) (v := .ref (qM 16)) (C := RX9) (T := TX9) (N := 29) hx hb ht0 niX9 hown hK hP 0 rfl rfl 16 (by decide) (ht0 _ wd778) (fun _ h9 => h9) rfl dX9_wantLine_22 ?_
    refine lv_iload_n hx hb dX9_wantLine_25 rfl (lv_at hl 0 rfl) ?_
    refine lv_aload_n hx hb dX9_wantLine_26 rfl (lv_at hl 1 rfl) ?_
    refine lv_iconst (v := 4) hx hb dX9_wantLine_27 (by decide) ?_
    refine lv_bipush (v := 10) hx hb dX9_wantLine_28 (by decide) ?_
    obtain ⟨⟨r30, vM_30, vM_letters_30⟩, hc30, hok⟩ := k_bind hok
    try dsimp only at hok
    refine kCi (wc := (wX9_named cy aM qM vM vM_letters vM_fresh vM_tape)) (wc2 := (wX9_named cy aM qM vM_30 vM_letters_30 vM_fresh vM_tape)) (wr := []) (ws2 := (wX9_wantLine cy aM qM vM_30 vM_fresh vM_letters_30 vM_tape)) (kRunVS (As := [.int 4, .int 10]) (rest := [.int ((83 : Int32) + ((4 : Int32) * (vM_fresh (6 : Int32).toNatClampNeg))), .ref (qM 16)]) ⟨hx, hb, hml, hown, ht0⟩ (kX9_named l D cy ad _ aM qM vM vM_letters vM_fresh vM_tape (4 : Int32) (10 : Int32) r30 vM_30 vM_letters_30 hc30 _ rfl) (cwV 2 ht0 (gV wd790 wd791 wd792 wd744 wd793) rfl rfl rfl (by decide +kernel) ⟨Nat.le_of_ble_eq_true rfl, Nat.le_of_ble_eq_true rfl⟩) hK hN hP hD hSt hS hA [0, 2, 1, 3] rfl (by decide) 0 8 rfl rfl rfl hl.1 rfl (Nat.le_of_ble_eq_true rfl) dX9_wantLine_30 ⟨Nat.zero_le _, Nat.zero_le _⟩) hP hD hS hA [0, 2, 1, 3] [] rfl rfl (by decide) (by decide) [0, 2, 1, 3] (by decide) rfl rfl (fun H locs hP hD hS => ?_)
    obtain ⟨g33, hok⟩ := gd_some hok
    refine va_iast hx hb hK hP hD hS 1 0 rfl rfl (okI_in g33) dX9_wantLine_33 (fun H locs hP hD hS => ?_)
    have hP : va_P D vwCl (wX9_wantLine cy aM qM vM_30 (upd vM_fresh ((83 : Int32) + ((4 : Int32) * (vM_fresh (6 : Int32).toNatClampNeg))).toNatClampNeg r30) vM_letters_30 vM_tape) H := hP
    have hD : va_D A (wX9_wantLine cy aM qM vM_30 (upd vM_fresh ((83 : Int32) + ((4 : Int32) * (vM_fresh (6 : Int32).toNatClampNeg))).toNatClampNeg r30) vM_letters_30 vM_tape) := hD
    refine lv_aload_n hx hb dX9_wantLine_34 rfl (lv_at hl 1 rfl) ?_
    refine va_ldcS hx hb hown (hSt.2.1 _ (List.mem_of_getElem? (i := 39) rfl)) dX9_wantLine_35 ?_
    obtain ⟨⟨vM_37, vM_letters_37⟩, hc37, hok⟩ := k_bind hok
    try dsimp only at hok
    refine kCv (wc := (wX9_must cy aM qM vM_30 vM_letters_30 vM_tape)) (wc2 := (wX9_must cy aM qM vM_37 vM_letters_37 vM_tape)) (wr := [(qM 16, rI cy 224 (upd vM_fresh ((83 : Int32) + ((4 : Int32) * (vM_fresh (6 : Int32).toNatClampNeg))).toNatClampNeg r30))]) (ws2 := (wX9_wantLine cy aM qM vM_37 (upd vM_fresh ((83 : Int32) + ((4 : Int32) * (vM_fresh (6 : Int32).toNatClampNeg))).toNatClampNeg r30) vM_letters_37 vM_tape)) (kRunVS (As := [.ref (ad.1 9)]) (rest := []) ⟨hx, hb, hml, hown, ht0⟩ (kX9_must l D cy ad _ aM qM vM_30 vM_letters_30 vM_tape 9 vM_37 vM_letters_37 hc37 _ rfl) (cwV 1 ht0 (gV wd798 wd799 wd800 wd744 wd801) rfl rfl rfl (by decide +kernel) ⟨Nat.le_of_ble_eq_true rfl, Nat.le_of_ble_eq_true rfl⟩) hK hN hP hD hSt hS hA [0, 2, 3] rfl (by decide) 0 8 rfl rfl rfl hl.1 rfl (Nat.le_of_ble_eq_true rfl) dX9_wantLine_37 ⟨Nat.zero_le _, Nat.zero_le _⟩) hP hD hS hA [0, 2, 3] [1] rfl rfl (by decide) (by decide) [1, 0, 2, 3] (by decide) rfl rfl (fun H locs hP hD hS => ?_)
    refine lv_aload_n hx hb dX9_wantLine_40 rfl (lv_at hl 1 rfl) ?_
    obtain ⟨⟨r41, vM_41, vM_letters_41⟩, hc41, hok⟩ := k_bind hok
    try dsimp only at hok
    refine kCi (wc := (wX9_ringName cy aM qM vM_37 vM_letters_37 (upd vM_fresh ((83 : Int32) + ((4 : Int32) * (vM_fresh (6 : Int32).toNatClampNeg))).toNatClampNeg r30) vM_tape)) (wc2 := (wX9_ringName cy aM qM vM_41 vM_letters_41 (upd vM_fresh ((83 : Int32) + ((4 : Int32) * (vM_fresh (6 : Int32).toNatClampNeg))).toNatClampNeg r30) vM_tape)) (wr := []) (ws2 := (wX9_wantLine cy aM qM vM_41 (upd vM_fresh ((83 : Int32) + ((4 : Int32) * (vM_fresh (6 : Int32).toNatClampNeg))).toNatClampNeg r30) vM_letters_41 vM_tape)) (kRunVS (As := []) (rest := []) ⟨hx, hb, hml, hown, ht0⟩ (kX9_ringName l D cy ad _ aM qM vM_37 vM_letters_37 (upd vM_fresh ((83 : Int32) + ((4 : Int32) * (vM_fresh (6 : Int32).toNatClampNeg))).toNatClampNeg r30) vM_tape r41 vM_41 vM_letters_41 hc41 _ rfl) (cwV 0 ht0 (gV wd814 wd815 wd816 wd744 wd817) rfl rfl rfl (by decide +kernel) ⟨Nat.le_of_ble_eq_true rfl, Nat.le_of_ble_eq_true rfl⟩) hK hN hP hD hSt hS hA [0, 2, 1, 3] rfl (by decide) 0 8 rfl rfl rfl hl.1 rfl (Nat.le_of_ble_eq_true rfl) dX9_wantLine_41 ⟨Nat.zero_le _, Nat.zero_le _⟩) hP hD hS hA [0, 2, 1, 3] [] rfl rfl (by decide) (by decide) [0, 2, 1, 3] (by decide) rfl rfl (fun H locs hP hD hS => ?_)
    refine lv_istore_n (lv' := [(2, .int r41), (1, .int ((83 : Int32) + ((4 : Int32) * (vM_fresh (6 : Int32).toNatClampNeg)))), (0, .ref aM)]) hx hb dX9_wantLine_44 rfl hl (by decide) rfl (fun ls hl => ?_)
    refine lv_aload_n hx hb dX9_wantLine_45 rfl (lv_at hl 2 rfl) ?_
    refine va_ldcS hx hb hown (hSt.2.1 _ (List.mem_of_getElem? (i := 40) rfl)) dX9_wantLine_46 ?_
    obtain ⟨⟨vM_48, vM_letters_48⟩, hc48, hok⟩ := k_bind hok
    try dsimp only at hok
    refine kCv (wc := (wX9_must cy aM qM vM_41 vM_letters_41 vM_tape)) (wc2 := (wX9_must cy aM qM vM_48 vM_letters_48 vM_tape)) (wr := [(qM 16, rI cy 224 (upd vM_fresh ((83 : Int32) + ((4 : Int32) * (vM_fresh (6 : Int32).toNatClampNeg))).toNatClampNeg r30))]) (ws2 := (wX9_wantLine cy aM qM vM_48 (upd vM_fresh ((83 : Int32) + ((4 : Int32) * (vM_fresh (6 : Int32).toNatClampNeg))).toNatClampNeg r30) vM_letters_48 vM_tape)) (kRunVS (As := [.ref (ad.1 0)]) (rest := []) ⟨hx, hb, hml, hown, ht0⟩ (kX9_must l D cy ad _ aM qM vM_41 vM_letters_41 vM_tape 0 vM_48 vM_letters_48 hc48 _ rfl) (cwV 1 ht0 (gV wd798 wd799 wd800 wd744 wd801) rfl rfl rfl (by decide +kernel) ⟨Nat.le_of_ble_eq_true rfl, Nat.le_of_ble_eq_true rfl⟩) hK hN hP hD hSt hS hA [0, 2, 3] rfl (by decide) 0 8 rfl rfl rfl hl.1 rfl (Nat.le_of_ble_eq_true rfl) dX9_wantLine_48 ⟨Nat.zero_le _, Nat.zero_le _⟩) hP hD hS hA [0, 2, 3] [1] rfl rfl (by decide) (by decide) [1, 0, 2, 3] (by decide) rfl rfl (fun H locs hP hD hS => ?_)
    refine lv_aload_n hx hb dX9_wantLine_51 rfl (lv_at hl 2 rfl) ?_
    refine va_get (D := D) (ci := 8) (v := .int (vM_48 13)) (C := RX9) (T := TX9) (N := 29) hx hb ht0 niX9 hown hK hP 0 rfl rfl 13 (by decide) (ht0 _ wd757) (fun _ h9 => h9) rfl dX9_wantLine_52 ?_
    refine lv_if_eq (tgt := 59) hx hb dX9_wantLine_55 (by decide) (fun c55 => ?_) (fun c55 => ?_)
    · have hok := k_pos c55 hok
      refine lv_aload_n hx hb dX9_wantLine_59 rfl (lv_at hl 2 rfl) ?_
      refine va_get (D := D) (ci := 8) (v := .ref (qM 16)) (C := RX9) (T := TX9) (N := 29) hx hb ht0 niX9 hown hK hP 0 rfl rfl 16 (by decide) (ht0 _ wd778) (fun _ h9 => h9) rfl dX9_wantLine_60 ?_
      refine lv_iload_n hx hb dX9_wantLine_63 rfl (lv_at hl 1 rfl) ?_
      refine lv_iconst (v := 1) hx hb dX9_wantLine_64 (by decide) ?_
      refine lv_iadd hx hb dX9_wantLine_65 ?_
      refine lv_aload_n hx hb dX9_wantLine_66 rfl (lv_at hl 2 rfl) ?_
      refine lv_iload_n hx hb dX9_wantLine_67 rfl (lv_at hl 0 rfl) ?_
      obtain ⟨⟨r68, vM_68⟩, hc68, hok⟩ := k_bind hok
      try dsimp only at hok
      refine kCi (wc := (wX9_placeHere cy aM qM vM_48 (upd vM_fresh ((83 : Int32) + ((4 : Int32) * (vM_fresh (6 : Int32).toNatClampNeg))).toNatClampNeg r30))) (wc2 := (wX9_placeHere cy aM qM vM_68 (upd vM_fresh ((83 : Int32) + ((4 : Int32) * (vM_fresh (6 : Int32).toNatClampNeg))).toNatClampNeg r30))) (wr := [(qM 12, rI cy 8 vM_letters_48), (qM 1, rI cy 900 vM_tape)]) (ws2 := (wX9_wantLine cy aM qM vM_68 (upd vM_fresh ((83 : Int32) + ((4 : Int32) * (vM_fresh (6 : Int32).toNatClampNeg))).toNatClampNeg r30) vM_letters_48 vM_tape)) (kRunV (As := [.int r41]) (rest := [.int (((83 : Int32) + ((4 : Int32) * (vM_fresh (6 : Int32).toNatClampNeg))) + (1 : Int32)), .ref (qM 16)]) ⟨hx, hb, hml, hown, ht0⟩ (kX9_placeHere l D cy _ aM qM vM_48 (upd vM_fresh ((83 : Int32) + ((4 : Int32) * (vM_fresh (6 : Int32).toNatClampNeg))).toNatClampNeg r30) r41 r68 vM_68 hc68 _ rfl) (cwV 1 ht0 (gV wd818 wd819 wd820 wd744 wd821) rfl rfl rfl (by decide +kernel) ⟨Nat.le_of_ble_eq_true rfl, Nat.le_of_ble_eq_true rfl⟩) hK hN hP hD [0, 1] rfl (by decide) 0 8 rfl rfl rfl hl.1 rfl (Nat.le_of_ble_eq_true rfl) dX9_wantLine_68 ⟨Nat.zero_le _, Nat.zero_le _⟩) hP hD hS hA [0, 1] [2, 3] rfl rfl (by decide) (by decide) [2, 3, 0, 1] (by decide) rfl rfl (fun H locs hP hD hS => ?_)
      obtain ⟨g71, hok⟩ := gd_some hok
      refine va_iast hx hb hK hP hD hS 1 0 rfl rfl (okI_in g71) dX9_wantLine_71 (fun H locs hP hD hS => ?_)
      have hP : va_P D vwCl (wX9_wantLine cy aM qM vM_68 (upd (upd vM_fresh ((83 : Int32) + ((4 : Int32) * (vM_fresh (6 : Int32).toNatClampNeg))).toNatClampNeg r30) (((83 : Int32) + ((4 : Int32) * (vM_fresh (6 : Int32).toNatClampNeg))) + (1 : Int32)).toNatClampNeg r68) vM_letters_48 vM_tape) H := hP
      have hD : va_D A (wX9_wantLine cy aM qM vM_68 (upd (upd vM_fresh ((83 : Int32) + ((4 : Int32) * (vM_fresh (6 : Int32).toNatClampNeg))).toNatClampNeg r30) (((83 : Int32) + ((4 : Int32) * (vM_fresh (6 : Int32).toNatClampNeg))) + (1 : Int32)).toNatClampNeg r68) vM_letters_48 vM_tape) := hD
      refine lv_aload_n hx hb dX9_wantLine_72 rfl (lv_at hl 2 rfl) ?_
      refine va_get (D := D) (ci := 8) (v := .int (vM_68 13)) (C := RX9) (T := TX9) (N := 29) hx hb ht0 niX9 hown hK hP 0 rfl rfl 13 (by decide) (ht0 _ wd757) (fun _ h9 => h9) rfl dX9_wantLine_73 ?_
      refine lv_if_eq (tgt := 80) hx hb dX9_wantLine_76 (by decide) (fun c76 => ?_) (fun c76 => ?_)
      · have hok := k_pos c76 hok
        refine lv_aload_n hx hb dX9_wantLine_80 rfl (lv_at hl 2 rfl) ?_
        obtain ⟨⟨vM_81, vM_letters_81⟩, hc81, hok⟩ := k_bind hok
        try dsimp only at hok
        refine kCv (wc := (wX9_next cy aM qM vM_68 vM_tape vM_letters_48)) (wc2 := (wX9_next cy aM qM vM_81 vM_tape vM_letters_81)) (wr := [(qM 16, rI cy 224 (upd (upd vM_fresh ((83 : Int32) + ((4 : Int32) * (vM_fresh (6 : Int32).toNatClampNeg))).toNatClampNeg r30) (((83 : Int32) + ((4 : Int32) * (vM_fresh (6 : Int32).toNatClampNeg))) + (1 : Int32)).toNatClampNeg r68))]) (ws2 := (wX9_wantLine cy aM qM vM_81 (upd (upd vM_fresh ((83 : Int32) + ((4 : Int32) * (vM_fresh (6 : Int32).toNatClampNeg))).toNatClampNeg r30) (((83 : Int32) + ((4 : Int32) * (vM_fresh (6 : Int32).toNatClampNeg))) + (1 : Int32)).toNatClampNeg r68) vM_letters_81 vM_tape)) (kRunV (As := []) (rest := []) ⟨hx, hb, hml, hown, ht0⟩ (kX9_next l D cy _ aM qM vM_68 vM_tape vM_letters_48 vM_81 vM_letters_81 hc81 _ rfl) (cwV 0 ht0 (gV wd766 wd767 wd768 wd744 wd769) rfl rfl rfl (by decide +kernel) ⟨Nat.le_of_ble_eq_true rfl, Nat.le_of_ble_eq_true rfl⟩) hK hN hP hD [0, 3, 2] rfl (by decide) 0 8 rfl rfl rfl hl.1 rfl (Nat.le_of_ble_eq_true rfl) dX9_wantLine_81 ⟨Nat.zero_le _, Nat.zero_le _⟩) hP hD hS hA [0, 3, 2] [1] rfl rfl (by decide) (by decide) [1, 0, 3, 2] (by decide) rfl rfl (fun H locs hP hD hS => ?_)
        refine lv_aload_n hx hb dX9_wantLine_84 rfl (lv_at hl 2 rfl) ?_
        refine va_get (D := D) (ci := 8) (v := .ref (qM 16)) (C := RX9) (T := TX9) (N := 29) hx hb ht0 niX9 hown hK hP 0 rfl rfl 16 (by decide) (ht0 _ wd778) (fun _ h9 => h9) rfl dX9_wantLine_85 ?_
        refine lv_iload_n hx hb dX9_wantLine_88 rfl (lv_at hl 1 rfl) ?_
        refine lv_iconst (v := 2) hx hb dX9_wantLine_89 (by decide) ?_
        refine lv_iadd hx hb dX9_wantLine_90 ?_
        refine lv_aload_n hx hb dX9_wantLine_91 rfl (lv_at hl 2 rfl) ?_
        refine va_ldcS hx hb hown (hSt.2.1 _ (List.mem_of_getElem? (i := 42) rfl)) dX9_wantLine_92 ?_
        refine lv_iconst (v := 1) hx hb dX9_wantLine_94 (by decide) ?_
        refine lv_bipush (v := 60) hx hb dX9_wantLine_95 (by decide) ?_
        obtain ⟨⟨r97, vM_97, vM_letters_97⟩, hc97, hok⟩ := k_bind hok
        try dsimp only at hok
        refine kCi (wc := (wX9_after cy aM qM vM_81 vM_letters_81 vM_tape)) (wc2 := (wX9_after cy aM qM vM_97 vM_letters_97 vM_tape)) (wr := [(qM 16, rI cy 224 (upd (upd vM_fresh ((83 : Int32) + ((4 : Int32) * (vM_fresh (6 : Int32).toNatClampNeg))).toNatClampNeg r30) (((83 : Int32) + ((4 : Int32) * (vM_fresh (6 : Int32).toNatClampNeg))) + (1 : Int32)).toNatClampNeg r68))]) (ws2 := (wX9_wantLine cy aM qM vM_97 (upd (upd vM_fresh ((83 : Int32) + ((4 : Int32) * (vM_fresh (6 : Int32).toNatClampNeg))).toNatClampNeg r30) (((83 : Int32) + ((4 : Int32) * (vM_fresh (6 : Int32).toNatClampNeg))) + (1 : Int32)).toNatClampNeg r68) vM_letters_97 vM_tape)) (kRunVS (As := [.ref (ad.1 12), .int 1, .int 60]) (rest := [.int (((83 : Int32) + ((4 : Int32) * (vM_fresh (6 : Int32).toNatClampNeg))) + (2 : Int32)), .ref (qM 16)]) ⟨hx, hb, hml, hown, ht0⟩ (kX9_after l D cy ad _ aM qM vM_81 vM_letters_81 vM_tape 12 (1 : Int32) (60 : Int32) r97 vM_97 vM_letters_97 hc97 _ rfl) (cwV 3 ht0 (gV wd806 wd807 wd808 wd744 wd809) rfl rfl rfl (by decide +kernel) ⟨Nat.le_of_ble_eq_true rfl, Nat.le_of_ble_eq_true rfl⟩) hK hN hP hD hSt hS hA [0, 2, 3] rfl (by decide) 0 8 rfl rfl rfl hl.1 rfl (Nat.le_of_ble_eq_true rfl) dX9_wantLine_97 ⟨Nat.zero_le _, Nat.zero_le _⟩) hP hD hS hA [0, 2, 3] [1] rfl rfl (by decide) (by decide) [1, 0, 2, 3] (by decide) rfl rfl (fun H locs hP hD hS => ?_)
        obtain ⟨g100, hok⟩ := gd_some hok
        refine va_iast hx hb hK hP hD hS 1 0 rfl rfl (okI_in g100) dX9_wantLine_100 (fun H locs hP hD hS => ?_)
        have hP : va_P D vwCl (wX9_wantLine cy aM qM vM_97 (upd (upd (upd vM_fresh ((83 : Int32) + ((4 : Int32) * (vM_fresh (6 : Int32).toNatClampNeg))).toNatClampNeg r30) (((83 : Int32) + ((4 : Int32) * (vM_fresh (6 : Int32).toNatClampNeg))) + (1 : Int32)).toNatClampNeg r68) (((83 : Int32) + ((4 : Int32) * (vM_fresh (6 : Int32).toNatClampNeg))) + (2 : Int32)).toNatClampNeg r97) vM_letters_97 vM_tape) H := hP
        have hD : va_D A (wX9_wantLine cy aM qM vM_97 (upd (upd (upd vM_fresh ((83 : Int32) + ((4 : Int32) * (vM_fresh (6 : Int32).toNatClampNeg))).toNatClampNeg r30) (((83 : Int32) + ((4 : Int32) * (vM_fresh (6 : Int32).toNatClampNeg))) + (1 : Int32)).toNatClampNeg r68) (((83 : Int32) + ((4 : Int32) * (vM_fresh (6 : Int32).toNatClampNeg))) + (2 : Int32)).toNatClampNeg r97) vM_letters_97 vM_tape) := hD
        refine lv_aload_n hx hb dX9_wantLine_101 rfl (lv_at hl 2 rfl) ?_
        refine va_get (D := D) (ci := 8) (v := .ref (qM 16)) (C := RX9) (T := TX9) (N := 29) hx hb ht0 niX9 hown hK hP 0 rfl rfl 16 (by decide) (ht0 _ wd778) (fun _ h9 => h9) rfl dX9_wantLine_102 ?_
        refine lv_iload_n hx hb dX9_wantLine_105 rfl (lv_at hl 1 rfl) ?_
        refine lv_iconst (v := 3) hx hb dX9_wantLine_106 (by decide) ?_
        refine lv_iadd hx hb dX9_wantLine_107 ?_
        refine lv_aload_n hx hb dX9_wantLine_108 rfl (lv_at hl 2 rfl) ?_
        refine va_ldcS hx hb hown (hSt.2.1 _ (List.mem_of_getElem? (i := 43) rfl)) dX9_wantLine_109 ?_
        refine lv_iconst (v := 1) hx hb dX9_wantLine_111 (by decide) ?_
        refine lv_bipush (v := 99) hx hb dX9_wantLine_112 (by decide) ?_
        obtain ⟨⟨r114, vM_114, vM_letters_114⟩, hc114, hok⟩ := k_bind hok
        try dsimp only at hok
        refine kCi (wc := (wX9_after cy aM qM vM_97 vM_letters_97 vM_tape)) (wc2 := (wX9_after cy aM qM vM_114 vM_letters_114 vM_tape)) (wr := [(qM 16, rI cy 224 (upd (upd (upd vM_fresh ((83 : Int32) + ((4 : Int32) * (vM_fresh (6 : Int32).toNatClampNeg))).toNatClampNeg r30) (((83 : Int32) + ((4 : Int32) * (vM_fresh (6 : Int32).toNatClampNeg))) + (1 : Int32)).toNatClampNeg r68) (((83 : Int32) + ((4 : Int32) * (vM_fresh (6 : Int32).toNatClampNeg))) + (2 : Int32)).toNatClampNeg r97))]) (ws2 := (wX9_wantLine cy aM qM vM_114 (upd (upd (upd vM_fresh ((83 : Int32) + ((4 : Int32) * (vM_fresh (6 : Int32).toNatClampNeg))).toNatClampNeg r30) (((83 : Int32) + ((4 : Int32) * (vM_fresh (6 : Int32).toNatClampNeg))) + (1 : Int32)).toNatClampNeg r68) (((83 : Int32) + ((4 : Int32) * (vM_fresh (6 : Int32).toNatClampNeg))) + (2 : Int32)).toNatClampNeg r97) vM_letters_114 vM_tape)) (kRunVS (As := [.ref (ad.1 13), .int 1, .int 99]) (rest := [.int (((83 : Int32) + ((4 : Int32) * (vM_fresh (6 : Int32).toNatClampNeg))) + (3 : Int32)), .ref (qM 16)]) ⟨hx, hb, hml, hown, ht0⟩ (kX9_after l D cy ad _ aM qM vM_97 vM_letters_97 vM_tape 13 (1 : Int32) (99 : Int32) r114 vM_114 vM_letters_114 hc114 _ rfl) (cwV 3 ht0 (gV wd806 wd807 wd808 wd744 wd809) rfl rfl rfl (by decide +kernel) ⟨Nat.le_of_ble_eq_true rfl, Nat.le_of_ble_eq_true rfl⟩) hK hN hP hD hSt hS hA [0, 2, 3] rfl (by decide) 0 8 rfl rfl rfl hl.1 rfl (Nat.le_of_ble_eq_true rfl) dX9_wantLine_114 ⟨Nat.zero_le _, Nat.zero_le _⟩) hP hD hS hA [0, 2, 3] [1] rfl rfl (by decide) (by decide) [1, 0, 2, 3] (by decide) rfl rfl (fun H locs hP hD hS => ?_)
        obtain ⟨g117, hok⟩ := gd_some hok
        refine va_iast hx hb hK hP hD hS 1 0 rfl rfl (okI_in g117) dX9_wantLine_117 (fun H locs hP hD hS => ?_)
        have hP : va_P D vwCl (wX9_wantLine cy aM qM vM_114 (upd (upd (upd (upd vM_fresh ((83 : Int32) + ((4 : Int32) * (vM_fresh (6 : Int32).toNatClampNeg))).toNatClampNeg r30) (((83 : Int32) + ((4 : Int32) * (vM_fresh (6 : Int32).toNatClampNeg))) + (1 : Int32)).toNatClampNeg r68) (((83 : Int32) + ((4 : Int32) * (vM_fresh (6 : Int32).toNatClampNeg))) + (2 : Int32)).toNatClampNeg r97) (((83 : Int32) + ((4 : Int32) * (vM_fresh (6 : Int32).toNatClampNeg))) + (3 : Int32)).toNatClampNeg r114) vM_letters_114 vM_tape) H := hP
        have hD : va_D A (wX9_wantLine cy aM qM vM_114 (upd (upd (upd (upd vM_fresh ((83 : Int32) + ((4 : Int32) * (vM_fresh (6 : Int32).toNatClampNeg))).toNatClampNeg r30) (((83 : Int32) + ((4 : Int32) * (vM_fresh (6 : Int32).toNatClampNeg))) + (1 : Int32)).toNatClampNeg r68) (((83 : Int32) + ((4 : Int32) * (vM_fresh (6 : Int32).toNatClampNeg))) + (2 : Int32)).toNatClampNeg r97) (((83 : Int32) + ((4 : Int32) * (vM_fresh (6 : Int32).toNatClampNeg))) + (3 : Int32)).toNatClampNeg r114) vM_letters_114 vM_tape) := hD
        refine lv_aload_n hx hb dX9_wantLine_118 rfl (lv_at hl 2 rfl) ?_
        refine va_get (D := D) (ci := 8) (v := .int (vM_114 13)) (C := RX9) (T := TX9) (N := 29) hx hb ht0 niX9 hown hK hP 0 rfl rfl 13 (by decide) (ht0 _ wd757) (fun _ h9 => h9) rfl dX9_wantLine_119 ?_
        refine lv_if_ne (tgt := 136) hx hb dX9_wantLine_122 (by decide) (fun c122 => ?_) (fun c122 => ?_)
        · have hok := k_neg c122 hok
          exact J136 (upd (upd (upd (upd vM_fresh ((83 : Int32) + ((4 : Int32) * (vM_fresh (6 : Int32).toNatClampNeg))).toNatClampNeg r30) (((83 : Int32) + ((4 : Int32) * (vM_fresh (6 : Int32).toNatClampNeg))) + (1 : Int32)).toNatClampNeg r68) (((83 : Int32) + ((4 : Int32) * (vM_fresh (6 : Int32).toNatClampNeg))) + (2 : Int32)).toNatClampNeg r97) (((83 : Int32) + ((4 : Int32) * (vM_fresh (6 : Int32).toNatClampNeg))) + (3 : Int32)).toNatClampNeg r114) vM_letters_114 vM_114 H locs ls hP hD hS (lv_sub hl [] rfl) hok
        · have hok := k_pos c122 hok
          refine lv_aload_n hx hb dX9_wantLine_125 rfl (lv_at hl 2 rfl) ?_
          refine va_get (D := D) (ci := 8) (v := .ref (qM 16)) (C := RX9) (T := TX9) (N := 29) hx hb ht0 niX9 hown hK hP 0 rfl rfl 16 (by decide) (ht0 _ wd778) (fun _ h9 => h9) rfl dX9_wantLine_126 ?_
          refine lv_bipush (v := 6) hx hb dX9_wantLine_129 (by decide) ?_
          refine lv_dup2_11 hx hb dX9_wantLine_131 rfl rfl ?_
          obtain ⟨g132, hok⟩ := gd_some hok
          refine va_iald hx hb hK hP 1 0 rfl rfl (okI_in g132) dX9_wantLine_132 ?_
          refine lv_iconst (v := 1) hx hb dX9_wantLine_133 (by decide) ?_
          refine lv_iadd hx hb dX9_wantLine_134 ?_
          obtain ⟨g135, hok⟩ := gd_some hok
          refine va_iast hx hb hK hP hD hS 1 0 rfl rfl (okI_in g135) dX9_wantLine_135 (fun H locs hP hD hS => ?_)
          have hP : va_P D vwCl (wX9_wantLine cy aM qM vM_114 (upd (upd (upd (upd (upd vM_fresh ((83 : Int32) + ((4 : Int32) * (vM_fresh (6 : Int32).toNatClampNeg))).toNatClampNeg r30) (((83 : Int32) + ((4 : Int32) * (vM_fresh (6 : Int32).toNatClampNeg))) + (1 : Int32)).toNatClampNeg r68) (((83 : Int32) + ((4 : Int32) * (vM_fresh (6 : Int32).toNatClampNeg))) + (2 : Int32)).toNatClampNeg r97) (((83 : Int32) + ((4 : Int32) * (vM_fresh (6 : Int32).toNatClampNeg))) + (3 : Int32)).toNatClampNeg r114) (6 : Int32).toNatClampNeg (((upd (upd (upd (upd vM_fresh ((83 : Int32) + ((4 : Int32) * (vM_fresh (6 : Int32).toNatClampNeg))).toNatClampNeg r30) (((83 : Int32) + ((4 : Int32) * (vM_fresh (6 : Int32).toNatClampNeg))) + (1 : Int32)).toNatClampNeg r68) (((83 : Int32) + ((4 : Int32) * (vM_fresh (6 : Int32).toNatClampNeg))) + (2 : Int32)).toNatClampNeg r97) (((83 : Int32) + ((4 : Int32) * (vM_fresh (6 : Int32).toNatClampNeg))) + (3 : Int32)).toNatClampNeg r114) (6 : Int32).toNatClampNeg) + (1 : Int32))) vM_letters_114 vM_tape) H := hP
          have hD : va_D A (wX9_wantLine cy aM qM vM_114 (upd (upd (upd (upd (upd vM_fresh ((83 : Int32) + ((4 : Int32) * (vM_fresh (6 : Int32).toNatClampNeg))).toNatClampNeg r30) (((83 : Int32) + ((4 : Int32) * (vM_fresh (6 : Int32).toNatClampNeg))) + (1 : Int32)).toNatClampNeg r68) (((83 : Int32) + ((4 : Int32) * (vM_fresh (6 : Int32).toNatClampNeg))) + (2 : Int32)).toNatClampNeg r97) (((83 : Int32) + ((4 : Int32) * (vM_fresh (6 : Int32).toNatClampNeg))) + (3 : Int32)).toNatClampNeg r114) (6 : Int32).toNatClampNeg (((upd (upd (upd (upd vM_fresh ((83 : Int32) + ((4 : Int32) * (vM_fresh (6 : Int32).toNatClampNeg))).toNatClampNeg r30) (((83 : Int32) + ((4 : Int32) * (vM_fresh (6 : Int32).toNatClampNeg))) + (1 : Int32)).toNatClampNeg r68) (((83 : Int32) + ((4 : Int32) * (vM_fresh (6 : Int32).toNatClampNeg))) + (2 : Int32)).toNatClampNeg r97) (((83 : Int32) + ((4 : Int32) * (vM_fresh (6 : Int32).toNatClampNeg))) + (3 : Int32)).toNatClampNeg r114) (6 : Int32).toNatClampNeg) + (1 : Int32))) vM_letters_114 vM_tape) := hD
          exact J136 (upd (upd (upd (upd (upd vM_fresh ((83 : Int32) + ((4 : Int32) * (vM_fresh (6 : Int32).toNatClampNeg))).toNatClampNeg r30) (((83 : Int32) + ((4 : Int32) * (vM_fresh (6 : Int32).toNatClampNeg))) + (1 : Int32)).toNatClampNeg r68) (((83 : Int32) + ((4 : Int32) * (vM_fresh (6 : Int32).toNatClampNeg))) + (2 : Int32)).toNatClampNeg r97) (((83 : Int32) + ((4 : Int32) * (vM_fresh (6 : Int32).toNatClampNeg))) + (3 : Int32)).toNatClampNeg r114) (6 : Int32).toNatClampNeg (((upd (upd (upd (upd vM_fresh ((83 : Int32) + ((4 : Int32) * (vM_fresh (6 : Int32).toNatClampNeg))).toNatClampNeg r30) (((83 : Int32) + ((4 : Int32) * (vM_fresh (6 : Int32).toNatClampNeg))) + (1 : Int32)).toNatClampNeg r68) (((83 : Int32) + ((4 : Int32) * (vM_fresh (6 : Int32).toNatClampNeg))) + (2 : Int32)).toNatClampNeg r97) (((83 : Int32) + ((4 : Int32) * (vM_fresh (6 : Int32).toNatClampNeg))) + (3 : Int32)).toNatClampNeg r114) (6 : Int32).toNatClampNeg) + (1 : Int32))) vM_letters_114 vM_114 H locs ls hP hD hS (lv_sub hl [] rfl) hok
      · have hok := k_neg c76 hok
        cases hok
        subst hQe; exact W.vret hx hb hr (fun t ht hW => ⟨⟨(), rfl, trivial, by rw [ht]; exact hP, va_K.moved hW.alike hK, hD⟩, hS.F ht⟩) hS.2.2 dX9_wantLine_79
    · have hok := k_neg c55 hok
      cases hok
      subst hQe; exact W.vret hx hb hr (fun t ht hW => ⟨⟨(), rfl, trivial, by rw [ht]; exact hP, va_K.moved hW.alike hK, hD⟩, hS.F ht⟩) hS.2.2 dX9_wantLine_58
  · have hok := k_neg c4 hok
    cases hok
    subst hQe; exact W.vret hx hb hr (fun t ht hW => ⟨⟨(), rfl, trivial, by rw [ht]; exact hP, va_K.moved hW.alike hK, hD⟩, hS.F ht⟩) hS.2.2 dX9_wantLine_7
def wsX9_boxLine : List Cond := .code yX9_boxLine cX9_boxLine 5 none :: W0
abbrev wX9_boxLine (cy : Nat → ClassId) (aM : Nat) (qM : Nat → Nat) (vM : Nat → Int32) (vM_fresh : Nat → Int32) (vM_tape : Nat → Int32) (vM_letters : Nat → Int32) : va_W := [(aM, oX9 vM qM), (qM 16, rI cy 224 vM_fresh), (qM 1, rI cy 900 vM_tape), (qM 12, rI cy 8 vM_letters)]
set_option maxHeartbeats 4000000 in
set_option maxRecDepth 100000 in
theorem kX9_boxLine (l : Launch) (D : va_G) (cy : Nat → ClassId) (ad : (Nat → Nat) × (Nat → Nat)) (sz : Nat) (aM : Nat) (qM : Nat → Nat) (vM : Nat → Int32) (vM_fresh : Nat → Int32) (vM_tape : Nat → Int32) (vM_letters : Nat → Int32) (x1 : Int32) (z_vM : Nat → Int32) (z_vM_fresh : Nat → Int32) (z_vM_letters : Nat → Int32) (hok : fX9_boxLine vM vM_fresh vM_tape vM_letters x1 = some (z_vM, z_vM_fresh, z_vM_letters)) (A : Nat → Prop) (hAe : va_A (wX9_boxLine cy aM qM vM vM_fresh vM_tape vM_letters) sz = A) : Met l yX9_boxLine wsX9_boxLine ({ frames := 8, cells := 0, slots := 0, locals := 173 } : Room) (kPreS D cy ad [.ref aM, .int x1] (wX9_boxLine cy aM qM vM vM_fresh vM_tape vM_letters) sz A) (kQv D cy A (wX9_boxLine cy aM qM z_vM z_vM_fresh vM_tape z_vM_letters)) 0 0 A := by
  refine Met.ofW (cc := cX9_boxLine) (maxL := 5) (ret := none) (by decide) rfl ?_
  intro p e s m args below meth c s₁ B hml hv
  obtain ⟨rfl, ⟨hsz, hP, hK, hD0, hN⟩, hSt⟩ := hv
  have hx := B.exec
  have hb := B.bytes
  have hr := B.returns
  have ht0 : ∀ w ∈ W0, w.before _ s = true := fun w h => atoms_spec (ws := wsX9_boxLine) B.pre w (List.mem_cons_of_mem _ h)
  have hown : s.vm.findClass RX9 = some m.cls := findClass_of_methodNamed B.named
  have hlocks := B.notSynchronized
  subst hsz
  have hD : va_D A (wX9_boxLine cy aM qM vM vM_fresh vM_tape vM_letters) := by rw [← hAe]; exact hD0.self
  have hA : ∀ q : Nat, s.heap.size ≤ q → A q := fun q h => by rw [← hAe]; exact Or.inr h
  have hS : va_S A s.heap s.heap [] := va_S.rf
  have hl := lv_entry ([.ref aM, .int x1]) (n := 5) (Nat.le_of_ble_eq_true rfl)
  rw [lg_entry_eq]
  generalize (lg_sl ([.ref aM, .int x1]) ++ List.replicate (5 - (lg_sl ([.ref aM, .int x1])).length) Slot.unset).toArray = ls at hl ⊢
  have hl : lv_has ls 5 [(0, .ref aM), (1, .int x1)] := hl
  generalize hQe : MQ below (kQv D cy A (wX9_boxLine cy aM qM z_vM z_vM_fresh vM_tape z_vM_letters)) ([.ref aM, .int x1] : List Value).toArray s 0 0 A = Q
  have J145 : ∀ (vM_fresh_145 : Nat → Int32) (vM_letters_145 : Nat → Int32) (vM_145 : Nat → Int32), ∀ (H : Heap) (locs : List Loc) (ls : Array Slot), va_P D vwCl (wX9_boxLine cy aM qM vM_145 vM_fresh_145 vM_tape vM_letters_145) H → va_D A (wX9_boxLine cy aM qM vM_145 vM_fresh_145 vM_tape vM_letters_145) → va_S A s.heap H locs → lv_has ls 5 [] → fX9_boxLine_J145 vM_fresh_145 vM_letters_145 vM_145 = some (z_vM, z_vM_fresh, z_vM_letters) → W p l e ({ frames := 8, cells := 0, slots := 0, locals := 173 } : Room) s m ([.ref aM, .int x1] : List Value).toArray below meth c H locs 0 0 Q (F0 m 145 ls []) := by
    intro vM_fresh_145 vM_letters_145 vM_145 H locs ls hP hD hS hl hok
    unfold fX9_boxLine_J145 at hok
    cases hok
    subst hQe; exact W.vret hx hb hr (fun t ht hW => ⟨⟨(), rfl, trivial, by rw [ht]; exact hP, va_K.moved hW.alike hK, hD⟩, hS.F ht⟩) hS.2.2 dX9_boxLine_145
  have L32 : ∀ (fuel : Nat) (y3_32 : Int32) (y4_32 : Int32) (vM_32 : Nat → Int32), ∀ (H : Heap) (locs : List Loc) (ls : Array Slot), va_P D vwCl (wX9_boxLine cy aM qM vM_32 vM_fresh vM_tape vM_letters) H → va_D A (wX9_boxLine cy aM qM vM_32 vM_fresh vM_tape vM_letters) → va_S A s.heap H locs → lv_has ls 5 [(0, .ref aM), (1, .int x1), (2, .int ((107 : Int32) + ((3 : Int32) * (vM_fresh (7 : Int32).toNatClampNeg)))), (3, .int y3_32), (4, .int y4_32)] → lp (fX9_boxLine_B32 vM_fresh vM_tape vM_letters x1) fuel (y3_32, y4_32, vM_32) = some (z_vM, z_vM_fresh, z_vM_letters) → W p l e ({ frames := 8, cells := 0, slots := 0, locals := 173 } : Room) s m ([.ref aM, .int x1] : List Value).toArray below meth c H locs 0 0 Q (F0 m 32 ls []) := by
    intro fuel
    induction fuel with
    | zero => intro y3_32 y4_32 vM_32 H locs ls hP hD hS hl hok; exact (lp_0 hok).elim
    | succ fuel ih32 =>
      intro y3_32 y4_32 vM_32 H locs ls hP hD hS hl hok
      obtain ⟨y32, hok, hL32, hR32⟩ := lp_step hok
      have J76 : ∀ (vM_76 : Nat → Int32), ∀ (H : Heap) (locs : List Loc) (ls : Array Slot), va_P D vwCl (wX9_boxLine cy aM qM vM_76 vM_fresh vM_tape vM_letters) H → va_D A (wX9_boxLine cy aM qM vM_76 vM_fresh vM_tape vM_letters) → va_S A s.heap H locs → lv_has ls 5 [(0, .ref aM), (1, .int x1), (2, .int ((107 : Int32) + ((3 : Int32) * (vM_fresh (7 : Int32).toNatClampNeg)))), (3, .int y3_32), (4, .int y4_32)] → fX9_boxLine_J76 y3_32 y4_32 vM_76 = some y32 → W p l e ({ frames := 8, cells := 0, slots := 0, locals := 173 } : Room) s m ([.ref aM, .int x1] : List Value).toArray below meth c H locs 0 0 Q (F0 m 76 ls []) := by
        intro vM_76 H locs ls hP hD hS hl hok
        unfold fX9_boxLine_J76 at hok
        refine lv_iinc (v := (y4_32 + 1)) (lv' := [(4, .int (y4_32 + 1)), (0, .ref aM), (1, .int x1), (2, .int ((107 : Int32) + ((3 : Int32) * (vM_fresh (7 : Int32).toNatClampNeg)))), (3, .int y3_32)]) hx hb dX9_boxLine_76 hl (k := 4) rfl (by first | rfl | decide) (by decide) rfl (fun ls hl => ?_)
        refine lv_goto (tgt := 32) hx hb dX9_boxLine_79 (by decide) ?_
        exact ih32 y3_32 (y4_32 + 1) vM_76 H locs ls hP hD hS (lv_sub hl [1, 2, 3, 4, 0] rfl) (hR32 _ (Option.some.inj hok).symm)
      unfold fX9_boxLine_B32 at hok
      try dsimp only at hok
      refine lv_iload hx hb dX9_boxLine_32 (lv_at hl 4 rfl) ?_
      refine lv_aload_n hx hb dX9_boxLine_34 rfl (lv_at hl 0 rfl) ?_
      refine va_get (D := D) (ci := 8) (v := .ref (qM 16)) (C := RX9) (T := TX9) (N := 29) hx hb ht0 niX9 hown hK hP 0 rfl rfl 16 (by decide) (ht0 _ wd778) (fun _ h9 => h9) rfl dX9_boxLine_35 ?_
      refine lv_bipush (v := 7) hx hb dX9_boxLine_38 (by decide) ?_
      obtain ⟨g40, hok⟩ := gd_some hok
      refine va_iald hx hb hK hP 1 0 rfl rfl (okI_in g40) dX9_boxLine_40 ?_
      refine lv_icmp_ge (tgt := 82) hx hb dX9_boxLine_41 (by decide) (fun c41 => ?_) (fun c41 => ?_)
      · have hok := k_pos c41 hok
        obtain ⟨e32, hok, he32⟩ := ex_some hok
        have hok := hok.trans (congrArg some (hL32 _ he32))
        refine lv_aload_n hx hb dX9_boxLine_82 rfl (lv_at hl 0 rfl) ?_
        refine va_get (D := D) (ci := 8) (v := .int (vM_32 13)) (C := RX9) (T := TX9) (N := 29) hx hb ht0 niX9 hown hK hP 0 rfl rfl 13 (by decide) (ht0 _ wd757) (fun _ h9 => h9) rfl dX9_boxLine_83 ?_
        refine lv_if_eq (tgt := 90) hx hb dX9_boxLine_86 (by decide) (fun c86 => ?_) (fun c86 => ?_)
        · have hok := k_pos c86 hok
          refine lv_aload_n hx hb dX9_boxLine_90 rfl (lv_at hl 0 rfl) ?_
          obtain ⟨⟨vM_91, vM_letters_91⟩, hc91, hok⟩ := k_bind hok
          try dsimp only at hok
          refine kCv (wc := (wX9_next cy aM qM vM_32 vM_tape vM_letters)) (wc2 := (wX9_next cy aM qM vM_91 vM_tape vM_letters_91)) (wr := [(qM 16, rI cy 224 vM_fresh)]) (ws2 := (wX9_boxLine cy aM qM vM_91 vM_fresh vM_tape vM_letters_91)) (kRunV (As := []) (rest := []) ⟨hx, hb, hml, hown, ht0⟩ (kX9_next l D cy _ aM qM vM_32 vM_tape vM_letters vM_91 vM_letters_91 hc91 _ rfl) (cwV 0 ht0 (gV wd766 wd767 wd768 wd744 wd769) rfl rfl rfl (by decide +kernel) ⟨Nat.le_of_ble_eq_true rfl, Nat.le_of_ble_eq_true rfl⟩) hK hN hP hD [0, 2, 3] rfl (by decide) 0 8 rfl rfl rfl hl.1 rfl (Nat.le_of_ble_eq_true rfl) dX9_boxLine_91 ⟨Nat.zero_le _, Nat.zero_le _⟩) hP hD hS hA [0, 2, 3] [1] rfl rfl (by decide) (by decide) [1, 0, 2, 3] (by decide) rfl rfl (fun H locs hP hD hS => ?_)
          refine lv_aload_n hx hb dX9_boxLine_94 rfl (lv_at hl 0 rfl) ?_
          refine va_get (D := D) (ci := 8) (v := .ref (qM 16)) (C := RX9) (T := TX9) (N := 29) hx hb ht0 niX9 hown hK hP 0 rfl rfl 16 (by decide) (ht0 _ wd778) (fun _ h9 => h9) rfl dX9_boxLine_95 ?_
          refine lv_iload_n hx hb dX9_boxLine_98 rfl (lv_at hl 2 rfl) ?_
          refine lv_iload_n hx hb dX9_boxLine_99 rfl (lv_at hl 3 rfl) ?_
          obtain ⟨g100, hok⟩ := gd_some hok
          refine va_iast hx hb hK hP hD hS 1 0 rfl rfl (okI_in g100) dX9_boxLine_100 (fun H locs hP hD hS => ?_)
          have hP : va_P D vwCl (wX9_boxLine cy aM qM vM_91 (upd vM_fresh ((107 : Int32) + ((3 : Int32) * (vM_fresh (7 : Int32).toNatClampNeg))).toNatClampNeg y3_32) vM_tape vM_letters_91) H := hP
          have hD : va_D A (wX9_boxLine cy aM qM vM_91 (upd vM_fresh ((107 : Int32) + ((3 : Int32) * (vM_fresh (7 : Int32).toNatClampNeg))).toNatClampNeg y3_32) vM_tape vM_letters_91) := hD
          refine lv_aload_n hx hb dX9_boxLine_101 rfl (lv_at hl 0 rfl) ?_
          refine va_get (D := D) (ci := 8) (v := .ref (qM 16)) (C := RX9) (T := TX9) (N := 29) hx hb ht0 niX9 hown hK hP 0 rfl rfl 16 (by decide) (ht0 _ wd778) (fun _ h9 => h9) rfl dX9_boxLine_102 ?_
          refine lv_iload_n hx hb dX9_boxLine_105 rfl (lv_at hl 2 rfl) ?_
          refine lv_iconst (v := 1) hx hb dX9_boxLine_106 (by decide) ?_
          refine lv_iadd hx hb dX9_boxLine_107 ?_
          refine lv_aload_n hx hb dX9_boxLine_108 rfl (lv_at hl 0 rfl) ?_
          refine va_ldcS hx hb hown (hSt.2.1 _ (List.mem_of_getElem? (i := 40) rfl)) dX9_boxLine_109 ?_
          refine lv_iconst (v := 0) hx hb dX9_boxLine_111 (by decide) ?_
          refine lv_bipush (v := 11) hx hb dX9_boxLine_112 (by decide) ?_
          obtain ⟨⟨r114, vM_114, vM_letters_114⟩, hc114, hok⟩ := k_bind hok
          try dsimp only at hok
          refine kCi (wc := (wX9_after cy aM qM vM_91 vM_letters_91 vM_tape)) (wc2 := (wX9_after cy aM qM vM_114 vM_letters_114 vM_tape)) (wr := [(qM 16, rI cy 224 (upd vM_fresh ((107 : Int32) + ((3 : Int32) * (vM_fresh (7 : Int32).toNatClampNeg))).toNatClampNeg y3_32))]) (ws2 := (wX9_boxLine cy aM qM vM_114 (upd vM_fresh ((107 : Int32) + ((3 : Int32) * (vM_fresh (7 : Int32).toNatClampNeg))).toNatClampNeg y3_32) vM_tape vM_letters_114)) (kRunVS (As := [.ref (ad.1 0), .int 0, .int 11]) (rest := [.int (((107 : Int32) + ((3 : Int32) * (vM_fresh (7 : Int32).toNatClampNeg))) + (1 : Int32)), .ref (qM 16)]) ⟨hx, hb, hml, hown, ht0⟩ (kX9_after l D cy ad _ aM qM vM_91 vM_letters_91 vM_tape 0 (0 : Int32) (11 : Int32) r114 vM_114 vM_letters_114 hc114 _ rfl) (cwV 3 ht0 (gV wd806 wd807 wd808 wd744 wd809) rfl rfl rfl (by decide +kernel) ⟨Nat.le_of_ble_eq_true rfl, Nat.le_of_ble_eq_true rfl⟩) hK hN hP hD hSt hS hA [0, 3, 2] rfl (by decide) 0 8 rfl rfl rfl hl.1 rfl (Nat.le_of_ble_eq_true rfl) dX9_boxLine_114 ⟨Nat.zero_le _, Nat.zero_le _⟩) hP hD hS hA [0, 3, 2] [1] rfl rfl (by decide) (by decide) [1, 0, 3, 2] (by decide) rfl rfl (fun H locs hP hD hS => ?_)
          obtain ⟨g117, hok⟩ := gd_some hok
          refine va_iast hx hb hK hP hD hS 1 0 rfl rfl (okI_in g117) dX9_boxLine_117 (fun H locs hP hD hS => ?_)
          have hP : va_P D vwCl (wX9_boxLine cy aM qM vM_114 (upd (upd vM_fresh ((107 : Int32) + ((3 : Int32) * (vM_fresh (7 : Int32).toNatClampNeg))).toNatClampNeg y3_32) (((107 : Int32) + ((3 : Int32) * (vM_fresh (7 : Int32).toNatClampNeg))) + (1 : Int32)).toNatClampNeg r114) vM_tape vM_letters_114) H := hP
          have hD : va_D A (wX9_boxLine cy aM qM vM_114 (upd (upd vM_fresh ((107 : Int32) + ((3 : Int32) * (vM_fresh (7 : Int32).toNatClampNeg))).toNatClampNeg y3_32) (((107 : Int32) + ((3 : Int32) * (vM_fresh (7 : Int32).toNatClampNeg))) + (1 : Int32)).toNatClampNeg r114) vM_tape vM_letters_114) := hD
          refine lv_aload_n hx hb dX9_boxLine_118 rfl (lv_at hl 0 rfl) ?_
          refine va_get (D := D) (ci := 8) (v := .ref (qM 16)) (C := RX9) (T := TX9) (N := 29) hx hb ht0 niX9 hown hK hP 0 rfl rfl 16 (by decide) (ht0 _ wd778) (fun _ h9 => h9) rfl dX9_boxLine_119 ?_
          refine lv_iload_n hx hb dX9_boxLine_122 rfl (lv_at hl 2 rfl) ?_
          refine lv_iconst (v := 2) hx hb dX9_boxLine_123 (by decide) ?_
          refine lv_iadd hx hb dX9_boxLine_124 ?_
          refine lv_iload_n hx hb dX9_boxLine_125 rfl (lv_at hl 1 rfl) ?_
          obtain ⟨g126, hok⟩ := gd_some hok
          refine va_iast hx hb hK hP hD hS 1 0 rfl rfl (okI_in g126) dX9_boxLine_126 (fun H locs hP hD hS => ?_)
          have hP : va_P D vwCl (wX9_boxLine cy aM qM vM_114 (upd (upd (upd vM_fresh ((107 : Int32) + ((3 : Int32) * (vM_fresh (7 : Int32).toNatClampNeg))).toNatClampNeg y3_32) (((107 : Int32) + ((3 : Int32) * (vM_fresh (7 : Int32).toNatClampNeg))) + (1 : Int32)).toNatClampNeg r114) (((107 : Int32) + ((3 : Int32) * (vM_fresh (7 : Int32).toNatClampNeg))) + (2 : Int32)).toNatClampNeg x1) vM_tape vM_letters_114) H := hP
          have hD : va_D A (wX9_boxLine cy aM qM vM_114 (upd (upd (upd vM_fresh ((107 : Int32) + ((3 : Int32) * (vM_fresh (7 : Int32).toNatClampNeg))).toNatClampNeg y3_32) (((107 : Int32) + ((3 : Int32) * (vM_fresh (7 : Int32).toNatClampNeg))) + (1 : Int32)).toNatClampNeg r114) (((107 : Int32) + ((3 : Int32) * (vM_fresh (7 : Int32).toNatClampNeg))) + (2 : Int32)).toNatClampNeg x1) vM_tape vM_letters_114) := hD
          refine lv_aload_n hx hb dX9_boxLine_127 rfl (lv_at hl 0 rfl) ?_
          refine va_get (D := D) (ci := 8) (v := .int (vM_114 13)) (C := RX9) (T := TX9) (N := 29) hx hb ht0 niX9 hown hK hP 0 rfl rfl 13 (by decide) (ht0 _ wd757) (fun _ h9 => h9) rfl dX9_boxLine_128 ?_
          refine lv_if_ne (tgt := 145) hx hb dX9_boxLine_131 (by decide) (fun c131 => ?_) (fun c131 => ?_)
          · have hok := k_neg c131 hok
            exact J145 (upd (upd (upd vM_fresh ((107 : Int32) + ((3 : Int32) * (vM_fresh (7 : Int32).toNatClampNeg))).toNatClampNeg y3_32) (((107 : Int32) + ((3 : Int32) * (vM_fresh (7 : Int32).toNatClampNeg))) + (1 : Int32)).toNatClampNeg r114) (((107 : Int32) + ((3 : Int32) * (vM_fresh (7 : Int32).toNatClampNeg))) + (2 : Int32)).toNatClampNeg x1) vM_letters_114 vM_114 H locs ls hP hD hS (lv_sub hl [] rfl) hok
          · have hok := k_pos c131 hok
            refine lv_aload_n hx hb dX9_boxLine_134 rfl (lv_at hl 0 rfl) ?_
            refine va_get (D := D) (ci := 8) (v := .ref (qM 16)) (C := RX9) (T := TX9) (N := 29) hx hb ht0 niX9 hown hK hP 0 rfl rfl 16 (by decide) (ht0 _ wd778) (fun _ h9 => h9) rfl dX9_boxLine_135 ?_
            refine lv_bipush (v := 7) hx hb dX9_boxLine_138 (by decide) ?_
            refine lv_dup2_11 hx hb dX9_boxLine_140 rfl rfl ?_
            obtain ⟨g141, hok⟩ := gd_some hok
            refine va_iald hx hb hK hP 1 0 rfl rfl (okI_in g141) dX9_boxLine_141 ?_
            refine lv_iconst (v := 1) hx hb dX9_boxLine_142 (by decide) ?_
            refine lv_iadd hx hb dX9_boxLine_143 ?_
            obtain ⟨g144, hok⟩ := gd_some hok
            refine va_iast hx hb hK hP hD hS 1 0 rfl rfl (okI_in g144) dX9_boxLine_144 (fun H locs hP hD hS => ?_)
            have hP : va_P D vwCl (wX9_boxLine cy aM qM vM_114 (upd (upd (upd (upd vM_fresh ((107 : Int32) + ((3 : Int32) * (vM_fresh (7 : Int32).toNatClampNeg))).toNatClampNeg y3_32) (((107 : Int32) + ((3 : Int32) * (vM_fresh (7 : Int32).toNatClampNeg))) + (1 : Int32)).toNatClampNeg r114) (((107 : Int32) + ((3 : Int32) * (vM_fresh (7 : Int32).toNatClampNeg))) + (2 : Int32)).toNatClampNeg x1) (7 : Int32).toNatClampNeg (((upd (upd (upd vM_fresh ((107 : Int32) + ((3 : Int32) * (vM_fresh (7 : Int32).toNatClampNeg))).toNatClampNeg y3_32) (((107 : Int32) + ((3 : Int32) * (vM_fresh (7 : Int32).toNatClampNeg))) + (1 : Int32)).toNatClampNeg r114) (((107 : Int32) + ((3 : Int32) * (vM_fresh (7 : Int32).toNatClampNeg))) + (2 : Int32)).toNatClampNeg x1) (7 : Int32).toNatClampNeg) + (1 : Int32))) vM_tape vM_letters_114) H := hP
            have hD : va_D A (wX9_boxLine cy aM qM vM_114 (upd (upd (upd (upd vM_fresh ((107 : Int32) + ((3 : Int32) * (vM_fresh (7 : Int32).toNatClampNeg))).toNatClampNeg y3_32) (((107 : Int32) + ((3 : Int32) * (vM_fresh (7 : Int32).toNatClampNeg))) + (1 : Int32)).toNatClampNeg r114) (((107 : Int32) + ((3 : Int32) * (vM_fresh (7 : Int32).toNatClampNeg))) + (2 : Int32)).toNatClampNeg x1) (7 : Int32).toNatClampNeg (((upd (upd (upd vM_fresh ((107 : Int32) + ((3 : Int32) * (vM_fresh (7 : Int32).toNatClampNeg))).toNatClampNeg y3_32) (((107 : Int32) + ((3 : Int32) * (vM_fresh (7 : Int32).toNatClampNeg))) + (1 : Int32)).toNatClampNeg r114) (((107 : Int32) + ((3 : Int32) * (vM_fresh (7 : Int32).toNatClampNeg))) + (2 : Int32)).toNatClampNeg x1) (7 : Int32).toNatClampNeg) + (1 : Int32))) vM_tape vM_letters_114) := hD
            exact J145 (upd (upd (upd (upd vM_fresh ((107 : Int32) + ((3 : Int32) * (vM_fresh (7 : Int32).toNatClampNeg))).toNatClampNeg y3_32) (((107 : Int32) + ((3 : Int32) * (vM_fresh (7 : Int32).toNatClampNeg))) + (1 : Int32)).toNatClampNeg r114) (((107 : Int32) + ((3 : Int32) * (vM_fresh (7 : Int32).toNatClampNeg))) + (2 : Int32)).toNatClampNeg x1) (7 : Int32).toNatClampNeg (((upd (upd (upd vM_fresh ((107 : Int32) + ((3 : Int32) * (vM_fresh (7 : Int32).toNatClampNeg))).toNatClampNeg y3_32) (((107 : Int32) + ((3 : Int32) * (vM_fresh (7 : Int32).toNatClampNeg))) + (1 : Int32)).toNatClampNeg r114) (((107 : Int32) + ((3 : Int32) * (vM_fresh (7 : Int32).toNatClampNeg))) + (2 : Int32)).toNatClampNeg x1) (7 : Int32).toNatClampNeg) + (1 : Int32))) vM_letters_114 vM_114 H locs ls hP hD hS (lv_sub hl [] rfl) hok
        · have hok := k_neg c86 hok
          cases hok
          subst hQe; exact W.vret hx hb hr (fun t ht hW => ⟨⟨(), rfl, trivial, by rw [ht]; exact hP, va_K.moved hW.alike hK, hD⟩, hS.F ht⟩) hS.2.2 dX9_boxLine_89
      · have hok := k_neg c41 hok
        refine lv_aload_n hx hb dX9_boxLine_44 rfl (lv_at hl 0 rfl) ?_
        refine va_get (D := D) (ci := 8) (v := .int (vM_32 13)) (C := RX9) (T := TX9) (N := 29) hx hb ht0 niX9 hown hK hP 0 rfl rfl 13 (by decide) (ht0 _ wd757) (fun _ h9 => h9) rfl dX9_boxLine_45 ?_
        refine lv_if_ne (tgt := 76) hx hb dX9_boxLine_48 (by decide) (fun c48 => ?_) (fun c48 => ?_)
        · have hok := k_neg c48 hok
          exact J76 vM_32 H locs ls hP hD hS (lv_sub hl [0, 1, 2, 3, 4] rfl) hok
        · have hok := k_pos c48 hok
          refine lv_aload_n hx hb dX9_boxLine_51 rfl (lv_at hl 0 rfl) ?_
          refine va_get (D := D) (ci := 8) (v := .ref (qM 16)) (C := RX9) (T := TX9) (N := 29) hx hb ht0 niX9 hown hK hP 0 rfl rfl 16 (by decide) (ht0 _ wd778) (fun _ h9 => h9) rfl dX9_boxLine_52 ?_
          refine lv_bipush (v := 107) hx hb dX9_boxLine_55 (by decide) ?_
          refine lv_iconst (v := 3) hx hb dX9_boxLine_57 (by decide) ?_
          refine lv_iload hx hb dX9_boxLine_58 (lv_at hl 4 rfl) ?_
          refine lv_imul hx hb dX9_boxLine_60 ?_
          refine lv_iadd hx hb dX9_boxLine_61 ?_
          obtain ⟨g62, hok⟩ := gd_some hok
          refine va_iald hx hb hK hP 1 0 rfl rfl (okI_in g62) dX9_boxLine_62 ?_
          refine lv_iload_n hx hb dX9_boxLine_63 rfl (lv_at hl 3 rfl) ?_
          refine lv_icmp_ne (tgt := 76) hx hb dX9_boxLine_64 (by decide) (fun c64 => ?_) (fun c64 => ?_)
          · have hok := k_neg c64 hok
            exact J76 vM_32 H locs ls hP hD hS (lv_sub hl [0, 1, 2, 3, 4] rfl) hok
          · have hok := k_pos c64 hok
            refine lv_aload_n hx hb dX9_boxLine_67 rfl (lv_at hl 0 rfl) ?_
            refine lv_iconst (v := 3) hx hb dX9_boxLine_68 (by decide) ?_
            refine lv_aload_n hx hb dX9_boxLine_69 rfl (lv_at hl 0 rfl) ?_
            refine va_get (D := D) (ci := 8) (v := .int (vM_32 4)) (C := RX9) (T := TX9) (N := 29) hx hb ht0 niX9 hown hK hP 0 rfl rfl 4 (by decide) (ht0 _ wd756) (fun _ h9 => h9) rfl dX9_boxLine_70 ?_
            obtain ⟨vM_73, hc73, hok⟩ := k_bind hok
            refine kCv (wc := (wX9_wrong cy aM qM vM_32)) (wc2 := (wX9_wrong cy aM qM vM_73)) (wr := [(qM 16, rI cy 224 vM_fresh), (qM 1, rI cy 900 vM_tape), (qM 12, rI cy 8 vM_letters)]) (ws2 := (wX9_boxLine cy aM qM vM_73 vM_fresh vM_tape vM_letters)) (kRunV (As := [.int 3, .int (vM_32 4)]) (rest := []) ⟨hx, hb, hml, hown, ht0⟩ (kX9_wrong l D cy _ aM qM vM_32 (3 : Int32) (vM_32 4) vM_73 hc73 _ rfl) (cwV 2 ht0 (gV wd774 wd775 wd776 wd744 wd777) rfl rfl rfl (by decide +kernel) ⟨Nat.le_of_ble_eq_true rfl, Nat.le_of_ble_eq_true rfl⟩) hK hN hP hD [0] rfl (by decide) 0 8 rfl rfl rfl hl.1 rfl (Nat.le_of_ble_eq_true rfl) dX9_boxLine_73 ⟨Nat.zero_le _, Nat.zero_le _⟩) hP hD hS hA [0] [1, 2, 3] rfl rfl (by decide) (by decide) [3, 0, 1, 2] (by decide) rfl rfl (fun H locs hP hD hS => ?_)
            exact J76 vM_73 H locs ls hP hD hS (lv_sub hl [0, 1, 2, 3, 4] rfl) hok
  unfold fX9_boxLine at hok
  obtain ⟨H, hH⟩ : ∃ H, H = s.heap := ⟨_, rfl⟩
  obtain ⟨locs, hlc⟩ : ∃ x : List Loc, x = [] := ⟨_, rfl⟩
  have hP : va_P D vwCl (wX9_boxLine cy aM qM vM vM_fresh vM_tape vM_letters) H := by rw [hH]; exact hP
  have hS : va_S A s.heap H locs := by rw [hH, hlc]; exact hS
  rw [show W p l e _ s m _ below meth c s.heap [] = W p l e _ s m _ below meth c H locs from by rw [hH, hlc]]
  refine lv_aload_n hx hb dX9_boxLine_0 rfl (lv_at hl 0 rfl) ?_
  refine va_get (D := D) (ci := 8) (v := .int (vM 13)) (C := RX9) (T := TX9) (N := 29) hx hb ht0 niX9 hown hK hP 0 rfl rfl 13 (by decide) (ht0 _ wd757) (fun _ h9 => h9) rfl dX9_boxLine_1 ?_
  refine lv_if_eq (tgt := 8) hx hb dX9_boxLine_4 (by decide) (fun c4 => ?_) (fun c4 => ?_)
  · have hok := k_pos c4 hok
    refine lv_bipush (v := 107) hx hb dX9_boxLine_8 (by decide) ?_
    refine lv_iconst (v := 3) hx hb dX9_boxLine_10 (by decide) ?_
    refine lv_aload_n hx hb dX9_boxLine_11 rfl (lv_at hl 0 rfl) ?_
    refine va_get (D := D) (ci := 8) (v := .ref (qM 16)) (C := RX9) (T := TX9) (N := 29) hx hb ht0 niX9 hown hK hP 0 rfl rfl 16 (by decide) (ht0 _ wd778) (fun _ h9 => h9) rfl dX9_boxLine_12 ?_
    refine lv_bipush (v := 7) hx hb dX9_boxLine_15 (by decide) ?_
    obtain ⟨g17, hok⟩ := gd_some hok
    refine va_iald hx hb hK hP 1 0 rfl rfl (okI_in g17) dX9_boxLine_17 ?_
    refine lv_imul hx hb dX9_boxLine_18 ?_
    refine lv_iadd hx hb dX9_boxLine_19 ?_
    refine lv_istore_n (lv' := [(2, .int ((107 : Int32) + ((3 : Int32) * (vM_fresh (7 : Int32).toNatClampNeg)))), (0, .ref aM), (1, .int x1)]) hx hb dX9_boxLine_20 rfl hl (by decide) rfl (fun ls hl => ?_)
    refine lv_aload_n hx hb dX9_boxLine_21 rfl (lv_at hl 1 rfl) ?_
    refine lv_iconst (v := 0) hx hb dX9_boxLine_22 (by decide) ?_
    refine lv_bipush (v := 99) hx hb dX9_boxLine_23 (by decide) ?_
    obtain ⟨⟨r25, vM_25⟩, hc25, hok⟩ := k_bind hok
    try dsimp only at hok
    refine kCi (wc := (wX9_numberHere cy aM qM vM)) (wc2 := (wX9_numberHere cy aM qM vM_25)) (wr := [(qM 16, rI cy 224 vM_fresh), (qM 1, rI cy 900 vM_tape), (qM 12, rI cy 8 vM_letters)]) (ws2 := (wX9_boxLine cy aM qM vM_25 vM_fresh vM_tape vM_letters)) (kRunV (As := [.int 0, .int 99]) (rest := []) ⟨hx, hb, hml, hown, ht0⟩ (kX9_numberHere l D cy _ aM qM vM (0 : Int32) (99 : Int32) r25 vM_25 hc25 _ rfl) (cwV 2 ht0 (gV wd794 wd795 wd796 wd744 wd797) rfl rfl rfl (by decide +kernel) ⟨Nat.le_of_ble_eq_true rfl, Nat.le_of_ble_eq_true rfl⟩) hK hN hP hD [0] rfl (by decide) 0 8 rfl rfl rfl hl.1 rfl (Nat.le_of_ble_eq_true rfl) dX9_boxLine_25 ⟨Nat.zero_le _, Nat.zero_le _⟩) hP hD hS hA [0] [1, 2, 3] rfl rfl (by decide) (by decide) [3, 0, 1, 2] (by decide) rfl rfl (fun H locs hP hD hS => ?_)
    refine lv_istore_n (lv' := [(3, .int r25), (2, .int ((107 : Int32) + ((3 : Int32) * (vM_fresh (7 : Int32).toNatClampNeg)))), (0, .ref aM), (1, .int x1)]) hx hb dX9_boxLine_28 rfl hl (by decide) rfl (fun ls hl => ?_)
    refine lv_iconst (v := 0) hx hb dX9_boxLine_29 (by decide) ?_
    refine lv_istore (lv' := [(4, .int 0), (3, .int r25), (2, .int ((107 : Int32) + ((3 : Int32) * (vM_fresh (7 : Int32).toNatClampNeg)))), (0, .ref aM), (1, .int x1)]) hx hb dX9_boxLine_30 hl (by decide) rfl (fun ls hl => ?_)
    exact L32 5000 r25 (0 : Int32) vM_25 H locs ls hP hD hS (lv_sub hl [3, 4, 2, 1, 0] rfl) hok
  · have hok := k_neg c4 hok
    cases hok
    subst hQe; exact W.vret hx hb hr (fun t ht hW => ⟨⟨(), rfl, trivial, by rw [ht]; exact hP, va_K.moved hW.alike hK, hD⟩, hS.F ht⟩) hS.2.2 dX9_boxLine_7
def wsX9_readLine : List Cond := .code yX9_readLine cX9_readLine 1 none :: W0
abbrev wX9_readLine (cy : Nat → ClassId) (aM : Nat) (qM : Nat → Nat) (vM : Nat → Int32) (vM_letters : Nat → Int32) (vM_fresh : Nat → Int32) (vM_tape : Nat → Int32) : va_W := [(aM, oX9 vM qM), (qM 12, rI cy 8 vM_letters), (qM 16, rI cy 224 vM_fresh), (qM 1, rI cy 900 vM_tape)]
set_option maxHeartbeats 4000000 in
set_option maxRecDepth 100000 in
theorem kX9_readLine (l : Launch) (D : va_G) (cy : Nat → ClassId) (ad : (Nat → Nat) × (Nat → Nat)) (sz : Nat) (aM : Nat) (qM : Nat → Nat) (vM : Nat → Int32) (vM_letters : Nat → Int32) (vM_fresh : Nat → Int32) (vM_tape : Nat → Int32) (z_vM : Nat → Int32) (z_vM_letters : Nat → Int32) (z_vM_fresh : Nat → Int32) (hok : fX9_readLine vM vM_letters vM_fresh vM_tape = some (z_vM, z_vM_letters, z_vM_fresh)) (A : Nat → Prop) (hAe : va_A (wX9_readLine cy aM qM vM vM_letters vM_fresh vM_tape) sz = A) : Met l yX9_readLine wsX9_readLine ({ frames := 9, cells := 0, slots := 0, locals := 200 } : Room) (kPreS D cy ad [.ref aM] (wX9_readLine cy aM qM vM vM_letters vM_fresh vM_tape) sz A) (kQv D cy A (wX9_readLine cy aM qM z_vM z_vM_letters z_vM_fresh vM_tape)) 0 0 A := by
  refine Met.ofW (cc := cX9_readLine) (maxL := 1) (ret := none) (by decide) rfl ?_
  intro p e s m args below meth c s₁ B hml hv
  obtain ⟨rfl, ⟨hsz, hP, hK, hD0, hN⟩, hSt⟩ := hv
  have hx := B.exec
  have hb := B.bytes
  have hr := B.returns
  have ht0 : ∀ w ∈ W0, w.before _ s = true := fun w h => atoms_spec (ws := wsX9_readLine) B.pre w (List.mem_cons_of_mem _ h)
  have hown : s.vm.findClass RX9 = some m.cls := findClass_of_methodNamed B.named
  have hlocks := B.notSynchronized
  subst hsz
  have hD : va_D A (wX9_readLine cy aM qM vM vM_letters vM_fresh vM_tape) := by rw [← hAe]; exact hD0.self
  have hA : ∀ q : Nat, s.heap.size ≤ q → A q := fun q h => by rw [← hAe]; exact Or.inr h
  have hS : va_S A s.heap s.heap [] := va_S.rf
  have hl := lv_entry ([.ref aM]) (n := 1) (Nat.le_of_ble_eq_true rfl)
  rw [lg_entry_eq]
  generalize (lg_sl ([.ref aM]) ++ List.replicate (1 - (lg_sl ([.ref aM])).length) Slot.unset).toArray = ls at hl ⊢
  have hl : lv_has ls 1 [(0, .ref aM)] := hl
  generalize hQe : MQ below (kQv D cy A (wX9_readLine cy aM qM z_vM z_vM_letters z_vM_fresh vM_tape)) ([.ref aM] : List Value).toArray s 0 0 A = Q
  have J252 : ∀ (vM_fresh_252 : Nat → Int32) (vM_letters_252 : Nat → Int32) (vM_252 : Nat → Int32), ∀ (H : Heap) (locs : List Loc) (ls : Array Slot), va_P D vwCl (wX9_readLine cy aM qM vM_252 vM_letters_252 vM_fresh_252 vM_tape) H → va_D A (wX9_readLine cy aM qM vM_252 vM_letters_252 vM_fresh_252 vM_tape) → va_S A s.heap H locs → lv_has ls 1 [] → fX9_readLine_J252 vM_fresh_252 vM_letters_252 vM_252 = some (z_vM, z_vM_letters, z_vM_fresh) → W p l e ({ frames := 9, cells := 0, slots := 0, locals := 200 } : Room) s m ([.ref aM] : List Value).toArray below meth c H locs 0 0 Q (F0 m 252 ls []) := by
    intro vM_fresh_252 vM_letters_252 vM_252 H locs ls hP hD hS hl hok
    unfold fX9_readLine_J252 at hok
    cases hok
    subst hQe; exact W.vret hx hb hr (fun t ht hW => ⟨⟨(), rfl, trivial, by rw [ht]; exact hP, va_K.moved hW.alike hK, hD⟩, hS.F ht⟩) hS.2.2 dX9_readLine_252
  have J229 : ∀ (t0_229 : Int32) (vM_letters_229 : Nat → Int32) (vM_229 : Nat → Int32), ∀ (H : Heap) (locs : List Loc) (ls : Array Slot), va_P D vwCl (wX9_readLine cy aM qM vM_229 vM_letters_229 vM_fresh vM_tape) H → va_D A (wX9_readLine cy aM qM vM_229 vM_letters_229 vM_fresh vM_tape) → va_S A s.heap H locs → lv_has ls 1 [(0, .ref aM)] → fX9_readLine_J229 vM_fresh vM_tape t0_229 vM_letters_229 vM_229 = some (z_vM, z_vM_letters, z_vM_fresh) → W p l e ({ frames := 9, cells := 0, slots := 0, locals := 200 } : Room) s m ([.ref aM] : List Value).toArray below meth c H locs 0 0 Q (F0 m 229 ls [.int t0_229, .ref (ad.1 10), .ref aM]) := by
    intro t0_229 vM_letters_229 vM_229 H locs ls hP hD hS hl hok
    unfold fX9_readLine_J229 at hok
    obtain ⟨⟨r229, vM_229, vM_letters_229⟩, hc229, hok⟩ := k_bind hok
    try dsimp only at hok
    refine kCi (wc := (wX9_begins cy aM qM vM_229 vM_letters_229 vM_fresh vM_tape)) (wc2 := (wX9_begins cy aM qM vM_229 vM_letters_229 vM_fresh vM_tape)) (wr := []) (ws2 := (wX9_readLine cy aM qM vM_229 vM_letters_229 vM_fresh vM_tape)) (kRunVS (As := [.ref (ad.1 10), .int t0_229]) (rest := []) ⟨hx, hb, hml, hown, ht0⟩ (kX9_begins l D cy ad _ aM qM vM_229 vM_letters_229 vM_fresh vM_tape 10 t0_229 r229 vM_229 vM_letters_229 hc229 _ rfl) (cwV 2 ht0 (gV wd822 wd823 wd824 wd744 wd825) rfl rfl rfl (by decide +kernel) ⟨Nat.le_of_ble_eq_true rfl, Nat.le_of_ble_eq_true rfl⟩) hK hN hP hD hSt hS hA [0, 1, 2, 3] rfl (by decide) 0 8 rfl rfl rfl hl.1 rfl (Nat.le_of_ble_eq_true rfl) dX9_readLine_229 ⟨Nat.zero_le _, Nat.zero_le _⟩) hP hD hS hA [0, 1, 2, 3] [] rfl rfl (by decide) (by decide) [0, 1, 2, 3] (by decide) rfl rfl (fun H locs hP hD hS => ?_)
    refine lv_if_eq (tgt := 243) hx hb dX9_readLine_232 (by decide) (fun c232 => ?_) (fun c232 => ?_)
    · have hok := k_pos c232 hok
      refine lv_aload_n hx hb dX9_readLine_243 rfl (lv_at hl 0 rfl) ?_
      refine lv_iconst (v := 1) hx hb dX9_readLine_244 (by decide) ?_
      refine lv_aload_n hx hb dX9_readLine_245 rfl (lv_at hl 0 rfl) ?_
      refine va_get (D := D) (ci := 8) (v := .int (vM_229 4)) (C := RX9) (T := TX9) (N := 29) hx hb ht0 niX9 hown hK hP 0 rfl rfl 4 (by decide) (ht0 _ wd756) (fun _ h9 => h9) rfl dX9_readLine_246 ?_
      obtain ⟨vM_249, hc249, hok⟩ := k_bind hok
      refine kCv (wc := (wX9_wrong cy aM qM vM_229)) (wc2 := (wX9_wrong cy aM qM vM_249)) (wr := [(qM 12, rI cy 8 vM_letters_229), (qM 16, rI cy 224 vM_fresh), (qM 1, rI cy 900 vM_tape)]) (ws2 := (wX9_readLine cy aM qM vM_249 vM_letters_229 vM_fresh vM_tape)) (kRunV (As := [.int 1, .int (vM_229 4)]) (rest := []) ⟨hx, hb, hml, hown, ht0⟩ (kX9_wrong l D cy _ aM qM vM_229 (1 : Int32) (vM_229 4) vM_249 hc249 _ rfl) (cwV 2 ht0 (gV wd774 wd775 wd776 wd744 wd777) rfl rfl rfl (by decide +kernel) ⟨Nat.le_of_ble_eq_true rfl, Nat.le_of_ble_eq_true rfl⟩) hK hN hP hD [0] rfl (by decide) 0 8 rfl rfl rfl hl.1 rfl (Nat.le_of_ble_eq_true rfl) dX9_readLine_249 ⟨Nat.zero_le _, Nat.zero_le _⟩) hP hD hS hA [0] [1, 2, 3] rfl rfl (by decide) (by decide) [3, 0, 1, 2] (by decide) rfl rfl (fun H locs hP hD hS => ?_)
      exact J252 vM_fresh vM_letters_229 vM_249 H locs ls hP hD hS (lv_sub hl [] rfl) hok
    · have hok := k_neg c232 hok
      refine lv_aload_n hx hb dX9_readLine_235 rfl (lv_at hl 0 rfl) ?_
      refine lv_iconst (v := 0) hx hb dX9_readLine_236 (by decide) ?_
      obtain ⟨⟨vM_237, vM_fresh_237, vM_letters_237⟩, hc237, hok⟩ := k_bind hok
      try dsimp only at hok
      refine kCv (wc := (wX9_boxLine cy aM qM vM_229 vM_fresh vM_tape vM_letters_229)) (wc2 := (wX9_boxLine cy aM qM vM_237 vM_fresh_237 vM_tape vM_letters_237)) (wr := []) (ws2 := (wX9_readLine cy aM qM vM_237 vM_letters_237 vM_fresh_237 vM_tape)) (kRunVS (As := [.int 0]) (rest := []) ⟨hx, hb, hml, hown, ht0⟩ (kX9_boxLine l D cy ad _ aM qM vM_229 vM_fresh vM_tape vM_letters_229 (0 : Int32) vM_237 vM_fresh_237 vM_letters_237 hc237 _ rfl) (cwV 1 ht0 (gV wd826 wd827 wd828 wd744 wd829) rfl rfl rfl (by decide +kernel) ⟨Nat.le_of_ble_eq_true rfl, Nat.le_of_ble_eq_true rfl⟩) hK hN hP hD hSt hS hA [0, 2, 3, 1] rfl (by decide) 0 8 rfl rfl rfl hl.1 rfl (Nat.le_of_ble_eq_true rfl) dX9_readLine_237 ⟨Nat.zero_le _, Nat.zero_le _⟩) hP hD hS hA [0, 2, 3, 1] [] rfl rfl (by decide) (by decide) [0, 3, 1, 2] (by decide) rfl rfl (fun H locs hP hD hS => ?_)
      refine lv_goto (tgt := 252) hx hb dX9_readLine_240 (by decide) ?_
      exact J252 vM_fresh_237 vM_letters_237 vM_237 H locs ls hP hD hS (lv_sub hl [] rfl) hok
  have J195 : ∀ (t0_195 : Int32) (vM_letters_195 : Nat → Int32) (vM_195 : Nat → Int32), ∀ (H : Heap) (locs : List Loc) (ls : Array Slot), va_P D vwCl (wX9_readLine cy aM qM vM_195 vM_letters_195 vM_fresh vM_tape) H → va_D A (wX9_readLine cy aM qM vM_195 vM_letters_195 vM_fresh vM_tape) → va_S A s.heap H locs → lv_has ls 1 [(0, .ref aM)] → fX9_readLine_J195 vM_fresh vM_tape t0_195 vM_letters_195 vM_195 = some (z_vM, z_vM_letters, z_vM_fresh) → W p l e ({ frames := 9, cells := 0, slots := 0, locals := 200 } : Room) s m ([.ref aM] : List Value).toArray below meth c H locs 0 0 Q (F0 m 195 ls [.int t0_195, .ref (ad.1 7), .ref aM]) := by
    intro t0_195 vM_letters_195 vM_195 H locs ls hP hD hS hl hok
    unfold fX9_readLine_J195 at hok
    obtain ⟨⟨r195, vM_195, vM_letters_195⟩, hc195, hok⟩ := k_bind hok
    try dsimp only at hok
    refine kCi (wc := (wX9_begins cy aM qM vM_195 vM_letters_195 vM_fresh vM_tape)) (wc2 := (wX9_begins cy aM qM vM_195 vM_letters_195 vM_fresh vM_tape)) (wr := []) (ws2 := (wX9_readLine cy aM qM vM_195 vM_letters_195 vM_fresh vM_tape)) (kRunVS (As := [.ref (ad.1 7), .int t0_195]) (rest := []) ⟨hx, hb, hml, hown, ht0⟩ (kX9_begins l D cy ad _ aM qM vM_195 vM_letters_195 vM_fresh vM_tape 7 t0_195 r195 vM_195 vM_letters_195 hc195 _ rfl) (cwV 2 ht0 (gV wd822 wd823 wd824 wd744 wd825) rfl rfl rfl (by decide +kernel) ⟨Nat.le_of_ble_eq_true rfl, Nat.le_of_ble_eq_true rfl⟩) hK hN hP hD hSt hS hA [0, 1, 2, 3] rfl (by decide) 0 8 rfl rfl rfl hl.1 rfl (Nat.le_of_ble_eq_true rfl) dX9_readLine_195 ⟨Nat.zero_le _, Nat.zero_le _⟩) hP hD hS hA [0, 1, 2, 3] [] rfl rfl (by decide) (by decide) [0, 1, 2, 3] (by decide) rfl rfl (fun H locs hP hD hS => ?_)
    refine lv_if_eq (tgt := 209) hx hb dX9_readLine_198 (by decide) (fun c198 => ?_) (fun c198 => ?_)
    · have hok := k_pos c198 hok
      refine lv_aload_n hx hb dX9_readLine_209 rfl (lv_at hl 0 rfl) ?_
      refine va_ldcS hx hb hown (hSt.2.1 _ (List.mem_of_getElem? (i := 29) rfl)) dX9_readLine_210 ?_
      refine lv_aload_n hx hb dX9_readLine_212 rfl (lv_at hl 0 rfl) ?_
      refine va_get (D := D) (ci := 8) (v := .ref (qM 16)) (C := RX9) (T := TX9) (N := 29) hx hb ht0 niX9 hown hK hP 0 rfl rfl 16 (by decide) (ht0 _ wd778) (fun _ h9 => h9) rfl dX9_readLine_213 ?_
      refine lv_bipush (v := 7) hx hb dX9_readLine_216 (by decide) ?_
      obtain ⟨g218, hok⟩ := gd_some hok
      refine va_iald hx hb hK hP 2 0 rfl rfl (okI_in g218) dX9_readLine_218 ?_
      refine lv_bipush (v := 6) hx hb dX9_readLine_219 (by decide) ?_
      refine lv_icmp_ge (tgt := 228) hx hb dX9_readLine_221 (by decide) (fun c221 => ?_) (fun c221 => ?_)
      · have hok := k_pos c221 hok
        refine lv_iconst (v := 0) hx hb dX9_readLine_228 (by decide) ?_
        exact J229 (0 : Int32) vM_letters_195 vM_195 H locs ls hP hD hS (lv_sub hl [0] rfl) hok
      · have hok := k_neg c221 hok
        refine lv_iconst (v := 1) hx hb dX9_readLine_224 (by decide) ?_
        refine lv_goto (tgt := 229) hx hb dX9_readLine_225 (by decide) ?_
        exact J229 (1 : Int32) vM_letters_195 vM_195 H locs ls hP hD hS (lv_sub hl [0] rfl) hok
    · have hok := k_neg c198 hok
      refine lv_aload_n hx hb dX9_readLine_201 rfl (lv_at hl 0 rfl) ?_
      refine lv_iconst (v := 1) hx hb dX9_readLine_202 (by decide) ?_
      obtain ⟨⟨vM_203, vM_fresh_203, vM_letters_203⟩, hc203, hok⟩ := k_bind hok
      try dsimp only at hok
      refine kCv (wc := (wX9_boxLine cy aM qM vM_195 vM_fresh vM_tape vM_letters_195)) (wc2 := (wX9_boxLine cy aM qM vM_203 vM_fresh_203 vM_tape vM_letters_203)) (wr := []) (ws2 := (wX9_readLine cy aM qM vM_203 vM_letters_203 vM_fresh_203 vM_tape)) (kRunVS (As := [.int 1]) (rest := []) ⟨hx, hb, hml, hown, ht0⟩ (kX9_boxLine l D cy ad _ aM qM vM_195 vM_fresh vM_tape vM_letters_195 (1 : Int32) vM_203 vM_fresh_203 vM_letters_203 hc203 _ rfl) (cwV 1 ht0 (gV wd826 wd827 wd828 wd744 wd829) rfl rfl rfl (by decide +kernel) ⟨Nat.le_of_ble_eq_true rfl, Nat.le_of_ble_eq_true rfl⟩) hK hN hP hD hSt hS hA [0, 2, 3, 1] rfl (by decide) 0 8 rfl rfl rfl hl.1 rfl (Nat.le_of_ble_eq_true rfl) dX9_readLine_203 ⟨Nat.zero_le _, Nat.zero_le _⟩) hP hD hS hA [0, 2, 3, 1] [] rfl rfl (by decide) (by decide) [0, 3, 1, 2] (by decide) rfl rfl (fun H locs hP hD hS => ?_)
      refine lv_goto (tgt := 252) hx hb dX9_readLine_206 (by decide) ?_
      exact J252 vM_fresh_203 vM_letters_203 vM_203 H locs ls hP hD hS (lv_sub hl [] rfl) hok
  have J162 : ∀ (t0_162 : Int32) (vM_letters_162 : Nat → Int32) (vM_162 : Nat → Int32), ∀ (H : Heap) (locs : List Loc) (ls : Array Slot), va_P D vwCl (wX9_readLine cy aM qM vM_162 vM_letters_162 vM_fresh vM_tape) H → va_D A (wX9_readLine cy aM qM vM_162 vM_letters_162 vM_fresh vM_tape) → va_S A s.heap H locs → lv_has ls 1 [(0, .ref aM)] → fX9_readLine_J162 vM_fresh vM_tape t0_162 vM_letters_162 vM_162 = some (z_vM, z_vM_letters, z_vM_fresh) → W p l e ({ frames := 9, cells := 0, slots := 0, locals := 200 } : Room) s m ([.ref aM] : List Value).toArray below meth c H locs 0 0 Q (F0 m 162 ls [.int t0_162, .ref (ad.1 21), .ref aM]) := by
    intro t0_162 vM_letters_162 vM_162 H locs ls hP hD hS hl hok
    unfold fX9_readLine_J162 at hok
    obtain ⟨⟨r162, vM_162, vM_letters_162⟩, hc162, hok⟩ := k_bind hok
    try dsimp only at hok
    refine kCi (wc := (wX9_begins cy aM qM vM_162 vM_letters_162 vM_fresh vM_tape)) (wc2 := (wX9_begins cy aM qM vM_162 vM_letters_162 vM_fresh vM_tape)) (wr := []) (ws2 := (wX9_readLine cy aM qM vM_162 vM_letters_162 vM_fresh vM_tape)) (kRunVS (As := [.ref (ad.1 21), .int t0_162]) (rest := []) ⟨hx, hb, hml, hown, ht0⟩ (kX9_begins l D cy ad _ aM qM vM_162 vM_letters_162 vM_fresh vM_tape 21 t0_162 r162 vM_162 vM_letters_162 hc162 _ rfl) (cwV 2 ht0 (gV wd822 wd823 wd824 wd744 wd825) rfl rfl rfl (by decide +kernel) ⟨Nat.le_of_ble_eq_true rfl, Nat.le_of_ble_eq_true rfl⟩) hK hN hP hD hSt hS hA [0, 1, 2, 3] rfl (by decide) 0 8 rfl rfl rfl hl.1 rfl (Nat.le_of_ble_eq_true rfl) dX9_readLine_162 ⟨Nat.zero_le _, Nat.zero_le _⟩) hP hD hS hA [0, 1, 2, 3] [] rfl rfl (by decide) (by decide) [0, 1, 2, 3] (by decide) rfl rfl (fun H locs hP hD hS => ?_)
    refine lv_if_eq (tgt := 175) hx hb dX9_readLine_165 (by decide) (fun c165 => ?_) (fun c165 => ?_)
    · have hok := k_pos c165 hok
      refine lv_aload_n hx hb dX9_readLine_175 rfl (lv_at hl 0 rfl) ?_
      refine va_ldcS hx hb hown (hSt.2.1 _ (List.mem_of_getElem? (i := 28) rfl)) dX9_readLine_176 ?_
      refine lv_aload_n hx hb dX9_readLine_178 rfl (lv_at hl 0 rfl) ?_
      refine va_get (D := D) (ci := 8) (v := .ref (qM 16)) (C := RX9) (T := TX9) (N := 29) hx hb ht0 niX9 hown hK hP 0 rfl rfl 16 (by decide) (ht0 _ wd778) (fun _ h9 => h9) rfl dX9_readLine_179 ?_
      refine lv_bipush (v := 7) hx hb dX9_readLine_182 (by decide) ?_
      obtain ⟨g184, hok⟩ := gd_some hok
      refine va_iald hx hb hK hP 2 0 rfl rfl (okI_in g184) dX9_readLine_184 ?_
      refine lv_bipush (v := 6) hx hb dX9_readLine_185 (by decide) ?_
      refine lv_icmp_ge (tgt := 194) hx hb dX9_readLine_187 (by decide) (fun c187 => ?_) (fun c187 => ?_)
      · have hok := k_pos c187 hok
        refine lv_iconst (v := 0) hx hb dX9_readLine_194 (by decide) ?_
        exact J195 (0 : Int32) vM_letters_162 vM_162 H locs ls hP hD hS (lv_sub hl [0] rfl) hok
      · have hok := k_neg c187 hok
        refine lv_iconst (v := 1) hx hb dX9_readLine_190 (by decide) ?_
        refine lv_goto (tgt := 195) hx hb dX9_readLine_191 (by decide) ?_
        exact J195 (1 : Int32) vM_letters_162 vM_162 H locs ls hP hD hS (lv_sub hl [0] rfl) hok
    · have hok := k_neg c165 hok
      refine lv_aload_n hx hb dX9_readLine_168 rfl (lv_at hl 0 rfl) ?_
      obtain ⟨⟨vM_169, vM_fresh_169, vM_letters_169⟩, hc169, hok⟩ := k_bind hok
      try dsimp only at hok
      refine kCv (wc := (wX9_wantLine cy aM qM vM_162 vM_fresh vM_letters_162 vM_tape)) (wc2 := (wX9_wantLine cy aM qM vM_169 vM_fresh_169 vM_letters_169 vM_tape)) (wr := []) (ws2 := (wX9_readLine cy aM qM vM_169 vM_letters_169 vM_fresh_169 vM_tape)) (kRunVS (As := []) (rest := []) ⟨hx, hb, hml, hown, ht0⟩ (kX9_wantLine l D cy ad _ aM qM vM_162 vM_fresh vM_letters_162 vM_tape vM_169 vM_fresh_169 vM_letters_169 hc169 _ rfl) (cwV 0 ht0 (gV wd830 wd831 wd832 wd744 wd833) rfl rfl rfl (by decide +kernel) ⟨Nat.le_of_ble_eq_true rfl, Nat.le_of_ble_eq_true rfl⟩) hK hN hP hD hSt hS hA [0, 2, 1, 3] rfl (by decide) 0 8 rfl rfl rfl hl.1 rfl (Nat.le_of_ble_eq_true rfl) dX9_readLine_169 ⟨Nat.zero_le _, Nat.zero_le _⟩) hP hD hS hA [0, 2, 1, 3] [] rfl rfl (by decide) (by decide) [0, 2, 1, 3] (by decide) rfl rfl (fun H locs hP hD hS => ?_)
      refine lv_goto (tgt := 252) hx hb dX9_readLine_172 (by decide) ?_
      exact J252 vM_fresh_169 vM_letters_169 vM_169 H locs ls hP hD hS (lv_sub hl [] rfl) hok
  have J129 : ∀ (t0_129 : Int32) (vM_letters_129 : Nat → Int32) (vM_129 : Nat → Int32), ∀ (H : Heap) (locs : List Loc) (ls : Array Slot), va_P D vwCl (wX9_readLine cy aM qM vM_129 vM_letters_129 vM_fresh vM_tape) H → va_D A (wX9_readLine cy aM qM vM_129 vM_letters_129 vM_fresh vM_tape) → va_S A s.heap H locs → lv_has ls 1 [(0, .ref aM)] → fX9_readLine_J129 vM_fresh vM_tape t0_129 vM_letters_129 vM_129 = some (z_vM, z_vM_letters, z_vM_fresh) → W p l e ({ frames := 9, cells := 0, slots := 0, locals := 200 } : Room) s m ([.ref aM] : List Value).toArray below meth c H locs 0 0 Q (F0 m 129 ls [.int t0_129, .ref (ad.1 20), .ref aM]) := by
    intro t0_129 vM_letters_129 vM_129 H locs ls hP hD hS hl hok
    unfold fX9_readLine_J129 at hok
    obtain ⟨⟨r129, vM_129, vM_letters_129⟩, hc129, hok⟩ := k_bind hok
    try dsimp only at hok
    refine kCi (wc := (wX9_begins cy aM qM vM_129 vM_letters_129 vM_fresh vM_tape)) (wc2 := (wX9_begins cy aM qM vM_129 vM_letters_129 vM_fresh vM_tape)) (wr := []) (ws2 := (wX9_readLine cy aM qM vM_129 vM_letters_129 vM_fresh vM_tape)) (kRunVS (As := [.ref (ad.1 20), .int t0_129]) (rest := []) ⟨hx, hb, hml, hown, ht0⟩ (kX9_begins l D cy ad _ aM qM vM_129 vM_letters_129 vM_fresh vM_tape 20 t0_129 r129 vM_129 vM_letters_129 hc129 _ rfl) (cwV 2 ht0 (gV wd822 wd823 wd824 wd744 wd825) rfl rfl rfl (by decide +kernel) ⟨Nat.le_of_ble_eq_true rfl, Nat.le_of_ble_eq_true rfl⟩) hK hN hP hD hSt hS hA [0, 1, 2, 3] rfl (by decide) 0 8 rfl rfl rfl hl.1 rfl (Nat.le_of_ble_eq_true rfl) dX9_readLine_129 ⟨Nat.zero_le _, Nat.zero_le _⟩) hP hD hS hA [0, 1, 2, 3] [] rfl rfl (by decide) (by decide) [0, 1, 2, 3] (by decide) rfl rfl (fun H locs hP hD hS => ?_)
    refine lv_if_eq (tgt := 142) hx hb dX9_readLine_132 (by decide) (fun c132 => ?_) (fun c132 => ?_)
    · have hok := k_pos c132 hok
      refine lv_aload_n hx hb dX9_readLine_142 rfl (lv_at hl 0 rfl) ?_
      refine va_ldcS hx hb hown (hSt.2.1 _ (List.mem_of_getElem? (i := 27) rfl)) dX9_readLine_143 ?_
      refine lv_aload_n hx hb dX9_readLine_145 rfl (lv_at hl 0 rfl) ?_
      refine va_get (D := D) (ci := 8) (v := .ref (qM 16)) (C := RX9) (T := TX9) (N := 29) hx hb ht0 niX9 hown hK hP 0 rfl rfl 16 (by decide) (ht0 _ wd778) (fun _ h9 => h9) rfl dX9_readLine_146 ?_
      refine lv_bipush (v := 6) hx hb dX9_readLine_149 (by decide) ?_
      obtain ⟨g151, hok⟩ := gd_some hok
      refine va_iald hx hb hK hP 2 0 rfl rfl (okI_in g151) dX9_readLine_151 ?_
      refine lv_bipush (v := 6) hx hb dX9_readLine_152 (by decide) ?_
      refine lv_icmp_ge (tgt := 161) hx hb dX9_readLine_154 (by decide) (fun c154 => ?_) (fun c154 => ?_)
      · have hok := k_pos c154 hok
        refine lv_iconst (v := 0) hx hb dX9_readLine_161 (by decide) ?_
        exact J162 (0 : Int32) vM_letters_129 vM_129 H locs ls hP hD hS (lv_sub hl [0] rfl) hok
      · have hok := k_neg c154 hok
        refine lv_iconst (v := 1) hx hb dX9_readLine_157 (by decide) ?_
        refine lv_goto (tgt := 162) hx hb dX9_readLine_158 (by decide) ?_
        exact J162 (1 : Int32) vM_letters_129 vM_129 H locs ls hP hD hS (lv_sub hl [0] rfl) hok
    · have hok := k_neg c132 hok
      refine lv_aload_n hx hb dX9_readLine_135 rfl (lv_at hl 0 rfl) ?_
      obtain ⟨⟨vM_136, vM_fresh_136, vM_letters_136⟩, hc136, hok⟩ := k_bind hok
      try dsimp only at hok
      refine kCv (wc := (wX9_thingLine cy aM qM vM_129 vM_fresh vM_letters_129 vM_tape)) (wc2 := (wX9_thingLine cy aM qM vM_136 vM_fresh_136 vM_letters_136 vM_tape)) (wr := []) (ws2 := (wX9_readLine cy aM qM vM_136 vM_letters_136 vM_fresh_136 vM_tape)) (kRunVS (As := []) (rest := []) ⟨hx, hb, hml, hown, ht0⟩ (kX9_thingLine l D cy ad _ aM qM vM_129 vM_fresh vM_letters_129 vM_tape vM_136 vM_fresh_136 vM_letters_136 hc136 _ rfl) (cwV 0 ht0 (gV wd834 wd835 wd836 wd744 wd837) rfl rfl rfl (by decide +kernel) ⟨Nat.le_of_ble_eq_true rfl, Nat.le_of_ble_eq_true rfl⟩) hK hN hP hD hSt hS hA [0, 2, 1, 3] rfl (by decide) 0 8 rfl rfl rfl hl.1 rfl (Nat.le_of_ble_eq_true rfl) dX9_readLine_136 ⟨Nat.zero_le _, Nat.zero_le _⟩) hP hD hS hA [0, 2, 1, 3] [] rfl rfl (by decide) (by decide) [0, 2, 1, 3] (by decide) rfl rfl (fun H locs hP hD hS => ?_)
      refine lv_goto (tgt := 252) hx hb dX9_readLine_139 (by decide) ?_
      exact J252 vM_fresh_136 vM_letters_136 vM_136 H locs ls hP hD hS (lv_sub hl [] rfl) hok
  have J97 : ∀ (t0_97 : Int32) (vM_letters_97 : Nat → Int32) (vM_97 : Nat → Int32), ∀ (H : Heap) (locs : List Loc) (ls : Array Slot), va_P D vwCl (wX9_readLine cy aM qM vM_97 vM_letters_97 vM_fresh vM_tape) H → va_D A (wX9_readLine cy aM qM vM_97 vM_letters_97 vM_fresh vM_tape) → va_S A s.heap H locs → lv_has ls 1 [(0, .ref aM)] → fX9_readLine_J97 vM_fresh vM_tape t0_97 vM_letters_97 vM_97 = some (z_vM, z_vM_letters, z_vM_fresh) → W p l e ({ frames := 9, cells := 0, slots := 0, locals := 200 } : Room) s m ([.ref aM] : List Value).toArray below meth c H locs 0 0 Q (F0 m 97 ls [.int t0_97, .ref (ad.1 6), .ref aM]) := by
    intro t0_97 vM_letters_97 vM_97 H locs ls hP hD hS hl hok
    unfold fX9_readLine_J97 at hok
    obtain ⟨⟨r97, vM_97, vM_letters_97⟩, hc97, hok⟩ := k_bind hok
    try dsimp only at hok
    refine kCi (wc := (wX9_begins cy aM qM vM_97 vM_letters_97 vM_fresh vM_tape)) (wc2 := (wX9_begins cy aM qM vM_97 vM_letters_97 vM_fresh vM_tape)) (wr := []) (ws2 := (wX9_readLine cy aM qM vM_97 vM_letters_97 vM_fresh vM_tape)) (kRunVS (As := [.ref (ad.1 6), .int t0_97]) (rest := []) ⟨hx, hb, hml, hown, ht0⟩ (kX9_begins l D cy ad _ aM qM vM_97 vM_letters_97 vM_fresh vM_tape 6 t0_97 r97 vM_97 vM_letters_97 hc97 _ rfl) (cwV 2 ht0 (gV wd822 wd823 wd824 wd744 wd825) rfl rfl rfl (by decide +kernel) ⟨Nat.le_of_ble_eq_true rfl, Nat.le_of_ble_eq_true rfl⟩) hK hN hP hD hSt hS hA [0, 1, 2, 3] rfl (by decide) 0 8 rfl rfl rfl hl.1 rfl (Nat.le_of_ble_eq_true rfl) dX9_readLine_97 ⟨Nat.zero_le _, Nat.zero_le _⟩) hP hD hS hA [0, 1, 2, 3] [] rfl rfl (by decide) (by decide) [0, 1, 2, 3] (by decide) rfl rfl (fun H locs hP hD hS => ?_)
    refine lv_if_eq (tgt := 110) hx hb dX9_readLine_100 (by decide) (fun c100 => ?_) (fun c100 => ?_)
    · have hok := k_pos c100 hok
      refine lv_aload_n hx hb dX9_readLine_110 rfl (lv_at hl 0 rfl) ?_
      refine va_ldcS hx hb hown (hSt.2.1 _ (List.mem_of_getElem? (i := 26) rfl)) dX9_readLine_111 ?_
      refine lv_aload_n hx hb dX9_readLine_113 rfl (lv_at hl 0 rfl) ?_
      refine va_get (D := D) (ci := 8) (v := .ref (qM 16)) (C := RX9) (T := TX9) (N := 29) hx hb ht0 niX9 hown hK hP 0 rfl rfl 16 (by decide) (ht0 _ wd778) (fun _ h9 => h9) rfl dX9_readLine_114 ?_
      refine lv_iconst (v := 3) hx hb dX9_readLine_117 (by decide) ?_
      obtain ⟨g118, hok⟩ := gd_some hok
      refine va_iald hx hb hK hP 2 0 rfl rfl (okI_in g118) dX9_readLine_118 ?_
      refine lv_bipush (v := 7) hx hb dX9_readLine_119 (by decide) ?_
      refine lv_icmp_ge (tgt := 128) hx hb dX9_readLine_121 (by decide) (fun c121 => ?_) (fun c121 => ?_)
      · have hok := k_pos c121 hok
        refine lv_iconst (v := 0) hx hb dX9_readLine_128 (by decide) ?_
        exact J129 (0 : Int32) vM_letters_97 vM_97 H locs ls hP hD hS (lv_sub hl [0] rfl) hok
      · have hok := k_neg c121 hok
        refine lv_iconst (v := 1) hx hb dX9_readLine_124 (by decide) ?_
        refine lv_goto (tgt := 129) hx hb dX9_readLine_125 (by decide) ?_
        exact J129 (1 : Int32) vM_letters_97 vM_97 H locs ls hP hD hS (lv_sub hl [0] rfl) hok
    · have hok := k_neg c100 hok
      refine lv_aload_n hx hb dX9_readLine_103 rfl (lv_at hl 0 rfl) ?_
      obtain ⟨⟨vM_104, vM_fresh_104, vM_letters_104⟩, hc104, hok⟩ := k_bind hok
      try dsimp only at hok
      refine kCv (wc := (wX9_doorLine cy aM qM vM_97 vM_fresh vM_letters_97 vM_tape)) (wc2 := (wX9_doorLine cy aM qM vM_104 vM_fresh_104 vM_letters_104 vM_tape)) (wr := []) (ws2 := (wX9_readLine cy aM qM vM_104 vM_letters_104 vM_fresh_104 vM_tape)) (kRunVS (As := []) (rest := []) ⟨hx, hb, hml, hown, ht0⟩ (kX9_doorLine l D cy ad _ aM qM vM_97 vM_fresh vM_letters_97 vM_tape vM_104 vM_fresh_104 vM_letters_104 hc104 _ rfl) (cwV 0 ht0 (gV wd838 wd839 wd840 wd744 wd841) rfl rfl rfl (by decide +kernel) ⟨Nat.le_of_ble_eq_true rfl, Nat.le_of_ble_eq_true rfl⟩) hK hN hP hD hSt hS hA [0, 2, 1, 3] rfl (by decide) 0 8 rfl rfl rfl hl.1 rfl (Nat.le_of_ble_eq_true rfl) dX9_readLine_104 ⟨Nat.zero_le _, Nat.zero_le _⟩) hP hD hS hA [0, 2, 1, 3] [] rfl rfl (by decide) (by decide) [0, 2, 1, 3] (by decide) rfl rfl (fun H locs hP hD hS => ?_)
      refine lv_goto (tgt := 252) hx hb dX9_readLine_107 (by decide) ?_
      exact J252 vM_fresh_104 vM_letters_104 vM_104 H locs ls hP hD hS (lv_sub hl [] rfl) hok
  have J66 : ∀ (t0_66 : Int32) (vM_letters_66 : Nat → Int32) (vM_66 : Nat → Int32), ∀ (H : Heap) (locs : List Loc) (ls : Array Slot), va_P D vwCl (wX9_readLine cy aM qM vM_66 vM_letters_66 vM_fresh vM_tape) H → va_D A (wX9_readLine cy aM qM vM_66 vM_letters_66 vM_fresh vM_tape) → va_S A s.heap H locs → lv_has ls 1 [(0, .ref aM)] → fX9_readLine_J66 vM_fresh vM_tape t0_66 vM_letters_66 vM_66 = some (z_vM, z_vM_letters, z_vM_fresh) → W p l e ({ frames := 9, cells := 0, slots := 0, locals := 200 } : Room) s m ([.ref aM] : List Value).toArray below meth c H locs 0 0 Q (F0 m 66 ls [.int t0_66, .ref (ad.1 11), .ref aM]) := by
    intro t0_66 vM_letters_66 vM_66 H locs ls hP hD hS hl hok
    unfold fX9_readLine_J66 at hok
    obtain ⟨⟨r66, vM_66, vM_letters_66⟩, hc66, hok⟩ := k_bind hok
    try dsimp only at hok
    refine kCi (wc := (wX9_begins cy aM qM vM_66 vM_letters_66 vM_fresh vM_tape)) (wc2 := (wX9_begins cy aM qM vM_66 vM_letters_66 vM_fresh vM_tape)) (wr := []) (ws2 := (wX9_readLine cy aM qM vM_66 vM_letters_66 vM_fresh vM_tape)) (kRunVS (As := [.ref (ad.1 11), .int t0_66]) (rest := []) ⟨hx, hb, hml, hown, ht0⟩ (kX9_begins l D cy ad _ aM qM vM_66 vM_letters_66 vM_fresh vM_tape 11 t0_66 r66 vM_66 vM_letters_66 hc66 _ rfl) (cwV 2 ht0 (gV wd822 wd823 wd824 wd744 wd825) rfl rfl rfl (by decide +kernel) ⟨Nat.le_of_ble_eq_true rfl, Nat.le_of_ble_eq_true rfl⟩) hK hN hP hD hSt hS hA [0, 1, 2, 3] rfl (by decide) 0 8 rfl rfl rfl hl.1 rfl (Nat.le_of_ble_eq_true rfl) dX9_readLine_66 ⟨Nat.zero_le _, Nat.zero_le _⟩) hP hD hS hA [0, 1, 2, 3] [] rfl rfl (by decide) (by decide) [0, 1, 2, 3] (by decide) rfl rfl (fun H locs hP hD hS => ?_)
    refine lv_if_eq (tgt := 79) hx hb dX9_readLine_69 (by decide) (fun c69 => ?_) (fun c69 => ?_)
    · have hok := k_pos c69 hok
      refine lv_aload_n hx hb dX9_readLine_79 rfl (lv_at hl 0 rfl) ?_
      refine va_ldcS hx hb hown (hSt.2.1 _ (List.mem_of_getElem? (i := 25) rfl)) dX9_readLine_80 ?_
      refine lv_aload_n hx hb dX9_readLine_82 rfl (lv_at hl 0 rfl) ?_
      refine va_get (D := D) (ci := 8) (v := .ref (qM 16)) (C := RX9) (T := TX9) (N := 29) hx hb ht0 niX9 hown hK hP 0 rfl rfl 16 (by decide) (ht0 _ wd778) (fun _ h9 => h9) rfl dX9_readLine_83 ?_
      refine lv_iconst (v := 5) hx hb dX9_readLine_86 (by decide) ?_
      obtain ⟨g87, hok⟩ := gd_some hok
      refine va_iald hx hb hK hP 2 0 rfl rfl (okI_in g87) dX9_readLine_87 ?_
      refine lv_iconst (v := 5) hx hb dX9_readLine_88 (by decide) ?_
      refine lv_icmp_ge (tgt := 96) hx hb dX9_readLine_89 (by decide) (fun c89 => ?_) (fun c89 => ?_)
      · have hok := k_pos c89 hok
        refine lv_iconst (v := 0) hx hb dX9_readLine_96 (by decide) ?_
        exact J97 (0 : Int32) vM_letters_66 vM_66 H locs ls hP hD hS (lv_sub hl [0] rfl) hok
      · have hok := k_neg c89 hok
        refine lv_iconst (v := 1) hx hb dX9_readLine_92 (by decide) ?_
        refine lv_goto (tgt := 97) hx hb dX9_readLine_93 (by decide) ?_
        exact J97 (1 : Int32) vM_letters_66 vM_66 H locs ls hP hD hS (lv_sub hl [0] rfl) hok
    · have hok := k_neg c69 hok
      refine lv_aload_n hx hb dX9_readLine_72 rfl (lv_at hl 0 rfl) ?_
      obtain ⟨⟨vM_73, vM_letters_73, vM_fresh_73⟩, hc73, hok⟩ := k_bind hok
      try dsimp only at hok
      refine kCv (wc := (wX9_narrowLine cy aM qM vM_66 vM_letters_66 vM_fresh vM_tape)) (wc2 := (wX9_narrowLine cy aM qM vM_73 vM_letters_73 vM_fresh_73 vM_tape)) (wr := []) (ws2 := (wX9_readLine cy aM qM vM_73 vM_letters_73 vM_fresh_73 vM_tape)) (kRunVS (As := []) (rest := []) ⟨hx, hb, hml, hown, ht0⟩ (kX9_narrowLine l D cy ad _ aM qM vM_66 vM_letters_66 vM_fresh vM_tape vM_73 vM_letters_73 vM_fresh_73 hc73 _ rfl) (cwV 0 ht0 (gV wd842 wd843 wd844 wd744 wd845) rfl rfl rfl (by decide +kernel) ⟨Nat.le_of_ble_eq_true rfl, Nat.le_of_ble_eq_true rfl⟩) hK hN hP hD hSt hS hA [0, 1, 2, 3] rfl (by decide) 0 8 rfl rfl rfl hl.1 rfl (Nat.le_of_ble_eq_true rfl) dX9_readLine_73 ⟨Nat.zero_le _, Nat.zero_le _⟩) hP hD hS hA [0, 1, 2, 3] [] rfl rfl (by decide) (by decide) [0, 1, 2, 3] (by decide) rfl rfl (fun H locs hP hD hS => ?_)
      refine lv_goto (tgt := 252) hx hb dX9_readLine_76 (by decide) ?_
      exact J252 vM_fresh_73 vM_letters_73 vM_73 H locs ls hP hD hS (lv_sub hl [] rfl) hok
  have J34 : ∀ (t0_34 : Int32), ∀ (H : Heap) (locs : List Loc) (ls : Array Slot), va_P D vwCl (wX9_readLine cy aM qM vM vM_letters vM_fresh vM_tape) H → va_D A (wX9_readLine cy aM qM vM vM_letters vM_fresh vM_tape) → va_S A s.heap H locs → lv_has ls 1 [(0, .ref aM)] → fX9_readLine_J34 vM vM_letters vM_fresh vM_tape t0_34 = some (z_vM, z_vM_letters, z_vM_fresh) → W p l e ({ frames := 9, cells := 0, slots := 0, locals := 200 } : Room) s m ([.ref aM] : List Value).toArray below meth c H locs 0 0 Q (F0 m 34 ls [.int t0_34, .ref (ad.1 18), .ref aM]) := by
    intro t0_34 H locs ls hP hD hS hl hok
    unfold fX9_readLine_J34 at hok
    obtain ⟨⟨r34, vM_34, vM_letters_34⟩, hc34, hok⟩ := k_bind hok
    try dsimp only at hok
    refine kCi (wc := (wX9_begins cy aM qM vM vM_letters vM_fresh vM_tape)) (wc2 := (wX9_begins cy aM qM vM_34 vM_letters_34 vM_fresh vM_tape)) (wr := []) (ws2 := (wX9_readLine cy aM qM vM_34 vM_letters_34 vM_fresh vM_tape)) (kRunVS (As := [.ref (ad.1 18), .int t0_34]) (rest := []) ⟨hx, hb, hml, hown, ht0⟩ (kX9_begins l D cy ad _ aM qM vM vM_letters vM_fresh vM_tape 18 t0_34 r34 vM_34 vM_letters_34 hc34 _ rfl) (cwV 2 ht0 (gV wd822 wd823 wd824 wd744 wd825) rfl rfl rfl (by decide +kernel) ⟨Nat.le_of_ble_eq_true rfl, Nat.le_of_ble_eq_true rfl⟩) hK hN hP hD hSt hS hA [0, 1, 2, 3] rfl (by decide) 0 8 rfl rfl rfl hl.1 rfl (Nat.le_of_ble_eq_true rfl) dX9_readLine_34 ⟨Nat.zero_le _, Nat.zero_le _⟩) hP hD hS hA [0, 1, 2, 3] [] rfl rfl (by decide) (by decide) [0, 1, 2, 3] (by decide) rfl rfl (fun H locs hP hD hS => ?_)
    refine lv_if_eq (tgt := 47) hx hb dX9_readLine_37 (by decide) (fun c37 => ?_) (fun c37 => ?_)
    · have hok := k_pos c37 hok
      refine lv_aload_n hx hb dX9_readLine_47 rfl (lv_at hl 0 rfl) ?_
      refine va_ldcS hx hb hown (hSt.2.1 _ (List.mem_of_getElem? (i := 24) rfl)) dX9_readLine_48 ?_
      refine lv_aload_n hx hb dX9_readLine_50 rfl (lv_at hl 0 rfl) ?_
      refine va_get (D := D) (ci := 8) (v := .ref (qM 16)) (C := RX9) (T := TX9) (N := 29) hx hb ht0 niX9 hown hK hP 0 rfl rfl 16 (by decide) (ht0 _ wd778) (fun _ h9 => h9) rfl dX9_readLine_51 ?_
      refine lv_iconst (v := 4) hx hb dX9_readLine_54 (by decide) ?_
      obtain ⟨g55, hok⟩ := gd_some hok
      refine va_iald hx hb hK hP 2 0 rfl rfl (okI_in g55) dX9_readLine_55 ?_
      refine lv_bipush (v := 6) hx hb dX9_readLine_56 (by decide) ?_
      refine lv_icmp_ge (tgt := 65) hx hb dX9_readLine_58 (by decide) (fun c58 => ?_) (fun c58 => ?_)
      · have hok := k_pos c58 hok
        refine lv_iconst (v := 0) hx hb dX9_readLine_65 (by decide) ?_
        exact J66 (0 : Int32) vM_letters_34 vM_34 H locs ls hP hD hS (lv_sub hl [0] rfl) hok
      · have hok := k_neg c58 hok
        refine lv_iconst (v := 1) hx hb dX9_readLine_61 (by decide) ?_
        refine lv_goto (tgt := 66) hx hb dX9_readLine_62 (by decide) ?_
        exact J66 (1 : Int32) vM_letters_34 vM_34 H locs ls hP hD hS (lv_sub hl [0] rfl) hok
    · have hok := k_neg c37 hok
      refine lv_aload_n hx hb dX9_readLine_40 rfl (lv_at hl 0 rfl) ?_
      obtain ⟨⟨vM_41, vM_fresh_41, vM_letters_41⟩, hc41, hok⟩ := k_bind hok
      try dsimp only at hok
      refine kCv (wc := (wX9_ringLine cy aM qM vM_34 vM_fresh vM_letters_34 vM_tape)) (wc2 := (wX9_ringLine cy aM qM vM_41 vM_fresh_41 vM_letters_41 vM_tape)) (wr := []) (ws2 := (wX9_readLine cy aM qM vM_41 vM_letters_41 vM_fresh_41 vM_tape)) (kRunVS (As := []) (rest := []) ⟨hx, hb, hml, hown, ht0⟩ (kX9_ringLine l D cy ad _ aM qM vM_34 vM_fresh vM_letters_34 vM_tape vM_41 vM_fresh_41 vM_letters_41 hc41 _ rfl) (cwV 0 ht0 (gV wd846 wd847 wd848 wd744 wd849) rfl rfl rfl (by decide +kernel) ⟨Nat.le_of_ble_eq_true rfl, Nat.le_of_ble_eq_true rfl⟩) hK hN hP hD hSt hS hA [0, 2, 1, 3] rfl (by decide) 0 8 rfl rfl rfl hl.1 rfl (Nat.le_of_ble_eq_true rfl) dX9_readLine_41 ⟨Nat.zero_le _, Nat.zero_le _⟩) hP hD hS hA [0, 2, 1, 3] [] rfl rfl (by decide) (by decide) [0, 2, 1, 3] (by decide) rfl rfl (fun H locs hP hD hS => ?_)
      refine lv_goto (tgt := 252) hx hb dX9_readLine_44 (by decide) ?_
      exact J252 vM_fresh_41 vM_letters_41 vM_41 H locs ls hP hD hS (lv_sub hl [] rfl) hok
  unfold fX9_readLine at hok
  obtain ⟨H, hH⟩ : ∃ H, H = s.heap := ⟨_, rfl⟩
  obtain ⟨locs, hlc⟩ : ∃ x : List Loc, x = [] := ⟨_, rfl⟩
  have hP : va_P D vwCl (wX9_readLine cy aM qM vM vM_letters vM_fresh vM_tape) H := by rw [hH]; exact hP
  have hS : va_S A s.heap H locs := by rw [hH, hlc]; exact hS
  rw [show W p l e _ s m _ below meth c s.heap [] = W p l e _ s m _ below meth c H locs from by rw [hH, hlc]]
  refine lv_aload_n hx hb dX9_readLine_0 rfl (lv_at hl 0 rfl) ?_
  refine va_ldcS hx hb hown (hSt.2.1 _ (List.mem_of_getElem? (i := 22) rfl)) dX9_readLine_1 ?_
  obtain ⟨r3, hc3, hok⟩ := k_bind hok
  refine kCi (wc := (wX9_isWord cy aM qM vM vM_letters)) (wc2 := (wX9_isWord cy aM qM vM vM_letters)) (wr := [(qM 16, rI cy 224 vM_fresh), (qM 1, rI cy 900 vM_tape)]) (ws2 := (wX9_readLine cy aM qM vM vM_letters vM_fresh vM_tape)) (kRunVS (As := [.ref (ad.1 8)]) (rest := []) ⟨hx, hb, hml, hown, ht0⟩ (kX9_isWord l D cy ad _ aM qM vM vM_letters 8 r3 hc3 _ rfl) (cwV 1 ht0 (gV wd762 wd763 wd764 wd744 wd765) rfl rfl rfl (by decide +kernel) ⟨Nat.le_of_ble_eq_true rfl, Nat.le_of_ble_eq_true rfl⟩) hK hN hP hD hSt hS hA [0, 1] rfl (by decide) 0 8 rfl rfl rfl hl.1 rfl (Nat.le_of_ble_eq_true rfl) dX9_readLine_3 ⟨Nat.zero_le _, Nat.zero_le _⟩) hP hD hS hA [0, 1] [2, 3] rfl rfl (by decide) (by decide) [2, 3, 0, 1] (by decide) rfl rfl (fun H locs hP hD hS => ?_)
  refine lv_if_eq (tgt := 16) hx hb dX9_readLine_6 (by decide) (fun c6 => ?_) (fun c6 => ?_)
  · have hok := k_pos c6 hok
    refine lv_aload_n hx hb dX9_readLine_16 rfl (lv_at hl 0 rfl) ?_
    refine va_ldcS hx hb hown (hSt.2.1 _ (List.mem_of_getElem? (i := 23) rfl)) dX9_readLine_17 ?_
    refine lv_aload_n hx hb dX9_readLine_19 rfl (lv_at hl 0 rfl) ?_
    refine va_get (D := D) (ci := 8) (v := .ref (qM 16)) (C := RX9) (T := TX9) (N := 29) hx hb ht0 niX9 hown hK hP 0 rfl rfl 16 (by decide) (ht0 _ wd778) (fun _ h9 => h9) rfl dX9_readLine_20 ?_
    refine lv_iconst (v := 2) hx hb dX9_readLine_23 (by decide) ?_
    obtain ⟨g24, hok⟩ := gd_some hok
    refine va_iald hx hb hK hP 2 0 rfl rfl (okI_in g24) dX9_readLine_24 ?_
    refine lv_iconst (v := 4) hx hb dX9_readLine_25 (by decide) ?_
    refine lv_icmp_ge (tgt := 33) hx hb dX9_readLine_26 (by decide) (fun c26 => ?_) (fun c26 => ?_)
    · have hok := k_pos c26 hok
      refine lv_iconst (v := 0) hx hb dX9_readLine_33 (by decide) ?_
      exact J34 (0 : Int32) H locs ls hP hD hS (lv_sub hl [0] rfl) hok
    · have hok := k_neg c26 hok
      refine lv_iconst (v := 1) hx hb dX9_readLine_29 (by decide) ?_
      refine lv_goto (tgt := 34) hx hb dX9_readLine_30 (by decide) ?_
      exact J34 (1 : Int32) H locs ls hP hD hS (lv_sub hl [0] rfl) hok
  · have hok := k_neg c6 hok
    refine lv_aload_n hx hb dX9_readLine_9 rfl (lv_at hl 0 rfl) ?_
    obtain ⟨⟨vM_10, vM_fresh_10, vM_letters_10⟩, hc10, hok⟩ := k_bind hok
    try dsimp only at hok
    refine kCv (wc := (wX9_houseLine cy aM qM vM vM_fresh vM_tape vM_letters)) (wc2 := (wX9_houseLine cy aM qM vM_10 vM_fresh_10 vM_tape vM_letters_10)) (wr := []) (ws2 := (wX9_readLine cy aM qM vM_10 vM_letters_10 vM_fresh_10 vM_tape)) (kRunVS (As := []) (rest := []) ⟨hx, hb, hml, hown, ht0⟩ (kX9_houseLine l D cy ad _ aM qM vM vM_fresh vM_tape vM_letters vM_10 vM_fresh_10 vM_letters_10 hc10 _ rfl) (cwV 0 ht0 (gV wd850 wd851 wd852 wd744 wd853) rfl rfl rfl (by decide +kernel) ⟨Nat.le_of_ble_eq_true rfl, Nat.le_of_ble_eq_true rfl⟩) hK hN hP hD hSt hS hA [0, 2, 3, 1] rfl (by decide) 0 8 rfl rfl rfl hl.1 rfl (Nat.le_of_ble_eq_true rfl) dX9_readLine_10 ⟨Nat.zero_le _, Nat.zero_le _⟩) hP hD hS hA [0, 2, 3, 1] [] rfl rfl (by decide) (by decide) [0, 3, 1, 2] (by decide) rfl rfl (fun H locs hP hD hS => ?_)
    refine lv_goto (tgt := 252) hx hb dX9_readLine_13 (by decide) ?_
    exact J252 vM_fresh_10 vM_letters_10 vM_10 H locs ls hP hD hS (lv_sub hl [] rfl) hok
def wsX9_house : List Cond := .code yX9_house cX9_house 3 (some .int) :: W0
abbrev wX9_house (cy : Nat → ClassId) (aM : Nat) (qM : Nat → Nat) (vM : Nat → Int32) (vM_tape : Nat → Int32) (vM_letters : Nat → Int32) (vM_fresh : Nat → Int32) (vM_r : Nat → Int32) (vM_st : Nat → Int32) : va_W := [(aM, oX9 vM qM), (qM 1, rI cy 900 vM_tape), (qM 12, rI cy 8 vM_letters), (qM 16, rI cy 224 vM_fresh), (qM 15, rI cy 224 vM_r), (qM 17, rI cy 9 vM_st)]
set_option maxHeartbeats 4000000 in
set_option maxRecDepth 100000 in
theorem kX9_house (l : Launch) (D : va_G) (cy : Nat → ClassId) (ad : (Nat → Nat) × (Nat → Nat)) (sz : Nat) (aM : Nat) (qM : Nat → Nat) (vM : Nat → Int32) (vM_tape : Nat → Int32) (vM_letters : Nat → Int32) (vM_fresh : Nat → Int32) (vM_r : Nat → Int32) (vM_st : Nat → Int32) (x1 : Int32) (zr : Int32) (z_vM : Nat → Int32) (z_vM_letters : Nat → Int32) (z_vM_fresh : Nat → Int32) (z_vM_r : Nat → Int32) (z_vM_st : Nat → Int32) (hok : fX9_house vM vM_tape vM_letters vM_fresh vM_r vM_st x1 = some (zr, z_vM, z_vM_letters, z_vM_fresh, z_vM_r, z_vM_st)) (A : Nat → Prop) (hAe : va_A (wX9_house cy aM qM vM vM_tape vM_letters vM_fresh vM_r vM_st) sz = A) : Met l yX9_house wsX9_house ({ frames := 10, cells := 0, slots := 0, locals := 220 } : Room) (kPreS D cy ad [.ref aM, .int x1] (wX9_house cy aM qM vM vM_tape vM_letters vM_fresh vM_r vM_st) sz A) (kQi D cy zr A (wX9_house cy aM qM z_vM vM_tape z_vM_letters z_vM_fresh z_vM_r z_vM_st)) 0 0 A := by
  refine Met.ofW (cc := cX9_house) (maxL := 3) (ret := (some .int)) (by decide) rfl ?_
  intro p e s m args below meth c s₁ B hml hv
  obtain ⟨rfl, ⟨hsz, hP, hK, hD0, hN⟩, hSt⟩ := hv
  have hx := B.exec
  have hb := B.bytes
  have hr := B.returns
  have ht0 : ∀ w ∈ W0, w.before _ s = true := fun w h => atoms_spec (ws := wsX9_house) B.pre w (List.mem_cons_of_mem _ h)
  have hown : s.vm.findClass RX9 = some m.cls := findClass_of_methodNamed B.named
  have hlocks := B.notSynchronized
  subst hsz
  have hD : va_D A (wX9_house cy aM qM vM vM_tape vM_letters vM_fresh vM_r vM_st) := by rw [← hAe]; exact hD0.self
  have hA : ∀ q : Nat, s.heap.size ≤ q → A q := fun q h => by rw [← hAe]; exact Or.inr h
  have hS : va_S A s.heap s.heap [] := va_S.rf
  have hl := lv_entry ([.ref aM, .int x1]) (n := 3) (Nat.le_of_ble_eq_true rfl)
  rw [lg_entry_eq]
  generalize (lg_sl ([.ref aM, .int x1]) ++ List.replicate (3 - (lg_sl ([.ref aM, .int x1])).length) Slot.unset).toArray = ls at hl ⊢
  have hl : lv_has ls 3 [(0, .ref aM), (1, .int x1)] := hl
  generalize hQe : MQ below (kQi D cy zr A (wX9_house cy aM qM z_vM vM_tape z_vM_letters z_vM_fresh z_vM_r z_vM_st)) ([.ref aM, .int x1] : List Value).toArray s 0 0 A = Q
  have L214 : ∀ (fuel : Nat) (y2_214 : Int32) (vM_fresh_214 : Nat → Int32) (vM_letters_214 : Nat → Int32) (vM_r_214 : Nat → Int32) (vM_st_214 : Nat → Int32) (vM_214 : Nat → Int32), ∀ (H : Heap) (locs : List Loc) (ls : Array Slot), va_P D vwCl (wX9_house cy aM qM vM_214 vM_tape vM_letters_214 vM_fresh_214 vM_r_214 vM_st_214) H → va_D A (wX9_house cy aM qM vM_214 vM_tape vM_letters_214 vM_fresh_214 vM_r_214 vM_st_214) → va_S A s.heap H locs → lv_has ls 3 [(0, .ref aM), (2, .int y2_214)] → lp (fX9_house_B214) fuel (y2_214, vM_fresh_214, vM_letters_214, vM_r_214, vM_st_214, vM_214) = some (zr, z_vM, z_vM_letters, z_vM_fresh, z_vM_r, z_vM_st) → W p l e ({ frames := 10, cells := 0, slots := 0, locals := 220 } : Room) s m ([.ref aM, .int x1] : List Value).toArray below meth c H locs 0 0 Q (F0 m 214 ls []) := by
    intro fuel
    induction fuel with
    | zero => intro y2_214 vM_fresh_214 vM_letters_214 vM_r_214 vM_st_214 vM_214 H locs ls hP hD hS hl hok; exact (lp_0 hok).elim
    | succ fuel ih214 =>
      intro y2_214 vM_fresh_214 vM_letters_214 vM_r_214 vM_st_214 vM_214 H locs ls hP hD hS hl hok
      obtain ⟨y214, hok, hL214, hR214⟩ := lp_step hok
      unfold fX9_house_B214 at hok
      try dsimp only at hok
      refine lv_iload_n hx hb dX9_house_214 rfl (lv_at hl 1 rfl) ?_
      refine lv_aload_n hx hb dX9_house_215 rfl (lv_at hl 0 rfl) ?_
      refine va_get (D := D) (ci := 8) (v := .ref (qM 15)) (C := RX9) (T := TX9) (N := 29) hx hb ht0 niX9 hown hK hP 0 rfl rfl 15 (by decide) (ht0 _ wd854) (fun _ h9 => h9) rfl dX9_house_216 ?_
      refine lv_iconst (v := 3) hx hb dX9_house_219 (by decide) ?_
      obtain ⟨g220, hok⟩ := gd_some hok
      refine va_iald hx hb hK hP 4 0 rfl rfl (okI_in g220) dX9_house_220 ?_
      refine lv_icmp_ge (tgt := 249) hx hb dX9_house_221 (by decide) (fun c221 => ?_) (fun c221 => ?_)
      · have hok := k_pos c221 hok
        obtain ⟨e214, hok, he214⟩ := ex_some hok
        have hok := hok.trans (congrArg some (hL214 _ he214))
        refine lv_aload_n hx hb dX9_house_249 rfl (lv_at hl 0 rfl) ?_
        refine lv_iconst (v := 1) hx hb dX9_house_250 (by decide) ?_
        refine va_put (D := D) (ci := 8) (v := .int 1) (ty := .boolean) (C := RX9) (T := TX9) (N := 29) hx hb ht0 niX9 tyX9 tyX9_ok nmX9 hown hK hP hD hS 0 rfl rfl 14 (by decide) (ht0 _ wd855) (fun _ h9 => h9) rfl (by decide +kernel) rfl rfl (Nat.le_of_ble_eq_true rfl) dX9_house_251 (fun H locs hP hD hS => ?_)
        have hP : va_P D vwCl (wX9_house cy aM qM (upd vM_214 14 (1 : Int32)) vM_tape vM_letters_214 vM_fresh_214 vM_r_214 vM_st_214) H := hP
        have hD : va_D A (wX9_house cy aM qM (upd vM_214 14 (1 : Int32)) vM_tape vM_letters_214 vM_fresh_214 vM_r_214 vM_st_214) := hD
        refine lv_aload_n hx hb dX9_house_254 rfl (lv_at hl 0 rfl) ?_
        refine lv_iconst (v := 0) hx hb dX9_house_255 (by decide) ?_
        refine va_put (D := D) (ci := 8) (v := .int 0) (ty := .int) (C := RX9) (T := TX9) (N := 29) hx hb ht0 niX9 tyX9 tyX9_ok nmX9 hown hK hP hD hS 0 rfl rfl 20 (by decide) (ht0 _ wd856) (fun _ h9 => h9) rfl (by decide +kernel) rfl rfl (Nat.le_of_ble_eq_true rfl) dX9_house_256 (fun H locs hP hD hS => ?_)
        have hP : va_P D vwCl (wX9_house cy aM qM (upd (upd vM_214 14 (1 : Int32)) 20 (0 : Int32)) vM_tape vM_letters_214 vM_fresh_214 vM_r_214 vM_st_214) H := hP
        have hD : va_D A (wX9_house cy aM qM (upd (upd vM_214 14 (1 : Int32)) 20 (0 : Int32)) vM_tape vM_letters_214 vM_fresh_214 vM_r_214 vM_st_214) := hD
        refine lv_aload_n hx hb dX9_house_259 rfl (lv_at hl 0 rfl) ?_
        refine lv_iconst (v := 0) hx hb dX9_house_260 (by decide) ?_
        refine va_put (D := D) (ci := 8) (v := .int 0) (ty := .int) (C := RX9) (T := TX9) (N := 29) hx hb ht0 niX9 tyX9 tyX9_ok nmX9 hown hK hP hD hS 0 rfl rfl 21 (by decide) (ht0 _ wd857) (fun _ h9 => h9) rfl (by decide +kernel) rfl rfl (Nat.le_of_ble_eq_true rfl) dX9_house_261 (fun H locs hP hD hS => ?_)
        have hP : va_P D vwCl (wX9_house cy aM qM (upd (upd (upd vM_214 14 (1 : Int32)) 20 (0 : Int32)) 21 (0 : Int32)) vM_tape vM_letters_214 vM_fresh_214 vM_r_214 vM_st_214) H := hP
        have hD : va_D A (wX9_house cy aM qM (upd (upd (upd vM_214 14 (1 : Int32)) 20 (0 : Int32)) 21 (0 : Int32)) vM_tape vM_letters_214 vM_fresh_214 vM_r_214 vM_st_214) := hD
        refine lv_aload_n hx hb dX9_house_264 rfl (lv_at hl 0 rfl) ?_
        refine va_get (D := D) (ci := 8) (v := .ref (qM 15)) (C := RX9) (T := TX9) (N := 29) hx hb ht0 niX9 hown hK hP 0 rfl rfl 15 (by decide) (ht0 _ wd854) (fun _ h9 => h9) rfl dX9_house_265 ?_
        refine lv_iconst (v := 2) hx hb dX9_house_268 (by decide) ?_
        obtain ⟨g269, hok⟩ := gd_some hok
        refine va_iald hx hb hK hP 4 0 rfl rfl (okI_in g269) dX9_house_269 ?_
        cases hok
        subst hQe; exact W.iret hx hb hr (fun t ht hW => ⟨⟨_, (), rfl, rfl, by rw [ht]; exact hP, va_K.moved hW.alike hK, hD⟩, hS.F ht⟩) hS.2.2 dX9_house_270
      · have hok := k_neg c221 hok
        refine lv_aload_n hx hb dX9_house_224 rfl (lv_at hl 0 rfl) ?_
        refine va_get (D := D) (ci := 8) (v := .ref (qM 17)) (C := RX9) (T := TX9) (N := 29) hx hb ht0 niX9 hown hK hP 0 rfl rfl 17 (by decide) (ht0 _ wd858) (fun _ h9 => h9) rfl dX9_house_225 ?_
        refine lv_iload_n hx hb dX9_house_228 rfl (lv_at hl 1 rfl) ?_
        refine lv_aload_n hx hb dX9_house_229 rfl (lv_at hl 0 rfl) ?_
        refine va_get (D := D) (ci := 8) (v := .ref (qM 15)) (C := RX9) (T := TX9) (N := 29) hx hb ht0 niX9 hown hK hP 0 rfl rfl 15 (by decide) (ht0 _ wd854) (fun _ h9 => h9) rfl dX9_house_230 ?_
        refine lv_bipush (v := 62) hx hb dX9_house_233 (by decide) ?_
        refine lv_iconst (v := 3) hx hb dX9_house_235 (by decide) ?_
        refine lv_iload_n hx hb dX9_house_236 rfl (lv_at hl 1 rfl) ?_
        refine lv_imul hx hb dX9_house_237 ?_
        refine lv_iadd hx hb dX9_house_238 ?_
        refine lv_iconst (v := 1) hx hb dX9_house_239 (by decide) ?_
        refine lv_iadd hx hb dX9_house_240 ?_
        obtain ⟨g241, hok⟩ := gd_some hok
        refine va_iald hx hb hK hP 4 0 rfl rfl (okI_in g241) dX9_house_241 ?_
        obtain ⟨g242, hok⟩ := gd_some hok
        refine va_iast hx hb hK hP hD hS 5 0 rfl rfl (okI_in g242) dX9_house_242 (fun H locs hP hD hS => ?_)
        have hP : va_P D vwCl (wX9_house cy aM qM vM_214 vM_tape vM_letters_214 vM_fresh_214 vM_r_214 (upd vM_st_214 y2_214.toNatClampNeg (vM_r_214 (((62 : Int32) + ((3 : Int32) * y2_214)) + (1 : Int32)).toNatClampNeg))) H := hP
        have hD : va_D A (wX9_house cy aM qM vM_214 vM_tape vM_letters_214 vM_fresh_214 vM_r_214 (upd vM_st_214 y2_214.toNatClampNeg (vM_r_214 (((62 : Int32) + ((3 : Int32) * y2_214)) + (1 : Int32)).toNatClampNeg))) := hD
        refine lv_iinc (v := (y2_214 + 1)) (lv' := [(2, .int (y2_214 + 1)), (0, .ref aM)]) hx hb dX9_house_243 hl (k := 1) rfl (by first | rfl | decide) (by decide) rfl (fun ls hl => ?_)
        refine lv_goto (tgt := 214) hx hb dX9_house_246 (by decide) ?_
        exact ih214 (y2_214 + 1) vM_fresh_214 vM_letters_214 vM_r_214 (upd vM_st_214 y2_214.toNatClampNeg (vM_r_214 (((62 : Int32) + ((3 : Int32) * y2_214)) + (1 : Int32)).toNatClampNeg)) vM_214 H locs ls hP hD hS (lv_sub hl [1, 0] rfl) (hR214 _ (Option.some.inj hok).symm)
  have L193 : ∀ (fuel : Nat) (y2_193 : Int32) (vM_fresh_193 : Nat → Int32) (vM_letters_193 : Nat → Int32) (vM_r_193 : Nat → Int32) (vM_st_193 : Nat → Int32) (vM_193 : Nat → Int32), ∀ (H : Heap) (locs : List Loc) (ls : Array Slot), va_P D vwCl (wX9_house cy aM qM vM_193 vM_tape vM_letters_193 vM_fresh_193 vM_r_193 vM_st_193) H → va_D A (wX9_house cy aM qM vM_193 vM_tape vM_letters_193 vM_fresh_193 vM_r_193 vM_st_193) → va_S A s.heap H locs → lv_has ls 3 [(0, .ref aM), (2, .int y2_193)] → lp (fX9_house_B193) fuel (y2_193, vM_fresh_193, vM_letters_193, vM_r_193, vM_st_193, vM_193) = some (zr, z_vM, z_vM_letters, z_vM_fresh, z_vM_r, z_vM_st) → W p l e ({ frames := 10, cells := 0, slots := 0, locals := 220 } : Room) s m ([.ref aM, .int x1] : List Value).toArray below meth c H locs 0 0 Q (F0 m 193 ls []) := by
    intro fuel
    induction fuel with
    | zero => intro y2_193 vM_fresh_193 vM_letters_193 vM_r_193 vM_st_193 vM_193 H locs ls hP hD hS hl hok; exact (lp_0 hok).elim
    | succ fuel ih193 =>
      intro y2_193 vM_fresh_193 vM_letters_193 vM_r_193 vM_st_193 vM_193 H locs ls hP hD hS hl hok
      obtain ⟨y193, hok, hL193, hR193⟩ := lp_step hok
      unfold fX9_house_B193 at hok
      try dsimp only at hok
      refine lv_iload_n hx hb dX9_house_193 rfl (lv_at hl 1 rfl) ?_
      refine lv_bipush (v := 9) hx hb dX9_house_194 (by decide) ?_
      refine lv_icmp_ge (tgt := 212) hx hb dX9_house_196 (by decide) (fun c196 => ?_) (fun c196 => ?_)
      · have hok := k_pos c196 hok
        obtain ⟨e193, hok, he193⟩ := ex_some hok
        have hok := hok.trans (congrArg some (hL193 _ he193))
        refine lv_iconst (v := 0) hx hb dX9_house_212 (by decide) ?_
        refine lv_istore_n (lv' := [(2, .int 0), (0, .ref aM)]) hx hb dX9_house_213 rfl hl (by decide) rfl (fun ls hl => ?_)
        exact L214 5000 (0 : Int32) vM_fresh_193 vM_letters_193 vM_r_193 vM_st_193 vM_193 H locs ls hP hD hS (lv_sub hl [1, 0] rfl) hok
      · have hok := k_neg c196 hok
        refine lv_aload_n hx hb dX9_house_199 rfl (lv_at hl 0 rfl) ?_
        refine va_get (D := D) (ci := 8) (v := .ref (qM 17)) (C := RX9) (T := TX9) (N := 29) hx hb ht0 niX9 hown hK hP 0 rfl rfl 17 (by decide) (ht0 _ wd858) (fun _ h9 => h9) rfl dX9_house_200 ?_
        refine lv_iload_n hx hb dX9_house_203 rfl (lv_at hl 1 rfl) ?_
        refine lv_iconst (v := 0) hx hb dX9_house_204 (by decide) ?_
        obtain ⟨g205, hok⟩ := gd_some hok
        refine va_iast hx hb hK hP hD hS 5 0 rfl rfl (okI_in g205) dX9_house_205 (fun H locs hP hD hS => ?_)
        have hP : va_P D vwCl (wX9_house cy aM qM vM_193 vM_tape vM_letters_193 vM_fresh_193 vM_r_193 (upd vM_st_193 y2_193.toNatClampNeg (0 : Int32))) H := hP
        have hD : va_D A (wX9_house cy aM qM vM_193 vM_tape vM_letters_193 vM_fresh_193 vM_r_193 (upd vM_st_193 y2_193.toNatClampNeg (0 : Int32))) := hD
        refine lv_iinc (v := (y2_193 + 1)) (lv' := [(2, .int (y2_193 + 1)), (0, .ref aM)]) hx hb dX9_house_206 hl (k := 1) rfl (by first | rfl | decide) (by decide) rfl (fun ls hl => ?_)
        refine lv_goto (tgt := 193) hx hb dX9_house_209 (by decide) ?_
        exact ih193 (y2_193 + 1) vM_fresh_193 vM_letters_193 vM_r_193 (upd vM_st_193 y2_193.toNatClampNeg (0 : Int32)) vM_193 H locs ls hP hD hS (lv_sub hl [1, 0] rfl) (hR193 _ (Option.some.inj hok).symm)
  have J162 : ∀ (vM_fresh_162 : Nat → Int32) (vM_letters_162 : Nat → Int32) (vM_162 : Nat → Int32), ∀ (H : Heap) (locs : List Loc) (ls : Array Slot), va_P D vwCl (wX9_house cy aM qM vM_162 vM_tape vM_letters_162 vM_fresh_162 vM_r vM_st) H → va_D A (wX9_house cy aM qM vM_162 vM_tape vM_letters_162 vM_fresh_162 vM_r vM_st) → va_S A s.heap H locs → lv_has ls 3 [(0, .ref aM)] → fX9_house_J162 vM_r vM_st vM_fresh_162 vM_letters_162 vM_162 = some (zr, z_vM, z_vM_letters, z_vM_fresh, z_vM_r, z_vM_st) → W p l e ({ frames := 10, cells := 0, slots := 0, locals := 220 } : Room) s m ([.ref aM, .int x1] : List Value).toArray below meth c H locs 0 0 Q (F0 m 162 ls []) := by
    intro vM_fresh_162 vM_letters_162 vM_162 H locs ls hP hD hS hl hok
    unfold fX9_house_J162 at hok
    refine lv_aload_n hx hb dX9_house_162 rfl (lv_at hl 0 rfl) ?_
    refine va_get (D := D) (ci := 8) (v := .int (vM_162 13)) (C := RX9) (T := TX9) (N := 29) hx hb ht0 niX9 hown hK hP 0 rfl rfl 13 (by decide) (ht0 _ wd757) (fun _ h9 => h9) rfl dX9_house_163 ?_
    refine lv_if_eq (tgt := 175) hx hb dX9_house_166 (by decide) (fun c166 => ?_) (fun c166 => ?_)
    · have hok := k_pos c166 hok
      refine lv_aload_n hx hb dX9_house_175 rfl (lv_at hl 0 rfl) ?_
      refine va_get (D := D) (ci := 8) (v := .ref (qM 16)) (C := RX9) (T := TX9) (N := 29) hx hb ht0 niX9 hown hK hP 0 rfl rfl 16 (by decide) (ht0 _ wd778) (fun _ h9 => h9) rfl dX9_house_176 ?_
      refine lv_iconst (v := 0) hx hb dX9_house_179 (by decide) ?_
      refine lv_aload_n hx hb dX9_house_180 rfl (lv_at hl 0 rfl) ?_
      refine va_get (D := D) (ci := 8) (v := .ref (qM 15)) (C := RX9) (T := TX9) (N := 29) hx hb ht0 niX9 hown hK hP 0 rfl rfl 15 (by decide) (ht0 _ wd854) (fun _ h9 => h9) rfl dX9_house_181 ?_
      refine lv_iconst (v := 0) hx hb dX9_house_184 (by decide) ?_
      refine lv_sipush (v := 224) hx hb dX9_house_185 (by decide) ?_
      obtain ⟨p2_188, hc188, hok⟩ := k_bind hok
      refine kCv (wc := (wX9_copy cy (qM 16) (qM 15) 224 vM_fresh_162 224 vM_r)) (wc2 := (wX9_copy cy (qM 16) (qM 15) 224 vM_fresh_162 224 p2_188)) (wr := [(aM, oX9 vM_162 qM), (qM 1, rI cy 900 vM_tape), (qM 12, rI cy 8 vM_letters_162), (qM 17, rI cy 9 vM_st)]) (ws2 := (wX9_house cy aM qM vM_162 vM_tape vM_letters_162 vM_fresh_162 p2_188 vM_st)) (kRunS (As := [.ref (qM 16), .int 0, .ref (qM 15), .int 0, .int 224]) (rest := []) ⟨hx, hb, hml, hown, ht0⟩ (kX9_copy l D cy _ (qM 16) (qM 15) 224 vM_fresh_162 224 vM_r (0 : Int32) (0 : Int32) (224 : Int32) p2_188 hc188 _ rfl) (va_cwS 5 ht0 (gS wd859 wd860 wd744 wd861) rfl rfl rfl (by decide +kernel) ⟨Nat.le_of_ble_eq_true rfl, Nat.le_of_ble_eq_true rfl⟩) hK hN hP hD [3, 4] rfl (by decide) rfl hl.1 rfl (Nat.le_of_ble_eq_true rfl) dX9_house_188 ⟨Nat.zero_le _, Nat.zero_le _⟩) hP hD hS hA [3, 4] [0, 1, 2, 5] rfl rfl (by decide) (by decide) [0, 1, 2, 4, 5, 3] (by decide) rfl rfl (fun H locs hP hD hS => ?_)
      refine lv_iconst (v := 0) hx hb dX9_house_191 (by decide) ?_
      refine lv_istore_n (lv' := [(2, .int 0), (0, .ref aM)]) hx hb dX9_house_192 rfl hl (by decide) rfl (fun ls hl => ?_)
      exact L193 5000 (0 : Int32) vM_fresh_162 vM_letters_162 p2_188 vM_st vM_162 H locs ls hP hD hS (lv_sub hl [1, 0] rfl) hok
    · have hok := k_neg c166 hok
      refine lv_aload_n hx hb dX9_house_169 rfl (lv_at hl 0 rfl) ?_
      refine lv_iconst (v := 4) hx hb dX9_house_170 (by decide) ?_
      obtain ⟨⟨r171, vM_171⟩, hc171, hok⟩ := k_bind hok
      try dsimp only at hok
      refine kCi (wc := (wX9_no cy aM qM vM_162)) (wc2 := (wX9_no cy aM qM vM_171)) (wr := [(qM 1, rI cy 900 vM_tape), (qM 12, rI cy 8 vM_letters_162), (qM 16, rI cy 224 vM_fresh_162), (qM 15, rI cy 224 vM_r), (qM 17, rI cy 9 vM_st)]) (ws2 := (wX9_house cy aM qM vM_171 vM_tape vM_letters_162 vM_fresh_162 vM_r vM_st)) (kRunV (As := [.int 4]) (rest := []) ⟨hx, hb, hml, hown, ht0⟩ (kX9_no l D cy _ aM qM vM_162 (4 : Int32) r171 vM_171 hc171 _ rfl) (cwV 1 ht0 (gV wd862 wd863 wd864 wd744 wd865) rfl rfl rfl (by decide +kernel) ⟨Nat.le_of_ble_eq_true rfl, Nat.le_of_ble_eq_true rfl⟩) hK hN hP hD [0] rfl (by decide) 0 8 rfl rfl rfl hl.1 rfl (Nat.le_of_ble_eq_true rfl) dX9_house_171 ⟨Nat.zero_le _, Nat.zero_le _⟩) hP hD hS hA [0] [1, 2, 3, 4, 5] rfl rfl (by decide) (by decide) [5, 0, 1, 2, 3, 4] (by decide) rfl rfl (fun H locs hP hD hS => ?_)
      cases hok
      subst hQe; exact W.iret hx hb hr (fun t ht hW => ⟨⟨_, (), rfl, rfl, by rw [ht]; exact hP, va_K.moved hW.alike hK, hD⟩, hS.F ht⟩) hS.2.2 dX9_house_174
  have J152 : ∀ (vM_fresh_152 : Nat → Int32) (vM_letters_152 : Nat → Int32) (vM_152 : Nat → Int32), ∀ (H : Heap) (locs : List Loc) (ls : Array Slot), va_P D vwCl (wX9_house cy aM qM vM_152 vM_tape vM_letters_152 vM_fresh_152 vM_r vM_st) H → va_D A (wX9_house cy aM qM vM_152 vM_tape vM_letters_152 vM_fresh_152 vM_r vM_st) → va_S A s.heap H locs → lv_has ls 3 [(0, .ref aM)] → fX9_house_J152 vM_r vM_st vM_fresh_152 vM_letters_152 vM_152 = some (zr, z_vM, z_vM_letters, z_vM_fresh, z_vM_r, z_vM_st) → W p l e ({ frames := 10, cells := 0, slots := 0, locals := 220 } : Room) s m ([.ref aM, .int x1] : List Value).toArray below meth c H locs 0 0 Q (F0 m 152 ls []) := by
    intro vM_fresh_152 vM_letters_152 vM_152 H locs ls hP hD hS hl hok
    unfold fX9_house_J152 at hok
    refine lv_aload_n hx hb dX9_house_152 rfl (lv_at hl 0 rfl) ?_
    refine lv_bipush (v := 6) hx hb dX9_house_153 (by decide) ?_
    refine lv_aload_n hx hb dX9_house_155 rfl (lv_at hl 0 rfl) ?_
    refine va_get (D := D) (ci := 8) (v := .int (vM_152 4)) (C := RX9) (T := TX9) (N := 29) hx hb ht0 niX9 hown hK hP 0 rfl rfl 4 (by decide) (ht0 _ wd756) (fun _ h9 => h9) rfl dX9_house_156 ?_
    obtain ⟨vM_159, hc159, hok⟩ := k_bind hok
    refine kCv (wc := (wX9_wrong cy aM qM vM_152)) (wc2 := (wX9_wrong cy aM qM vM_159)) (wr := [(qM 1, rI cy 900 vM_tape), (qM 12, rI cy 8 vM_letters_152), (qM 16, rI cy 224 vM_fresh_152), (qM 15, rI cy 224 vM_r), (qM 17, rI cy 9 vM_st)]) (ws2 := (wX9_house cy aM qM vM_159 vM_tape vM_letters_152 vM_fresh_152 vM_r vM_st)) (kRunV (As := [.int 6, .int (vM_152 4)]) (rest := []) ⟨hx, hb, hml, hown, ht0⟩ (kX9_wrong l D cy _ aM qM vM_152 (6 : Int32) (vM_152 4) vM_159 hc159 _ rfl) (cwV 2 ht0 (gV wd774 wd775 wd776 wd744 wd777) rfl rfl rfl (by decide +kernel) ⟨Nat.le_of_ble_eq_true rfl, Nat.le_of_ble_eq_true rfl⟩) hK hN hP hD [0] rfl (by decide) 0 8 rfl rfl rfl hl.1 rfl (Nat.le_of_ble_eq_true rfl) dX9_house_159 ⟨Nat.zero_le _, Nat.zero_le _⟩) hP hD hS hA [0] [1, 2, 3, 4, 5] rfl rfl (by decide) (by decide) [5, 0, 1, 2, 3, 4] (by decide) rfl rfl (fun H locs hP hD hS => ?_)
    exact J162 vM_fresh_152 vM_letters_152 vM_159 H locs ls hP hD hS (lv_sub hl [0] rfl) hok
  have J127 : ∀ (vM_fresh_127 : Nat → Int32) (vM_letters_127 : Nat → Int32) (vM_127 : Nat → Int32), ∀ (H : Heap) (locs : List Loc) (ls : Array Slot), va_P D vwCl (wX9_house cy aM qM vM_127 vM_tape vM_letters_127 vM_fresh_127 vM_r vM_st) H → va_D A (wX9_house cy aM qM vM_127 vM_tape vM_letters_127 vM_fresh_127 vM_r vM_st) → va_S A s.heap H locs → lv_has ls 3 [(0, .ref aM)] → fX9_house_J127 vM_r vM_st vM_fresh_127 vM_letters_127 vM_127 = some (zr, z_vM, z_vM_letters, z_vM_fresh, z_vM_r, z_vM_st) → W p l e ({ frames := 10, cells := 0, slots := 0, locals := 220 } : Room) s m ([.ref aM, .int x1] : List Value).toArray below meth c H locs 0 0 Q (F0 m 127 ls []) := by
    intro vM_fresh_127 vM_letters_127 vM_127 H locs ls hP hD hS hl hok
    unfold fX9_house_J127 at hok
    refine lv_aload_n hx hb dX9_house_127 rfl (lv_at hl 0 rfl) ?_
    refine va_get (D := D) (ci := 8) (v := .int (vM_127 13)) (C := RX9) (T := TX9) (N := 29) hx hb ht0 niX9 hown hK hP 0 rfl rfl 13 (by decide) (ht0 _ wd757) (fun _ h9 => h9) rfl dX9_house_128 ?_
    refine lv_if_ne (tgt := 162) hx hb dX9_house_131 (by decide) (fun c131 => ?_) (fun c131 => ?_)
    · have hok := k_neg c131 hok
      exact J162 vM_fresh_127 vM_letters_127 vM_127 H locs ls hP hD hS (lv_sub hl [0] rfl) hok
    · have hok := k_pos c131 hok
      refine lv_aload_n hx hb dX9_house_134 rfl (lv_at hl 0 rfl) ?_
      refine va_get (D := D) (ci := 8) (v := .ref (qM 16)) (C := RX9) (T := TX9) (N := 29) hx hb ht0 niX9 hown hK hP 0 rfl rfl 16 (by decide) (ht0 _ wd778) (fun _ h9 => h9) rfl dX9_house_135 ?_
      refine lv_iconst (v := 0) hx hb dX9_house_138 (by decide) ?_
      obtain ⟨g139, hok⟩ := gd_some hok
      refine va_iald hx hb hK hP 3 0 rfl rfl (okI_in g139) dX9_house_139 ?_
      refine lv_if_eq (tgt := 152) hx hb dX9_house_140 (by decide) (fun c140 => ?_) (fun c140 => ?_)
      · have hok := k_pos c140 hok
        exact J152 vM_fresh_127 vM_letters_127 vM_127 H locs ls hP hD hS (lv_sub hl [0] rfl) hok
      · have hok := k_neg c140 hok
        refine lv_aload_n hx hb dX9_house_143 rfl (lv_at hl 0 rfl) ?_
        refine va_get (D := D) (ci := 8) (v := .ref (qM 16)) (C := RX9) (T := TX9) (N := 29) hx hb ht0 niX9 hown hK hP 0 rfl rfl 16 (by decide) (ht0 _ wd778) (fun _ h9 => h9) rfl dX9_house_144 ?_
        refine lv_iconst (v := 2) hx hb dX9_house_147 (by decide) ?_
        obtain ⟨g148, hok⟩ := gd_some hok
        refine va_iald hx hb hK hP 3 0 rfl rfl (okI_in g148) dX9_house_148 ?_
        refine lv_if_ne (tgt := 162) hx hb dX9_house_149 (by decide) (fun c149 => ?_) (fun c149 => ?_)
        · have hok := k_neg c149 hok
          exact J162 vM_fresh_127 vM_letters_127 vM_127 H locs ls hP hD hS (lv_sub hl [0] rfl) hok
        · have hok := k_pos c149 hok
          exact J152 vM_fresh_127 vM_letters_127 vM_127 H locs ls hP hD hS (lv_sub hl [0] rfl) hok
  have J104 : ∀ (vM_fresh_104 : Nat → Int32) (vM_letters_104 : Nat → Int32) (vM_104 : Nat → Int32), ∀ (H : Heap) (locs : List Loc) (ls : Array Slot), va_P D vwCl (wX9_house cy aM qM vM_104 vM_tape vM_letters_104 vM_fresh_104 vM_r vM_st) H → va_D A (wX9_house cy aM qM vM_104 vM_tape vM_letters_104 vM_fresh_104 vM_r vM_st) → va_S A s.heap H locs → lv_has ls 3 [(0, .ref aM)] → fX9_house_J104 vM_r vM_st vM_fresh_104 vM_letters_104 vM_104 = some (zr, z_vM, z_vM_letters, z_vM_fresh, z_vM_r, z_vM_st) → W p l e ({ frames := 10, cells := 0, slots := 0, locals := 220 } : Room) s m ([.ref aM, .int x1] : List Value).toArray below meth c H locs 0 0 Q (F0 m 104 ls []) := by
    intro vM_fresh_104 vM_letters_104 vM_104 H locs ls hP hD hS hl hok
    unfold fX9_house_J104 at hok
    refine lv_aload_n hx hb dX9_house_104 rfl (lv_at hl 0 rfl) ?_
    refine va_get (D := D) (ci := 8) (v := .int (vM_104 13)) (C := RX9) (T := TX9) (N := 29) hx hb ht0 niX9 hown hK hP 0 rfl rfl 13 (by decide) (ht0 _ wd757) (fun _ h9 => h9) rfl dX9_house_105 ?_
    refine lv_if_ne (tgt := 127) hx hb dX9_house_108 (by decide) (fun c108 => ?_) (fun c108 => ?_)
    · have hok := k_neg c108 hok
      exact J127 vM_fresh_104 vM_letters_104 vM_104 H locs ls hP hD hS (lv_sub hl [0] rfl) hok
    · have hok := k_pos c108 hok
      refine lv_aload_n hx hb dX9_house_111 rfl (lv_at hl 0 rfl) ?_
      refine va_get (D := D) (ci := 8) (v := .int (vM_104 6)) (C := RX9) (T := TX9) (N := 29) hx hb ht0 niX9 hown hK hP 0 rfl rfl 6 (by decide) (ht0 _ wd740) (fun _ h9 => h9) rfl dX9_house_112 ?_
      refine lv_if_eq (tgt := 127) hx hb dX9_house_115 (by decide) (fun c115 => ?_) (fun c115 => ?_)
      · have hok := k_pos c115 hok
        exact J127 vM_fresh_104 vM_letters_104 vM_104 H locs ls hP hD hS (lv_sub hl [0] rfl) hok
      · have hok := k_neg c115 hok
        refine lv_aload_n hx hb dX9_house_118 rfl (lv_at hl 0 rfl) ?_
        refine lv_iconst (v := 1) hx hb dX9_house_119 (by decide) ?_
        refine lv_aload_n hx hb dX9_house_120 rfl (lv_at hl 0 rfl) ?_
        refine va_get (D := D) (ci := 8) (v := .int (vM_104 4)) (C := RX9) (T := TX9) (N := 29) hx hb ht0 niX9 hown hK hP 0 rfl rfl 4 (by decide) (ht0 _ wd756) (fun _ h9 => h9) rfl dX9_house_121 ?_
        obtain ⟨vM_124, hc124, hok⟩ := k_bind hok
        refine kCv (wc := (wX9_wrong cy aM qM vM_104)) (wc2 := (wX9_wrong cy aM qM vM_124)) (wr := [(qM 1, rI cy 900 vM_tape), (qM 12, rI cy 8 vM_letters_104), (qM 16, rI cy 224 vM_fresh_104), (qM 15, rI cy 224 vM_r), (qM 17, rI cy 9 vM_st)]) (ws2 := (wX9_house cy aM qM vM_124 vM_tape vM_letters_104 vM_fresh_104 vM_r vM_st)) (kRunV (As := [.int 1, .int (vM_104 4)]) (rest := []) ⟨hx, hb, hml, hown, ht0⟩ (kX9_wrong l D cy _ aM qM vM_104 (1 : Int32) (vM_104 4) vM_124 hc124 _ rfl) (cwV 2 ht0 (gV wd774 wd775 wd776 wd744 wd777) rfl rfl rfl (by decide +kernel) ⟨Nat.le_of_ble_eq_true rfl, Nat.le_of_ble_eq_true rfl⟩) hK hN hP hD [0] rfl (by decide) 0 8 rfl rfl rfl hl.1 rfl (Nat.le_of_ble_eq_true rfl) dX9_house_124 ⟨Nat.zero_le _, Nat.zero_le _⟩) hP hD hS hA [0] [1, 2, 3, 4, 5] rfl rfl (by decide) (by decide) [5, 0, 1, 2, 3, 4] (by decide) rfl rfl (fun H locs hP hD hS => ?_)
        exact J127 vM_fresh_104 vM_letters_104 vM_124 H locs ls hP hD hS (lv_sub hl [0] rfl) hok
  have L77 : ∀ (fuel : Nat) (vM_fresh_77 : Nat → Int32) (vM_letters_77 : Nat → Int32) (vM_77 : Nat → Int32), ∀ (H : Heap) (locs : List Loc) (ls : Array Slot), va_P D vwCl (wX9_house cy aM qM vM_77 vM_tape vM_letters_77 vM_fresh_77 vM_r vM_st) H → va_D A (wX9_house cy aM qM vM_77 vM_tape vM_letters_77 vM_fresh_77 vM_r vM_st) → va_S A s.heap H locs → lv_has ls 3 [(0, .ref aM)] → lp (fX9_house_B77 vM_tape vM_r vM_st) fuel (vM_fresh_77, vM_letters_77, vM_77) = some (zr, z_vM, z_vM_letters, z_vM_fresh, z_vM_r, z_vM_st) → W p l e ({ frames := 10, cells := 0, slots := 0, locals := 220 } : Room) s m ([.ref aM, .int x1] : List Value).toArray below meth c H locs 0 0 Q (F0 m 77 ls []) := by
    intro fuel
    induction fuel with
    | zero => intro vM_fresh_77 vM_letters_77 vM_77 H locs ls hP hD hS hl hok; exact (lp_0 hok).elim
    | succ fuel ih77 =>
      intro vM_fresh_77 vM_letters_77 vM_77 H locs ls hP hD hS hl hok
      obtain ⟨y77, hok, hL77, hR77⟩ := lp_step hok
      unfold fX9_house_B77 at hok
      try dsimp only at hok
      refine lv_aload_n hx hb dX9_house_77 rfl (lv_at hl 0 rfl) ?_
      refine va_get (D := D) (ci := 8) (v := .int (vM_77 13)) (C := RX9) (T := TX9) (N := 29) hx hb ht0 niX9 hown hK hP 0 rfl rfl 13 (by decide) (ht0 _ wd757) (fun _ h9 => h9) rfl dX9_house_78 ?_
      refine lv_if_ne (tgt := 104) hx hb dX9_house_81 (by decide) (fun c81 => ?_) (fun c81 => ?_)
      · have hok := k_neg c81 hok
        obtain ⟨e77, hok, he77⟩ := ex_some hok
        have hok := hok.trans (congrArg some (hL77 _ he77))
        exact J104 vM_fresh_77 vM_letters_77 vM_77 H locs ls hP hD hS (lv_sub hl [0] rfl) hok
      · have hok := k_pos c81 hok
        refine lv_aload_n hx hb dX9_house_84 rfl (lv_at hl 0 rfl) ?_
        refine va_get (D := D) (ci := 8) (v := .int (vM_77 6)) (C := RX9) (T := TX9) (N := 29) hx hb ht0 niX9 hown hK hP 0 rfl rfl 6 (by decide) (ht0 _ wd740) (fun _ h9 => h9) rfl dX9_house_85 ?_
        refine lv_bipush (v := 59) hx hb dX9_house_88 (by decide) ?_
        refine lv_icmp_ne (tgt := 104) hx hb dX9_house_90 (by decide) (fun c90 => ?_) (fun c90 => ?_)
        · have hok := k_neg c90 hok
          obtain ⟨e77, hok, he77⟩ := ex_some hok
          have hok := hok.trans (congrArg some (hL77 _ he77))
          exact J104 vM_fresh_77 vM_letters_77 vM_77 H locs ls hP hD hS (lv_sub hl [0] rfl) hok
        · have hok := k_pos c90 hok
          refine lv_aload_n hx hb dX9_house_93 rfl (lv_at hl 0 rfl) ?_
          obtain ⟨⟨vM_94, vM_letters_94⟩, hc94, hok⟩ := k_bind hok
          try dsimp only at hok
          refine kCv (wc := (wX9_next cy aM qM vM_77 vM_tape vM_letters_77)) (wc2 := (wX9_next cy aM qM vM_94 vM_tape vM_letters_94)) (wr := [(qM 16, rI cy 224 vM_fresh_77), (qM 15, rI cy 224 vM_r), (qM 17, rI cy 9 vM_st)]) (ws2 := (wX9_house cy aM qM vM_94 vM_tape vM_letters_94 vM_fresh_77 vM_r vM_st)) (kRunV (As := []) (rest := []) ⟨hx, hb, hml, hown, ht0⟩ (kX9_next l D cy _ aM qM vM_77 vM_tape vM_letters_77 vM_94 vM_letters_94 hc94 _ rfl) (cwV 0 ht0 (gV wd766 wd767 wd768 wd744 wd769) rfl rfl rfl (by decide +kernel) ⟨Nat.le_of_ble_eq_true rfl, Nat.le_of_ble_eq_true rfl⟩) hK hN hP hD [0, 1, 2] rfl (by decide) 0 8 rfl rfl rfl hl.1 rfl (Nat.le_of_ble_eq_true rfl) dX9_house_94 ⟨Nat.zero_le _, Nat.zero_le _⟩) hP hD hS hA [0, 1, 2] [3, 4, 5] rfl rfl (by decide) (by decide) [3, 4, 5, 0, 1, 2] (by decide) rfl rfl (fun H locs hP hD hS => ?_)
          refine lv_aload_n hx hb dX9_house_97 rfl (lv_at hl 0 rfl) ?_
          obtain ⟨⟨vM_98, vM_letters_98, vM_fresh_98⟩, hc98, hok⟩ := k_bind hok
          try dsimp only at hok
          refine kCv (wc := (wX9_readLine cy aM qM vM_94 vM_letters_94 vM_fresh_77 vM_tape)) (wc2 := (wX9_readLine cy aM qM vM_98 vM_letters_98 vM_fresh_98 vM_tape)) (wr := [(qM 15, rI cy 224 vM_r), (qM 17, rI cy 9 vM_st)]) (ws2 := (wX9_house cy aM qM vM_98 vM_tape vM_letters_98 vM_fresh_98 vM_r vM_st)) (kRunVS (As := []) (rest := []) ⟨hx, hb, hml, hown, ht0⟩ (kX9_readLine l D cy ad _ aM qM vM_94 vM_letters_94 vM_fresh_77 vM_tape vM_98 vM_letters_98 vM_fresh_98 hc98 _ rfl) (cwV 0 ht0 (gV wd866 wd867 wd868 wd744 wd869) rfl rfl rfl (by decide +kernel) ⟨Nat.le_of_ble_eq_true rfl, Nat.le_of_ble_eq_true rfl⟩) hK hN hP hD hSt hS hA [0, 2, 3, 1] rfl (by decide) 0 8 rfl rfl rfl hl.1 rfl (Nat.le_of_ble_eq_true rfl) dX9_house_98 ⟨Nat.zero_le _, Nat.zero_le _⟩) hP hD hS hA [0, 2, 3, 1] [4, 5] rfl rfl (by decide) (by decide) [2, 5, 3, 4, 0, 1] (by decide) rfl rfl (fun H locs hP hD hS => ?_)
          refine lv_goto (tgt := 77) hx hb dX9_house_101 (by decide) ?_
          exact ih77 vM_fresh_98 vM_letters_98 vM_98 H locs ls hP hD hS (lv_sub hl [0] rfl) (hR77 _ (Option.some.inj hok).symm)
  have L39 : ∀ (fuel : Nat) (y2_39 : Int32) (vM_fresh_39 : Nat → Int32) (vM_39 : Nat → Int32), ∀ (H : Heap) (locs : List Loc) (ls : Array Slot), va_P D vwCl (wX9_house cy aM qM vM_39 vM_tape vM_letters vM_fresh_39 vM_r vM_st) H → va_D A (wX9_house cy aM qM vM_39 vM_tape vM_letters vM_fresh_39 vM_r vM_st) → va_S A s.heap H locs → lv_has ls 3 [(0, .ref aM), (1, .int x1), (2, .int y2_39)] → lp (fX9_house_B39 vM_tape vM_letters vM_r vM_st x1) fuel (y2_39, vM_fresh_39, vM_39) = some (zr, z_vM, z_vM_letters, z_vM_fresh, z_vM_r, z_vM_st) → W p l e ({ frames := 10, cells := 0, slots := 0, locals := 220 } : Room) s m ([.ref aM, .int x1] : List Value).toArray below meth c H locs 0 0 Q (F0 m 39 ls []) := by
    intro fuel
    induction fuel with
    | zero => intro y2_39 vM_fresh_39 vM_39 H locs ls hP hD hS hl hok; exact (lp_0 hok).elim
    | succ fuel ih39 =>
      intro y2_39 vM_fresh_39 vM_39 H locs ls hP hD hS hl hok
      obtain ⟨y39, hok, hL39, hR39⟩ := lp_step hok
      unfold fX9_house_B39 at hok
      try dsimp only at hok
      refine lv_iload_n hx hb dX9_house_39 rfl (lv_at hl 2 rfl) ?_
      refine lv_sipush (v := 224) hx hb dX9_house_40 (by decide) ?_
      refine lv_icmp_ge (tgt := 59) hx hb dX9_house_43 (by decide) (fun c43 => ?_) (fun c43 => ?_)
      · have hok := k_pos c43 hok
        obtain ⟨e39, hok, he39⟩ := ex_some hok
        have hok := hok.trans (congrArg some (hL39 _ he39))
        refine lv_aload_n hx hb dX9_house_59 rfl (lv_at hl 0 rfl) ?_
        refine lv_iload_n hx hb dX9_house_60 rfl (lv_at hl 1 rfl) ?_
        refine va_put (D := D) (ci := 8) (v := .int x1) (ty := .int) (C := RX9) (T := TX9) (N := 29) hx hb ht0 niX9 tyX9 tyX9_ok nmX9 hown hK hP hD hS 0 rfl rfl 3 (by decide) (ht0 _ wd739) (fun _ h9 => h9) rfl (by decide +kernel) rfl rfl (Nat.le_of_ble_eq_true rfl) dX9_house_61 (fun H locs hP hD hS => ?_)
        have hP : va_P D vwCl (wX9_house cy aM qM (upd vM_39 3 x1) vM_tape vM_letters vM_fresh_39 vM_r vM_st) H := hP
        have hD : va_D A (wX9_house cy aM qM (upd vM_39 3 x1) vM_tape vM_letters vM_fresh_39 vM_r vM_st) := hD
        refine lv_aload_n hx hb dX9_house_64 rfl (lv_at hl 0 rfl) ?_
        refine lv_iconst (v := 0) hx hb dX9_house_65 (by decide) ?_
        refine va_put (D := D) (ci := 8) (v := .int 0) (ty := .int) (C := RX9) (T := TX9) (N := 29) hx hb ht0 niX9 tyX9 tyX9_ok nmX9 hown hK hP hD hS 0 rfl rfl 5 (by decide) (ht0 _ wd749) (fun _ h9 => h9) rfl (by decide +kernel) rfl rfl (Nat.le_of_ble_eq_true rfl) dX9_house_66 (fun H locs hP hD hS => ?_)
        have hP : va_P D vwCl (wX9_house cy aM qM (upd (upd vM_39 3 x1) 5 (0 : Int32)) vM_tape vM_letters vM_fresh_39 vM_r vM_st) H := hP
        have hD : va_D A (wX9_house cy aM qM (upd (upd vM_39 3 x1) 5 (0 : Int32)) vM_tape vM_letters vM_fresh_39 vM_r vM_st) := hD
        refine lv_aload_n hx hb dX9_house_69 rfl (lv_at hl 0 rfl) ?_
        obtain ⟨⟨vM_70, vM_letters_70⟩, hc70, hok⟩ := k_bind hok
        try dsimp only at hok
        refine kCv (wc := (wX9_next cy aM qM (upd (upd vM_39 3 x1) 5 (0 : Int32)) vM_tape vM_letters)) (wc2 := (wX9_next cy aM qM vM_70 vM_tape vM_letters_70)) (wr := [(qM 16, rI cy 224 vM_fresh_39), (qM 15, rI cy 224 vM_r), (qM 17, rI cy 9 vM_st)]) (ws2 := (wX9_house cy aM qM vM_70 vM_tape vM_letters_70 vM_fresh_39 vM_r vM_st)) (kRunV (As := []) (rest := []) ⟨hx, hb, hml, hown, ht0⟩ (kX9_next l D cy _ aM qM (upd (upd vM_39 3 x1) 5 (0 : Int32)) vM_tape vM_letters vM_70 vM_letters_70 hc70 _ rfl) (cwV 0 ht0 (gV wd766 wd767 wd768 wd744 wd769) rfl rfl rfl (by decide +kernel) ⟨Nat.le_of_ble_eq_true rfl, Nat.le_of_ble_eq_true rfl⟩) hK hN hP hD [0, 1, 2] rfl (by decide) 0 8 rfl rfl rfl hl.1 rfl (Nat.le_of_ble_eq_true rfl) dX9_house_70 ⟨Nat.zero_le _, Nat.zero_le _⟩) hP hD hS hA [0, 1, 2] [3, 4, 5] rfl rfl (by decide) (by decide) [3, 4, 5, 0, 1, 2] (by decide) rfl rfl (fun H locs hP hD hS => ?_)
        refine lv_aload_n hx hb dX9_house_73 rfl (lv_at hl 0 rfl) ?_
        obtain ⟨⟨vM_74, vM_letters_74, vM_fresh_74⟩, hc74, hok⟩ := k_bind hok
        try dsimp only at hok
        refine kCv (wc := (wX9_readLine cy aM qM vM_70 vM_letters_70 vM_fresh_39 vM_tape)) (wc2 := (wX9_readLine cy aM qM vM_74 vM_letters_74 vM_fresh_74 vM_tape)) (wr := [(qM 15, rI cy 224 vM_r), (qM 17, rI cy 9 vM_st)]) (ws2 := (wX9_house cy aM qM vM_74 vM_tape vM_letters_74 vM_fresh_74 vM_r vM_st)) (kRunVS (As := []) (rest := []) ⟨hx, hb, hml, hown, ht0⟩ (kX9_readLine l D cy ad _ aM qM vM_70 vM_letters_70 vM_fresh_39 vM_tape vM_74 vM_letters_74 vM_fresh_74 hc74 _ rfl) (cwV 0 ht0 (gV wd866 wd867 wd868 wd744 wd869) rfl rfl rfl (by decide +kernel) ⟨Nat.le_of_ble_eq_true rfl, Nat.le_of_ble_eq_true rfl⟩) hK hN hP hD hSt hS hA [0, 2, 3, 1] rfl (by decide) 0 8 rfl rfl rfl hl.1 rfl (Nat.le_of_ble_eq_true rfl) dX9_house_74 ⟨Nat.zero_le _, Nat.zero_le _⟩) hP hD hS hA [0, 2, 3, 1] [4, 5] rfl rfl (by decide) (by decide) [2, 5, 3, 4, 0, 1] (by decide) rfl rfl (fun H locs hP hD hS => ?_)
        exact L77 5000 vM_fresh_74 vM_letters_74 vM_74 H locs ls hP hD hS (lv_sub hl [0] rfl) hok
      · have hok := k_neg c43 hok
        refine lv_aload_n hx hb dX9_house_46 rfl (lv_at hl 0 rfl) ?_
        refine va_get (D := D) (ci := 8) (v := .ref (qM 16)) (C := RX9) (T := TX9) (N := 29) hx hb ht0 niX9 hown hK hP 0 rfl rfl 16 (by decide) (ht0 _ wd778) (fun _ h9 => h9) rfl dX9_house_47 ?_
        refine lv_iload_n hx hb dX9_house_50 rfl (lv_at hl 2 rfl) ?_
        refine lv_iconst (v := 0) hx hb dX9_house_51 (by decide) ?_
        obtain ⟨g52, hok⟩ := gd_some hok
        refine va_iast hx hb hK hP hD hS 3 0 rfl rfl (okI_in g52) dX9_house_52 (fun H locs hP hD hS => ?_)
        have hP : va_P D vwCl (wX9_house cy aM qM vM_39 vM_tape vM_letters (upd vM_fresh_39 y2_39.toNatClampNeg (0 : Int32)) vM_r vM_st) H := hP
        have hD : va_D A (wX9_house cy aM qM vM_39 vM_tape vM_letters (upd vM_fresh_39 y2_39.toNatClampNeg (0 : Int32)) vM_r vM_st) := hD
        refine lv_iinc (v := (y2_39 + 1)) (lv' := [(2, .int (y2_39 + 1)), (0, .ref aM), (1, .int x1)]) hx hb dX9_house_53 hl (k := 2) rfl (by first | rfl | decide) (by decide) rfl (fun ls hl => ?_)
        refine lv_goto (tgt := 39) hx hb dX9_house_56 (by decide) ?_
        exact ih39 (y2_39 + 1) (upd vM_fresh_39 y2_39.toNatClampNeg (0 : Int32)) vM_39 H locs ls hP hD hS (lv_sub hl [1, 2, 0] rfl) (hR39 _ (Option.some.inj hok).symm)
  unfold fX9_house at hok
  obtain ⟨H, hH⟩ : ∃ H, H = s.heap := ⟨_, rfl⟩
  obtain ⟨locs, hlc⟩ : ∃ x : List Loc, x = [] := ⟨_, rfl⟩
  have hP : va_P D vwCl (wX9_house cy aM qM vM vM_tape vM_letters vM_fresh vM_r vM_st) H := by rw [hH]; exact hP
  have hS : va_S A s.heap H locs := by rw [hH, hlc]; exact hS
  rw [show W p l e _ s m _ below meth c s.heap [] = W p l e _ s m _ below meth c H locs from by rw [hH, hlc]]
  refine lv_aload_n hx hb dX9_house_0 rfl (lv_at hl 0 rfl) ?_
  obtain ⟨vM_1, hc1, hok⟩ := k_bind hok
  refine kCv (wc := (wX9_good cy aM qM vM)) (wc2 := (wX9_good cy aM qM vM_1)) (wr := [(qM 1, rI cy 900 vM_tape), (qM 12, rI cy 8 vM_letters), (qM 16, rI cy 224 vM_fresh), (qM 15, rI cy 224 vM_r), (qM 17, rI cy 9 vM_st)]) (ws2 := (wX9_house cy aM qM vM_1 vM_tape vM_letters vM_fresh vM_r vM_st)) (kRunV (As := []) (rest := []) ⟨hx, hb, hml, hown, ht0⟩ (kX9_good l D cy _ aM qM vM vM_1 hc1 _ rfl) (cwV 0 ht0 (gV wd870 wd871 wd872 wd744 wd873) rfl rfl rfl (by decide +kernel) ⟨Nat.le_of_ble_eq_true rfl, Nat.le_of_ble_eq_true rfl⟩) hK hN hP hD [0] rfl (by decide) 0 8 rfl rfl rfl hl.1 rfl (Nat.le_of_ble_eq_true rfl) dX9_house_1 ⟨Nat.zero_le _, Nat.zero_le _⟩) hP hD hS hA [0] [1, 2, 3, 4, 5] rfl rfl (by decide) (by decide) [5, 0, 1, 2, 3, 4] (by decide) rfl rfl (fun H locs hP hD hS => ?_)
  refine lv_iload_n hx hb dX9_house_4 rfl (lv_at hl 1 rfl) ?_
  refine lv_iconst (v := 0) hx hb dX9_house_5 (by decide) ?_
  refine lv_aload_n hx hb dX9_house_6 rfl (lv_at hl 0 rfl) ?_
  refine va_get (D := D) (ci := 8) (v := .int (vM_1 2)) (C := RX9) (T := TX9) (N := 29) hx hb ht0 niX9 hown hK hP 0 rfl rfl 2 (by decide) (ht0 _ wd738) (fun _ h9 => h9) rfl dX9_house_7 ?_
  obtain ⟨r10, hc10, hok⟩ := k_bind hok
  refine kCi (wc := (wX9_in cy )) (wc2 := (wX9_in cy )) (wr := [(aM, oX9 vM_1 qM), (qM 1, rI cy 900 vM_tape), (qM 12, rI cy 8 vM_letters), (qM 16, rI cy 224 vM_fresh), (qM 15, rI cy 224 vM_r), (qM 17, rI cy 9 vM_st)]) (ws2 := (wX9_house cy aM qM vM_1 vM_tape vM_letters vM_fresh vM_r vM_st)) (kRunS (As := [.int x1, .int 0, .int (vM_1 2)]) (rest := []) ⟨hx, hb, hml, hown, ht0⟩ (kX9_in l D cy _ x1 (0 : Int32) (vM_1 2) r10 hc10 _ rfl) (va_cwS 3 ht0 (gS wd787 wd788 wd744 wd789) rfl rfl rfl (by decide +kernel) ⟨Nat.le_of_ble_eq_true rfl, Nat.le_of_ble_eq_true rfl⟩) hK hN hP hD [] rfl (by decide) rfl hl.1 rfl (Nat.le_of_ble_eq_true rfl) dX9_house_10 ⟨Nat.zero_le _, Nat.zero_le _⟩) hP hD hS hA [] [0, 1, 2, 3, 4, 5] rfl rfl (by decide) (by decide) [0, 1, 2, 3, 4, 5] (by decide) rfl rfl (fun H locs hP hD hS => ?_)
  refine lv_if_ne (tgt := 22) hx hb dX9_house_13 (by decide) (fun c13 => ?_) (fun c13 => ?_)
  · have hok := k_neg c13 hok
    refine lv_aload_n hx hb dX9_house_22 rfl (lv_at hl 0 rfl) ?_
    refine lv_iconst (v := 0) hx hb dX9_house_23 (by decide) ?_
    refine va_put (D := D) (ci := 8) (v := .int 0) (ty := .int) (C := RX9) (T := TX9) (N := 29) hx hb ht0 niX9 tyX9 tyX9_ok nmX9 hown hK hP hD hS 0 rfl rfl 2 (by decide) (ht0 _ wd738) (fun _ h9 => h9) rfl (by decide +kernel) rfl rfl (Nat.le_of_ble_eq_true rfl) dX9_house_24 (fun H locs hP hD hS => ?_)
    have hP : va_P D vwCl (wX9_house cy aM qM (upd vM_1 2 (0 : Int32)) vM_tape vM_letters vM_fresh vM_r vM_st) H := hP
    have hD : va_D A (wX9_house cy aM qM (upd vM_1 2 (0 : Int32)) vM_tape vM_letters vM_fresh vM_r vM_st) := hD
    refine lv_aload_n hx hb dX9_house_27 rfl (lv_at hl 0 rfl) ?_
    refine lv_iconst (v := 0) hx hb dX9_house_28 (by decide) ?_
    refine va_put (D := D) (ci := 8) (v := .int 0) (ty := .int) (C := RX9) (T := TX9) (N := 29) hx hb ht0 niX9 tyX9 tyX9_ok nmX9 hown hK hP hD hS 0 rfl rfl 9 (by decide) (ht0 _ wd758) (fun _ h9 => h9) rfl (by decide +kernel) rfl rfl (Nat.le_of_ble_eq_true rfl) dX9_house_29 (fun H locs hP hD hS => ?_)
    have hP : va_P D vwCl (wX9_house cy aM qM (upd (upd vM_1 2 (0 : Int32)) 9 (0 : Int32)) vM_tape vM_letters vM_fresh vM_r vM_st) H := hP
    have hD : va_D A (wX9_house cy aM qM (upd (upd vM_1 2 (0 : Int32)) 9 (0 : Int32)) vM_tape vM_letters vM_fresh vM_r vM_st) := hD
    refine lv_aload_n hx hb dX9_house_32 rfl (lv_at hl 0 rfl) ?_
    refine lv_iconst (v := 0) hx hb dX9_house_33 (by decide) ?_
    refine va_put (D := D) (ci := 8) (v := .int 0) (ty := .boolean) (C := RX9) (T := TX9) (N := 29) hx hb ht0 niX9 tyX9 tyX9_ok nmX9 hown hK hP hD hS 0 rfl rfl 13 (by decide) (ht0 _ wd757) (fun _ h9 => h9) rfl (by decide +kernel) rfl rfl (Nat.le_of_ble_eq_true rfl) dX9_house_34 (fun H locs hP hD hS => ?_)
    have hP : va_P D vwCl (wX9_house cy aM qM (upd (upd (upd vM_1 2 (0 : Int32)) 9 (0 : Int32)) 13 (0 : Int32)) vM_tape vM_letters vM_fresh vM_r vM_st) H := hP
    have hD : va_D A (wX9_house cy aM qM (upd (upd (upd vM_1 2 (0 : Int32)) 9 (0 : Int32)) 13 (0 : Int32)) vM_tape vM_letters vM_fresh vM_r vM_st) := hD
    refine lv_iconst (v := 0) hx hb dX9_house_37 (by decide) ?_
    refine lv_istore_n (lv' := [(2, .int 0), (0, .ref aM), (1, .int x1)]) hx hb dX9_house_38 rfl hl (by decide) rfl (fun ls hl => ?_)
    exact L39 5000 (0 : Int32) vM_fresh (upd (upd (upd vM_1 2 (0 : Int32)) 9 (0 : Int32)) 13 (0 : Int32)) H locs ls hP hD hS (lv_sub hl [1, 2, 0] rfl) hok
  · have hok := k_pos c13 hok
    refine lv_aload_n hx hb dX9_house_16 rfl (lv_at hl 0 rfl) ?_
    refine lv_iconst (v := 2) hx hb dX9_house_17 (by decide) ?_
    obtain ⟨⟨r18, vM_18⟩, hc18, hok⟩ := k_bind hok
    try dsimp only at hok
    refine kCi (wc := (wX9_no cy aM qM vM_1)) (wc2 := (wX9_no cy aM qM vM_18)) (wr := [(qM 1, rI cy 900 vM_tape), (qM 12, rI cy 8 vM_letters), (qM 16, rI cy 224 vM_fresh), (qM 15, rI cy 224 vM_r), (qM 17, rI cy 9 vM_st)]) (ws2 := (wX9_house cy aM qM vM_18 vM_tape vM_letters vM_fresh vM_r vM_st)) (kRunV (As := [.int 2]) (rest := []) ⟨hx, hb, hml, hown, ht0⟩ (kX9_no l D cy _ aM qM vM_1 (2 : Int32) r18 vM_18 hc18 _ rfl) (cwV 1 ht0 (gV wd862 wd863 wd864 wd744 wd865) rfl rfl rfl (by decide +kernel) ⟨Nat.le_of_ble_eq_true rfl, Nat.le_of_ble_eq_true rfl⟩) hK hN hP hD [0] rfl (by decide) 0 8 rfl rfl rfl hl.1 rfl (Nat.le_of_ble_eq_true rfl) dX9_house_18 ⟨Nat.zero_le _, Nat.zero_le _⟩) hP hD hS hA [0] [1, 2, 3, 4, 5] rfl rfl (by decide) (by decide) [5, 0, 1, 2, 3, 4] (by decide) rfl rfl (fun H locs hP hD hS => ?_)
    cases hok
    subst hQe; exact W.iret hx hb hr (fun t ht hW => ⟨⟨_, (), rfl, rfl, by rw [ht]; exact hP, va_K.moved hW.alike hK, hD⟩, hS.F ht⟩) hS.2.2 dX9_house_21
def wsX9_fault : List Cond := .code yX9_fault cX9_fault 1 (some .int) :: W0
abbrev wX9_fault (cy : Nat → ClassId) (aM : Nat) (qM : Nat → Nat) (vM : Nat → Int32) : va_W := [(aM, oX9 vM qM)]
set_option maxHeartbeats 4000000 in
set_option maxRecDepth 100000 in
theorem kX9_fault (l : Launch) (D : va_G) (cy : Nat → ClassId) (sz : Nat) (aM : Nat) (qM : Nat → Nat) (vM : Nat → Int32) (zr : Int32) (z_vM : Nat → Int32) (hok : fX9_fault vM = some (zr, z_vM)) (A : Nat → Prop) (hAe : va_A (wX9_fault cy aM qM vM) sz = A) : Met l yX9_fault wsX9_fault ({ frames := 0, cells := 0, slots := 0, locals := 0 } : Room) (kPre D cy [.ref aM] (wX9_fault cy aM qM vM) sz) (kQi D cy zr A (wX9_fault cy aM qM z_vM)) 0 0 A := by
  refine Met.ofW (cc := cX9_fault) (maxL := 1) (ret := (some .int)) (by decide) rfl ?_
  intro p e s m args below meth c s₁ B hml hv
  obtain ⟨rfl, hsz, hP, hK, hD0, hN⟩ := hv
  have hx := B.exec
  have hb := B.bytes
  have hr := B.returns
  have ht0 : ∀ w ∈ W0, w.before _ s = true := fun w h => atoms_spec (ws := wsX9_fault) B.pre w (List.mem_cons_of_mem _ h)
  have hown : s.vm.findClass RX9 = some m.cls := findClass_of_methodNamed B.named
  have hlocks := B.notSynchronized
  subst hsz
  have hD : va_D A (wX9_fault cy aM qM vM) := by rw [← hAe]; exact hD0.self
  have hA : ∀ q : Nat, s.heap.size ≤ q → A q := fun q h => by rw [← hAe]; exact Or.inr h
  have hS : va_S A s.heap s.heap [] := va_S.rf
  have hl := lv_entry ([.ref aM]) (n := 1) (Nat.le_of_ble_eq_true rfl)
  rw [lg_entry_eq]
  generalize (lg_sl ([.ref aM]) ++ List.replicate (1 - (lg_sl ([.ref aM])).length) Slot.unset).toArray = ls at hl ⊢
  have hl : lv_has ls 1 [(0, .ref aM)] := hl
  unfold fX9_fault at hok
  obtain ⟨H, hH⟩ : ∃ H, H = s.heap := ⟨_, rfl⟩
  obtain ⟨locs, hlc⟩ : ∃ x : List Loc, x = [] := ⟨_, rfl⟩
  have hP : va_P D vwCl (wX9_fault cy aM qM vM) H := by rw [hH]; exact hP
  have hS : va_S A s.heap H locs := by rw [hH, hlc]; exact hS
  rw [show W p l e _ s m _ below meth c s.heap [] = W p l e _ s m _ below meth c H locs from by rw [hH, hlc]]
  refine lv_aload_n hx hb dX9_fault_0 rfl (lv_at hl 0 rfl) ?_
  refine lv_iconst (v := 0) hx hb dX9_fault_1 (by decide) ?_
  refine va_put (D := D) (ci := 8) (v := .int 0) (ty := .int) (C := RX9) (T := TX9) (N := 29) hx hb ht0 niX9 tyX9 tyX9_ok nmX9 hown hK hP hD hS 0 rfl rfl 0 (by decide) (ht0 _ wd735) (fun _ h9 => h9) rfl (by decide +kernel) rfl rfl (Nat.le_of_ble_eq_true rfl) dX9_fault_2 (fun H locs hP hD hS => ?_)
  have hP : va_P D vwCl (wX9_fault cy aM qM (upd vM 0 (0 : Int32))) H := hP
  have hD : va_D A (wX9_fault cy aM qM (upd vM 0 (0 : Int32))) := hD
  refine lv_aload_n hx hb dX9_fault_5 rfl (lv_at hl 0 rfl) ?_
  refine va_get (D := D) (ci := 8) (v := .int (vM 9)) (C := RX9) (T := TX9) (N := 29) hx hb ht0 niX9 hown hK hP 0 rfl rfl 9 (by decide) (ht0 _ wd758) (fun _ h9 => h9) rfl dX9_fault_6 ?_
  cases hok
  exact W.iret hx hb hr (fun t ht hW => ⟨⟨_, (), rfl, rfl, by rw [ht]; exact hP, va_K.moved hW.alike hK, hD⟩, hS.F ht⟩) hS.2.2 dX9_fault_9
def wsX9_where : List Cond := .code yX9_where cX9_where 1 (some .int) :: W0
abbrev wX9_where (cy : Nat → ClassId) (aM : Nat) (qM : Nat → Nat) (vM : Nat → Int32) : va_W := [(aM, oX9 vM qM)]
set_option maxHeartbeats 4000000 in
set_option maxRecDepth 100000 in
theorem kX9_where (l : Launch) (D : va_G) (cy : Nat → ClassId) (sz : Nat) (aM : Nat) (qM : Nat → Nat) (vM : Nat → Int32) (zr : Int32) (z_vM : Nat → Int32) (hok : fX9_where vM = some (zr, z_vM)) (A : Nat → Prop) (hAe : va_A (wX9_where cy aM qM vM) sz = A) : Met l yX9_where wsX9_where ({ frames := 0, cells := 0, slots := 0, locals := 0 } : Room) (kPre D cy [.ref aM] (wX9_where cy aM qM vM) sz) (kQi D cy zr A (wX9_where cy aM qM z_vM)) 0 0 A := by
  refine Met.ofW (cc := cX9_where) (maxL := 1) (ret := (some .int)) (by decide) rfl ?_
  intro p e s m args below meth c s₁ B hml hv
  obtain ⟨rfl, hsz, hP, hK, hD0, hN⟩ := hv
  have hx := B.exec
  have hb := B.bytes
  have hr := B.returns
  have ht0 : ∀ w ∈ W0, w.before _ s = true := fun w h => atoms_spec (ws := wsX9_where) B.pre w (List.mem_cons_of_mem _ h)
  have hown : s.vm.findClass RX9 = some m.cls := findClass_of_methodNamed B.named
  have hlocks := B.notSynchronized
  subst hsz
  have hD : va_D A (wX9_where cy aM qM vM) := by rw [← hAe]; exact hD0.self
  have hA : ∀ q : Nat, s.heap.size ≤ q → A q := fun q h => by rw [← hAe]; exact Or.inr h
  have hS : va_S A s.heap s.heap [] := va_S.rf
  have hl := lv_entry ([.ref aM]) (n := 1) (Nat.le_of_ble_eq_true rfl)
  rw [lg_entry_eq]
  generalize (lg_sl ([.ref aM]) ++ List.replicate (1 - (lg_sl ([.ref aM])).length) Slot.unset).toArray = ls at hl ⊢
  have hl : lv_has ls 1 [(0, .ref aM)] := hl
  generalize hQe : MQ below (kQi D cy zr A (wX9_where cy aM qM z_vM)) ([.ref aM] : List Value).toArray s 0 0 A = Q
  have J21 : ∀ (t0_21 : Int32), ∀ (H : Heap) (locs : List Loc) (ls : Array Slot), va_P D vwCl (wX9_where cy aM qM (upd vM 0 (0 : Int32))) H → va_D A (wX9_where cy aM qM (upd vM 0 (0 : Int32))) → va_S A s.heap H locs → lv_has ls 1 [] → fX9_where_J21 vM t0_21 = some (zr, z_vM) → W p l e ({ frames := 0, cells := 0, slots := 0, locals := 0 } : Room) s m ([.ref aM] : List Value).toArray below meth c H locs 0 0 Q (F0 m 21 ls [.int t0_21]) := by
    intro t0_21 H locs ls hP hD hS hl hok
    unfold fX9_where_J21 at hok
    cases hok
    subst hQe; exact W.iret hx hb hr (fun t ht hW => ⟨⟨_, (), rfl, rfl, by rw [ht]; exact hP, va_K.moved hW.alike hK, hD⟩, hS.F ht⟩) hS.2.2 dX9_where_21
  unfold fX9_where at hok
  obtain ⟨H, hH⟩ : ∃ H, H = s.heap := ⟨_, rfl⟩
  obtain ⟨locs, hlc⟩ : ∃ x : List Loc, x = [] := ⟨_, rfl⟩
  have hP : va_P D vwCl (wX9_where cy aM qM vM) H := by rw [hH]; exact hP
  have hS : va_S A s.heap H locs := by rw [hH, hlc]; exact hS
  rw [show W p l e _ s m _ below meth c s.heap [] = W p l e _ s m _ below meth c H locs from by rw [hH, hlc]]
  refine lv_aload_n hx hb dX9_where_0 rfl (lv_at hl 0 rfl) ?_
  refine lv_iconst (v := 0) hx hb dX9_where_1 (by decide) ?_
  refine va_put (D := D) (ci := 8) (v := .int 0) (ty := .int) (C := RX9) (T := TX9) (N := 29) hx hb ht0 niX9 tyX9 tyX9_ok nmX9 hown hK hP hD hS 0 rfl rfl 0 (by decide) (ht0 _ wd735) (fun _ h9 => h9) rfl (by decide +kernel) rfl rfl (Nat.le_of_ble_eq_true rfl) dX9_where_2 (fun H locs hP hD hS => ?_)
  have hP : va_P D vwCl (wX9_where cy aM qM (upd vM 0 (0 : Int32))) H := hP
  have hD : va_D A (wX9_where cy aM qM (upd vM 0 (0 : Int32))) := hD
  refine lv_aload_n hx hb dX9_where_5 rfl (lv_at hl 0 rfl) ?_
  refine va_get (D := D) (ci := 8) (v := .int (vM 11)) (C := RX9) (T := TX9) (N := 29) hx hb ht0 niX9 hown hK hP 0 rfl rfl 11 (by decide) (ht0 _ wd736) (fun _ h9 => h9) rfl dX9_where_6 ?_
  refine lv_iconst (v := 4) hx hb dX9_where_9 (by decide) ?_
  refine lv_icmp_ne (tgt := 20) hx hb dX9_where_10 (by decide) (fun c10 => ?_) (fun c10 => ?_)
  · have hok := k_neg c10 hok
    refine lv_iconst (v := -1) hx hb dX9_where_20 (by decide) ?_
    exact J21 (-1 : Int32) H locs ls hP hD hS (lv_sub hl [] rfl) hok
  · have hok := k_pos c10 hok
    refine lv_aload_n hx hb dX9_where_13 rfl (lv_at hl 0 rfl) ?_
    refine va_get (D := D) (ci := 8) (v := .int (vM 10)) (C := RX9) (T := TX9) (N := 29) hx hb ht0 niX9 hown hK hP 0 rfl rfl 10 (by decide) (ht0 _ wd759) (fun _ h9 => h9) rfl dX9_where_14 ?_
    refine lv_goto (tgt := 21) hx hb dX9_where_17 (by decide) ?_
    exact J21 (vM 10) H locs ls hP hD hS (lv_sub hl [] rfl) hok
def wsX9_isRing : List Cond := .code yX9_isRing cX9_isRing 2 (some .boolean) :: W0
abbrev wX9_isRing (cy : Nat → ClassId) (aM : Nat) (qM : Nat → Nat) (vM : Nat → Int32) (vM_r : Nat → Int32) : va_W := [(aM, oX9 vM qM), (qM 15, rI cy 224 vM_r)]
set_option maxHeartbeats 4000000 in
set_option maxRecDepth 100000 in
theorem kX9_isRing (l : Launch) (D : va_G) (cy : Nat → ClassId) (sz : Nat) (aM : Nat) (qM : Nat → Nat) (vM : Nat → Int32) (vM_r : Nat → Int32) (x1 : Int32) (zr : Int32) (hok : fX9_isRing vM vM_r x1 = some zr) (A : Nat → Prop) (hAe : va_A (wX9_isRing cy aM qM vM vM_r) sz = A) : Met l yX9_isRing wsX9_isRing ({ frames := 1, cells := 0, slots := 0, locals := 22 } : Room) (kPre D cy [.ref aM, .int x1] (wX9_isRing cy aM qM vM vM_r) sz) (kQi D cy zr A (wX9_isRing cy aM qM vM vM_r)) 0 0 A := by
  refine Met.ofW (cc := cX9_isRing) (maxL := 2) (ret := (some .boolean)) (by decide) rfl ?_
  intro p e s m args below meth c s₁ B hml hv
  obtain ⟨rfl, hsz, hP, hK, hD0, hN⟩ := hv
  have hx := B.exec
  have hb := B.bytes
  have hr := B.returns
  have ht0 : ∀ w ∈ W0, w.before _ s = true := fun w h => atoms_spec (ws := wsX9_isRing) B.pre w (List.mem_cons_of_mem _ h)
  have hown : s.vm.findClass RX9 = some m.cls := findClass_of_methodNamed B.named
  have hlocks := B.notSynchronized
  subst hsz
  have hD : va_D A (wX9_isRing cy aM qM vM vM_r) := by rw [← hAe]; exact hD0.self
  have hA : ∀ q : Nat, s.heap.size ≤ q → A q := fun q h => by rw [← hAe]; exact Or.inr h
  have hS : va_S A s.heap s.heap [] := va_S.rf
  have hl := lv_entry ([.ref aM, .int x1]) (n := 2) (Nat.le_of_ble_eq_true rfl)
  rw [lg_entry_eq]
  generalize (lg_sl ([.ref aM, .int x1]) ++ List.replicate (2 - (lg_sl ([.ref aM, .int x1])).length) Slot.unset).toArray = ls at hl ⊢
  have hl : lv_has ls 2 [(0, .ref aM), (1, .int x1)] := hl
  generalize hQe : MQ below (kQi D cy zr A (wX9_isRing cy aM qM vM vM_r)) ([.ref aM, .int x1] : List Value).toArray s 0 0 A = Q
  have J28 : ∀ (t0_28 : Int32), ∀ (H : Heap) (locs : List Loc) (ls : Array Slot), va_P D vwCl (wX9_isRing cy aM qM vM vM_r) H → va_D A (wX9_isRing cy aM qM vM vM_r) → va_S A s.heap H locs → lv_has ls 2 [] → fX9_isRing_J28 t0_28 = some zr → W p l e ({ frames := 1, cells := 0, slots := 0, locals := 22 } : Room) s m ([.ref aM, .int x1] : List Value).toArray below meth c H locs 0 0 Q (F0 m 28 ls [.int t0_28]) := by
    intro t0_28 H locs ls hP hD hS hl hok
    unfold fX9_isRing_J28 at hok
    obtain ⟨g28, hok⟩ := gd_some hok
    cases hok
    subst hQe; exact W.zret hx hb hr (isB_nar g28) (fun t ht hW => ⟨⟨_, (), rfl, rfl, by rw [ht]; exact hP, va_K.moved hW.alike hK, hD⟩, hS.F ht⟩) hS.2.2 dX9_isRing_28
  have J27 : ∀ (H : Heap) (locs : List Loc) (ls : Array Slot), va_P D vwCl (wX9_isRing cy aM qM vM vM_r) H → va_D A (wX9_isRing cy aM qM vM vM_r) → va_S A s.heap H locs → lv_has ls 2 [] → fX9_isRing_J27 = some zr → W p l e ({ frames := 1, cells := 0, slots := 0, locals := 22 } : Room) s m ([.ref aM, .int x1] : List Value).toArray below meth c H locs 0 0 Q (F0 m 27 ls []) := by
    intro  H locs ls hP hD hS hl hok
    unfold fX9_isRing_J27 at hok
    refine lv_iconst (v := 0) hx hb dX9_isRing_27 (by decide) ?_
    exact J28 (0 : Int32) H locs ls hP hD hS (lv_sub hl [] rfl) hok
  unfold fX9_isRing at hok
  obtain ⟨H, hH⟩ : ∃ H, H = s.heap := ⟨_, rfl⟩
  obtain ⟨locs, hlc⟩ : ∃ x : List Loc, x = [] := ⟨_, rfl⟩
  have hP : va_P D vwCl (wX9_isRing cy aM qM vM vM_r) H := by rw [hH]; exact hP
  have hS : va_S A s.heap H locs := by rw [hH, hlc]; exact hS
  rw [show W p l e _ s m _ below meth c s.heap [] = W p l e _ s m _ below meth c H locs from by rw [hH, hlc]]
  refine lv_aload_n hx hb dX9_isRing_0 rfl (lv_at hl 0 rfl) ?_
  refine va_get (D := D) (ci := 8) (v := .int (vM 14)) (C := RX9) (T := TX9) (N := 29) hx hb ht0 niX9 hown hK hP 0 rfl rfl 14 (by decide) (ht0 _ wd855) (fun _ h9 => h9) rfl dX9_isRing_1 ?_
  refine lv_if_eq (tgt := 27) hx hb dX9_isRing_4 (by decide) (fun c4 => ?_) (fun c4 => ?_)
  · have hok := k_pos c4 hok
    exact J27  H locs ls hP hD hS (lv_sub hl [] rfl) hok
  · have hok := k_neg c4 hok
    refine lv_iload_n hx hb dX9_isRing_7 rfl (lv_at hl 1 rfl) ?_
    refine lv_iconst (v := 0) hx hb dX9_isRing_8 (by decide) ?_
    refine lv_aload_n hx hb dX9_isRing_9 rfl (lv_at hl 0 rfl) ?_
    refine va_get (D := D) (ci := 8) (v := .ref (qM 15)) (C := RX9) (T := TX9) (N := 29) hx hb ht0 niX9 hown hK hP 0 rfl rfl 15 (by decide) (ht0 _ wd854) (fun _ h9 => h9) rfl dX9_isRing_10 ?_
    refine lv_iconst (v := 2) hx hb dX9_isRing_13 (by decide) ?_
    obtain ⟨g14, hok⟩ := gd_some hok
    refine va_iald hx hb hK hP 1 0 rfl rfl (okI_in g14) dX9_isRing_14 ?_
    refine lv_iconst (v := 1) hx hb dX9_isRing_15 (by decide) ?_
    refine lv_isub hx hb dX9_isRing_16 ?_
    obtain ⟨r17, hc17, hok⟩ := k_bind hok
    refine kCi (wc := (wX9_in cy )) (wc2 := (wX9_in cy )) (wr := [(aM, oX9 vM qM), (qM 15, rI cy 224 vM_r)]) (ws2 := (wX9_isRing cy aM qM vM vM_r)) (kRunS (As := [.int x1, .int 0, .int ((vM_r (2 : Int32).toNatClampNeg) - (1 : Int32))]) (rest := []) ⟨hx, hb, hml, hown, ht0⟩ (kX9_in l D cy _ x1 (0 : Int32) ((vM_r (2 : Int32).toNatClampNeg) - (1 : Int32)) r17 hc17 _ rfl) (va_cwS 3 ht0 (gS wd787 wd788 wd744 wd789) rfl rfl rfl (by decide +kernel) ⟨Nat.le_of_ble_eq_true rfl, Nat.le_of_ble_eq_true rfl⟩) hK hN hP hD [] rfl (by decide) rfl hl.1 rfl (Nat.le_of_ble_eq_true rfl) dX9_isRing_17 ⟨Nat.zero_le _, Nat.zero_le _⟩) hP hD hS hA [] [0, 1] rfl rfl (by decide) (by decide) [0, 1] (by decide) rfl rfl (fun H locs hP hD hS => ?_)
    refine lv_if_eq (tgt := 27) hx hb dX9_isRing_20 (by decide) (fun c20 => ?_) (fun c20 => ?_)
    · have hok := k_pos c20 hok
      exact J27  H locs ls hP hD hS (lv_sub hl [] rfl) hok
    · have hok := k_neg c20 hok
      refine lv_iconst (v := 1) hx hb dX9_isRing_23 (by decide) ?_
      refine lv_goto (tgt := 28) hx hb dX9_isRing_24 (by decide) ?_
      exact J28 (1 : Int32) H locs ls hP hD hS (lv_sub hl [] rfl) hok
def wsX9_isThing : List Cond := .code yX9_isThing cX9_isThing 2 (some .boolean) :: W0
abbrev wX9_isThing (cy : Nat → ClassId) (aM : Nat) (qM : Nat → Nat) (vM : Nat → Int32) (vM_r : Nat → Int32) : va_W := [(aM, oX9 vM qM), (qM 15, rI cy 224 vM_r)]
set_option maxHeartbeats 4000000 in
set_option maxRecDepth 100000 in
theorem kX9_isThing (l : Launch) (D : va_G) (cy : Nat → ClassId) (sz : Nat) (aM : Nat) (qM : Nat → Nat) (vM : Nat → Int32) (vM_r : Nat → Int32) (x1 : Int32) (zr : Int32) (hok : fX9_isThing vM vM_r x1 = some zr) (A : Nat → Prop) (hAe : va_A (wX9_isThing cy aM qM vM vM_r) sz = A) : Met l yX9_isThing wsX9_isThing ({ frames := 1, cells := 0, slots := 0, locals := 22 } : Room) (kPre D cy [.ref aM, .int x1] (wX9_isThing cy aM qM vM vM_r) sz) (kQi D cy zr A (wX9_isThing cy aM qM vM vM_r)) 0 0 A := by
  refine Met.ofW (cc := cX9_isThing) (maxL := 2) (ret := (some .boolean)) (by decide) rfl ?_
  intro p e s m args below meth c s₁ B hml hv
  obtain ⟨rfl, hsz, hP, hK, hD0, hN⟩ := hv
  have hx := B.exec
  have hb := B.bytes
  have hr := B.returns
  have ht0 : ∀ w ∈ W0, w.before _ s = true := fun w h => atoms_spec (ws := wsX9_isThing) B.pre w (List.mem_cons_of_mem _ h)
  have hown : s.vm.findClass RX9 = some m.cls := findClass_of_methodNamed B.named
  have hlocks := B.notSynchronized
  subst hsz
  have hD : va_D A (wX9_isThing cy aM qM vM vM_r) := by rw [← hAe]; exact hD0.self
  have hA : ∀ q : Nat, s.heap.size ≤ q → A q := fun q h => by rw [← hAe]; exact Or.inr h
  have hS : va_S A s.heap s.heap [] := va_S.rf
  have hl := lv_entry ([.ref aM, .int x1]) (n := 2) (Nat.le_of_ble_eq_true rfl)
  rw [lg_entry_eq]
  generalize (lg_sl ([.ref aM, .int x1]) ++ List.replicate (2 - (lg_sl ([.ref aM, .int x1])).length) Slot.unset).toArray = ls at hl ⊢
  have hl : lv_has ls 2 [(0, .ref aM), (1, .int x1)] := hl
  generalize hQe : MQ below (kQi D cy zr A (wX9_isThing cy aM qM vM vM_r)) ([.ref aM, .int x1] : List Value).toArray s 0 0 A = Q
  have J28 : ∀ (t0_28 : Int32), ∀ (H : Heap) (locs : List Loc) (ls : Array Slot), va_P D vwCl (wX9_isThing cy aM qM vM vM_r) H → va_D A (wX9_isThing cy aM qM vM vM_r) → va_S A s.heap H locs → lv_has ls 2 [] → fX9_isThing_J28 t0_28 = some zr → W p l e ({ frames := 1, cells := 0, slots := 0, locals := 22 } : Room) s m ([.ref aM, .int x1] : List Value).toArray below meth c H locs 0 0 Q (F0 m 28 ls [.int t0_28]) := by
    intro t0_28 H locs ls hP hD hS hl hok
    unfold fX9_isThing_J28 at hok
    obtain ⟨g28, hok⟩ := gd_some hok
    cases hok
    subst hQe; exact W.zret hx hb hr (isB_nar g28) (fun t ht hW => ⟨⟨_, (), rfl, rfl, by rw [ht]; exact hP, va_K.moved hW.alike hK, hD⟩, hS.F ht⟩) hS.2.2 dX9_isThing_28
  have J27 : ∀ (H : Heap) (locs : List Loc) (ls : Array Slot), va_P D vwCl (wX9_isThing cy aM qM vM vM_r) H → va_D A (wX9_isThing cy aM qM vM vM_r) → va_S A s.heap H locs → lv_has ls 2 [] → fX9_isThing_J27 = some zr → W p l e ({ frames := 1, cells := 0, slots := 0, locals := 22 } : Room) s m ([.ref aM, .int x1] : List Value).toArray below meth c H locs 0 0 Q (F0 m 27 ls []) := by
    intro  H locs ls hP hD hS hl hok
    unfold fX9_isThing_J27 at hok
    refine lv_iconst (v := 0) hx hb dX9_isThing_27 (by decide) ?_
    exact J28 (0 : Int32) H locs ls hP hD hS (lv_sub hl [] rfl) hok
  unfold fX9_isThing at hok
  obtain ⟨H, hH⟩ : ∃ H, H = s.heap := ⟨_, rfl⟩
  obtain ⟨locs, hlc⟩ : ∃ x : List Loc, x = [] := ⟨_, rfl⟩
  have hP : va_P D vwCl (wX9_isThing cy aM qM vM vM_r) H := by rw [hH]; exact hP
  have hS : va_S A s.heap H locs := by rw [hH, hlc]; exact hS
  rw [show W p l e _ s m _ below meth c s.heap [] = W p l e _ s m _ below meth c H locs from by rw [hH, hlc]]
  refine lv_aload_n hx hb dX9_isThing_0 rfl (lv_at hl 0 rfl) ?_
  refine va_get (D := D) (ci := 8) (v := .int (vM 14)) (C := RX9) (T := TX9) (N := 29) hx hb ht0 niX9 hown hK hP 0 rfl rfl 14 (by decide) (ht0 _ wd855) (fun _ h9 => h9) rfl dX9_isThing_1 ?_
  refine lv_if_eq (tgt := 27) hx hb dX9_isThing_4 (by decide) (fun c4 => ?_) (fun c4 => ?_)
  · have hok := k_pos c4 hok
    exact J27  H locs ls hP hD hS (lv_sub hl [] rfl) hok
  · have hok := k_neg c4 hok
    refine lv_iload_n hx hb dX9_isThing_7 rfl (lv_at hl 1 rfl) ?_
    refine lv_iconst (v := 0) hx hb dX9_isThing_8 (by decide) ?_
    refine lv_aload_n hx hb dX9_isThing_9 rfl (lv_at hl 0 rfl) ?_
    refine va_get (D := D) (ci := 8) (v := .ref (qM 15)) (C := RX9) (T := TX9) (N := 29) hx hb ht0 niX9 hown hK hP 0 rfl rfl 15 (by decide) (ht0 _ wd854) (fun _ h9 => h9) rfl dX9_isThing_10 ?_
    refine lv_iconst (v := 3) hx hb dX9_isThing_13 (by decide) ?_
    obtain ⟨g14, hok⟩ := gd_some hok
    refine va_iald hx hb hK hP 1 0 rfl rfl (okI_in g14) dX9_isThing_14 ?_
    refine lv_iconst (v := 1) hx hb dX9_isThing_15 (by decide) ?_
    refine lv_isub hx hb dX9_isThing_16 ?_
    obtain ⟨r17, hc17, hok⟩ := k_bind hok
    refine kCi (wc := (wX9_in cy )) (wc2 := (wX9_in cy )) (wr := [(aM, oX9 vM qM), (qM 15, rI cy 224 vM_r)]) (ws2 := (wX9_isThing cy aM qM vM vM_r)) (kRunS (As := [.int x1, .int 0, .int ((vM_r (3 : Int32).toNatClampNeg) - (1 : Int32))]) (rest := []) ⟨hx, hb, hml, hown, ht0⟩ (kX9_in l D cy _ x1 (0 : Int32) ((vM_r (3 : Int32).toNatClampNeg) - (1 : Int32)) r17 hc17 _ rfl) (va_cwS 3 ht0 (gS wd787 wd788 wd744 wd789) rfl rfl rfl (by decide +kernel) ⟨Nat.le_of_ble_eq_true rfl, Nat.le_of_ble_eq_true rfl⟩) hK hN hP hD [] rfl (by decide) rfl hl.1 rfl (Nat.le_of_ble_eq_true rfl) dX9_isThing_17 ⟨Nat.zero_le _, Nat.zero_le _⟩) hP hD hS hA [] [0, 1] rfl rfl (by decide) (by decide) [0, 1] (by decide) rfl rfl (fun H locs hP hD hS => ?_)
    refine lv_if_eq (tgt := 27) hx hb dX9_isThing_20 (by decide) (fun c20 => ?_) (fun c20 => ?_)
    · have hok := k_pos c20 hok
      exact J27  H locs ls hP hD hS (lv_sub hl [] rfl) hok
    · have hok := k_neg c20 hok
      refine lv_iconst (v := 1) hx hb dX9_isThing_23 (by decide) ?_
      refine lv_goto (tgt := 28) hx hb dX9_isThing_24 (by decide) ?_
      exact J28 (1 : Int32) H locs ls hP hD hS (lv_sub hl [] rfl) hok
def wsX9_isPlace : List Cond := .code yX9_isPlace cX9_isPlace 3 (some .boolean) :: W0
abbrev wX9_isPlace (cy : Nat → ClassId) (aM : Nat) (qM : Nat → Nat) (vM : Nat → Int32) (vM_r : Nat → Int32) : va_W := [(aM, oX9 vM qM), (qM 15, rI cy 224 vM_r)]
set_option maxHeartbeats 4000000 in
set_option maxRecDepth 100000 in
theorem kX9_isPlace (l : Launch) (D : va_G) (cy : Nat → ClassId) (sz : Nat) (aM : Nat) (qM : Nat → Nat) (vM : Nat → Int32) (vM_r : Nat → Int32) (x1 : Int32) (x2 : Int32) (zr : Int32) (hok : fX9_isPlace vM vM_r x1 x2 = some zr) (A : Nat → Prop) (hAe : va_A (wX9_isPlace cy aM qM vM vM_r) sz = A) : Met l yX9_isPlace wsX9_isPlace ({ frames := 2, cells := 0, slots := 0, locals := 43 } : Room) (kPre D cy [.ref aM, .int x1, .int x2] (wX9_isPlace cy aM qM vM vM_r) sz) (kQi D cy zr A (wX9_isPlace cy aM qM vM vM_r)) 0 0 A := by
  refine Met.ofW (cc := cX9_isPlace) (maxL := 3) (ret := (some .boolean)) (by decide) rfl ?_
  intro p e s m args below meth c s₁ B hml hv
  obtain ⟨rfl, hsz, hP, hK, hD0, hN⟩ := hv
  have hx := B.exec
  have hb := B.bytes
  have hr := B.returns
  have ht0 : ∀ w ∈ W0, w.before _ s = true := fun w h => atoms_spec (ws := wsX9_isPlace) B.pre w (List.mem_cons_of_mem _ h)
  have hown : s.vm.findClass RX9 = some m.cls := findClass_of_methodNamed B.named
  have hlocks := B.notSynchronized
  subst hsz
  have hD : va_D A (wX9_isPlace cy aM qM vM vM_r) := by rw [← hAe]; exact hD0.self
  have hA : ∀ q : Nat, s.heap.size ≤ q → A q := fun q h => by rw [← hAe]; exact Or.inr h
  have hS : va_S A s.heap s.heap [] := va_S.rf
  have hl := lv_entry ([.ref aM, .int x1, .int x2]) (n := 3) (Nat.le_of_ble_eq_true rfl)
  rw [lg_entry_eq]
  generalize (lg_sl ([.ref aM, .int x1, .int x2]) ++ List.replicate (3 - (lg_sl ([.ref aM, .int x1, .int x2])).length) Slot.unset).toArray = ls at hl ⊢
  have hl : lv_has ls 3 [(0, .ref aM), (1, .int x1), (2, .int x2)] := hl
  generalize hQe : MQ below (kQi D cy zr A (wX9_isPlace cy aM qM vM vM_r)) ([.ref aM, .int x1, .int x2] : List Value).toArray s 0 0 A = Q
  have J36 : ∀ (t0_36 : Int32), ∀ (H : Heap) (locs : List Loc) (ls : Array Slot), va_P D vwCl (wX9_isPlace cy aM qM vM vM_r) H → va_D A (wX9_isPlace cy aM qM vM vM_r) → va_S A s.heap H locs → lv_has ls 3 [] → fX9_isPlace_J36 t0_36 = some zr → W p l e ({ frames := 2, cells := 0, slots := 0, locals := 43 } : Room) s m ([.ref aM, .int x1, .int x2] : List Value).toArray below meth c H locs 0 0 Q (F0 m 36 ls [.int t0_36]) := by
    intro t0_36 H locs ls hP hD hS hl hok
    unfold fX9_isPlace_J36 at hok
    obtain ⟨g36, hok⟩ := gd_some hok
    cases hok
    subst hQe; exact W.zret hx hb hr (isB_nar g36) (fun t ht hW => ⟨⟨_, (), rfl, rfl, by rw [ht]; exact hP, va_K.moved hW.alike hK, hD⟩, hS.F ht⟩) hS.2.2 dX9_isPlace_36
  have J35 : ∀ (H : Heap) (locs : List Loc) (ls : Array Slot), va_P D vwCl (wX9_isPlace cy aM qM vM vM_r) H → va_D A (wX9_isPlace cy aM qM vM vM_r) → va_S A s.heap H locs → lv_has ls 3 [] → fX9_isPlace_J35 = some zr → W p l e ({ frames := 2, cells := 0, slots := 0, locals := 43 } : Room) s m ([.ref aM, .int x1, .int x2] : List Value).toArray below meth c H locs 0 0 Q (F0 m 35 ls []) := by
    intro  H locs ls hP hD hS hl hok
    unfold fX9_isPlace_J35 at hok
    refine lv_iconst (v := 0) hx hb dX9_isPlace_35 (by decide) ?_
    exact J36 (0 : Int32) H locs ls hP hD hS (lv_sub hl [] rfl) hok
  unfold fX9_isPlace at hok
  obtain ⟨H, hH⟩ : ∃ H, H = s.heap := ⟨_, rfl⟩
  obtain ⟨locs, hlc⟩ : ∃ x : List Loc, x = [] := ⟨_, rfl⟩
  have hP : va_P D vwCl (wX9_isPlace cy aM qM vM vM_r) H := by rw [hH]; exact hP
  have hS : va_S A s.heap H locs := by rw [hH, hlc]; exact hS
  rw [show W p l e _ s m _ below meth c s.heap [] = W p l e _ s m _ below meth c H locs from by rw [hH, hlc]]
  refine lv_aload_n hx hb dX9_isPlace_0 rfl (lv_at hl 0 rfl) ?_
  refine lv_iload_n hx hb dX9_isPlace_1 rfl (lv_at hl 1 rfl) ?_
  obtain ⟨r2, hc2, hok⟩ := k_bind hok
  refine kCi (wc := (wX9_isRing cy aM qM vM vM_r)) (wc2 := (wX9_isRing cy aM qM vM vM_r)) (wr := []) (ws2 := (wX9_isPlace cy aM qM vM vM_r)) (kRunV (As := [.int x1]) (rest := []) ⟨hx, hb, hml, hown, ht0⟩ (kX9_isRing l D cy _ aM qM vM vM_r x1 r2 hc2 _ rfl) (cwV 1 ht0 (gV wd874 wd875 wd876 wd744 wd877) rfl rfl rfl (by decide +kernel) ⟨Nat.le_of_ble_eq_true rfl, Nat.le_of_ble_eq_true rfl⟩) hK hN hP hD [0, 1] rfl (by decide) 0 8 rfl rfl rfl hl.1 rfl (Nat.le_of_ble_eq_true rfl) dX9_isPlace_2 ⟨Nat.zero_le _, Nat.zero_le _⟩) hP hD hS hA [0, 1] [] rfl rfl (by decide) (by decide) [0, 1] (by decide) rfl rfl (fun H locs hP hD hS => ?_)
  refine lv_if_eq (tgt := 35) hx hb dX9_isPlace_5 (by decide) (fun c5 => ?_) (fun c5 => ?_)
  · have hok := k_pos c5 hok
    exact J35  H locs ls hP hD hS (lv_sub hl [] rfl) hok
  · have hok := k_neg c5 hok
    refine lv_iload_n hx hb dX9_isPlace_8 rfl (lv_at hl 2 rfl) ?_
    refine lv_iconst (v := 0) hx hb dX9_isPlace_9 (by decide) ?_
    refine lv_aload_n hx hb dX9_isPlace_10 rfl (lv_at hl 0 rfl) ?_
    refine va_get (D := D) (ci := 8) (v := .ref (qM 15)) (C := RX9) (T := TX9) (N := 29) hx hb ht0 niX9 hown hK hP 0 rfl rfl 15 (by decide) (ht0 _ wd854) (fun _ h9 => h9) rfl dX9_isPlace_11 ?_
    refine lv_bipush (v := 8) hx hb dX9_isPlace_14 (by decide) ?_
    refine lv_iconst (v := 2) hx hb dX9_isPlace_16 (by decide) ?_
    refine lv_iload_n hx hb dX9_isPlace_17 rfl (lv_at hl 1 rfl) ?_
    refine lv_imul hx hb dX9_isPlace_18 ?_
    refine lv_iadd hx hb dX9_isPlace_19 ?_
    refine lv_iconst (v := 1) hx hb dX9_isPlace_20 (by decide) ?_
    refine lv_iadd hx hb dX9_isPlace_21 ?_
    obtain ⟨g22, hok⟩ := gd_some hok
    refine va_iald hx hb hK hP 1 0 rfl rfl (okI_in g22) dX9_isPlace_22 ?_
    refine lv_iconst (v := 1) hx hb dX9_isPlace_23 (by decide) ?_
    refine lv_isub hx hb dX9_isPlace_24 ?_
    obtain ⟨r25, hc25, hok⟩ := k_bind hok
    refine kCi (wc := (wX9_in cy )) (wc2 := (wX9_in cy )) (wr := [(aM, oX9 vM qM), (qM 15, rI cy 224 vM_r)]) (ws2 := (wX9_isPlace cy aM qM vM vM_r)) (kRunS (As := [.int x2, .int 0, .int ((vM_r (((8 : Int32) + ((2 : Int32) * x1)) + (1 : Int32)).toNatClampNeg) - (1 : Int32))]) (rest := []) ⟨hx, hb, hml, hown, ht0⟩ (kX9_in l D cy _ x2 (0 : Int32) ((vM_r (((8 : Int32) + ((2 : Int32) * x1)) + (1 : Int32)).toNatClampNeg) - (1 : Int32)) r25 hc25 _ rfl) (va_cwS 3 ht0 (gS wd787 wd788 wd744 wd789) rfl rfl rfl (by decide +kernel) ⟨Nat.le_of_ble_eq_true rfl, Nat.le_of_ble_eq_true rfl⟩) hK hN hP hD [] rfl (by decide) rfl hl.1 rfl (Nat.le_of_ble_eq_true rfl) dX9_isPlace_25 ⟨Nat.zero_le _, Nat.zero_le _⟩) hP hD hS hA [] [0, 1] rfl rfl (by decide) (by decide) [0, 1] (by decide) rfl rfl (fun H locs hP hD hS => ?_)
    refine lv_if_eq (tgt := 35) hx hb dX9_isPlace_28 (by decide) (fun c28 => ?_) (fun c28 => ?_)
    · have hok := k_pos c28 hok
      exact J35  H locs ls hP hD hS (lv_sub hl [] rfl) hok
    · have hok := k_neg c28 hok
      refine lv_iconst (v := 1) hx hb dX9_isPlace_31 (by decide) ?_
      refine lv_goto (tgt := 36) hx hb dX9_isPlace_32 (by decide) ?_
      exact J36 (1 : Int32) H locs ls hP hD hS (lv_sub hl [] rfl) hok
def wsX9_sortOf : List Cond := .code yX9_sortOf cX9_sortOf 2 (some .int) :: W0
abbrev wX9_sortOf (cy : Nat → ClassId) (aM : Nat) (qM : Nat → Nat) (vM : Nat → Int32) (vM_r : Nat → Int32) : va_W := [(aM, oX9 vM qM), (qM 15, rI cy 224 vM_r)]
set_option maxHeartbeats 4000000 in
set_option maxRecDepth 100000 in
theorem kX9_sortOf (l : Launch) (D : va_G) (cy : Nat → ClassId) (sz : Nat) (aM : Nat) (qM : Nat → Nat) (vM : Nat → Int32) (vM_r : Nat → Int32) (x1 : Int32) (zr : Int32) (hok : fX9_sortOf vM vM_r x1 = some zr) (A : Nat → Prop) (hAe : va_A (wX9_sortOf cy aM qM vM vM_r) sz = A) : Met l yX9_sortOf wsX9_sortOf ({ frames := 0, cells := 0, slots := 0, locals := 0 } : Room) (kPre D cy [.ref aM, .int x1] (wX9_sortOf cy aM qM vM vM_r) sz) (kQi D cy zr A (wX9_sortOf cy aM qM vM vM_r)) 0 0 A := by
  refine Met.ofW (cc := cX9_sortOf) (maxL := 2) (ret := (some .int)) (by decide) rfl ?_
  intro p e s m args below meth c s₁ B hml hv
  obtain ⟨rfl, hsz, hP, hK, hD0, hN⟩ := hv
  have hx := B.exec
  have hb := B.bytes
  have hr := B.returns
  have ht0 : ∀ w ∈ W0, w.before _ s = true := fun w h => atoms_spec (ws := wsX9_sortOf) B.pre w (List.mem_cons_of_mem _ h)
  have hown : s.vm.findClass RX9 = some m.cls := findClass_of_methodNamed B.named
  have hlocks := B.notSynchronized
  subst hsz
  have hD : va_D A (wX9_sortOf cy aM qM vM vM_r) := by rw [← hAe]; exact hD0.self
  have hA : ∀ q : Nat, s.heap.size ≤ q → A q := fun q h => by rw [← hAe]; exact Or.inr h
  have hS : va_S A s.heap s.heap [] := va_S.rf
  have hl := lv_entry ([.ref aM, .int x1]) (n := 2) (Nat.le_of_ble_eq_true rfl)
  rw [lg_entry_eq]
  generalize (lg_sl ([.ref aM, .int x1]) ++ List.replicate (2 - (lg_sl ([.ref aM, .int x1])).length) Slot.unset).toArray = ls at hl ⊢
  have hl : lv_has ls 2 [(0, .ref aM), (1, .int x1)] := hl
  unfold fX9_sortOf at hok
  obtain ⟨H, hH⟩ : ∃ H, H = s.heap := ⟨_, rfl⟩
  obtain ⟨locs, hlc⟩ : ∃ x : List Loc, x = [] := ⟨_, rfl⟩
  have hP : va_P D vwCl (wX9_sortOf cy aM qM vM vM_r) H := by rw [hH]; exact hP
  have hS : va_S A s.heap H locs := by rw [hH, hlc]; exact hS
  rw [show W p l e _ s m _ below meth c s.heap [] = W p l e _ s m _ below meth c H locs from by rw [hH, hlc]]
  refine lv_aload_n hx hb dX9_sortOf_0 rfl (lv_at hl 0 rfl) ?_
  refine va_get (D := D) (ci := 8) (v := .ref (qM 15)) (C := RX9) (T := TX9) (N := 29) hx hb ht0 niX9 hown hK hP 0 rfl rfl 15 (by decide) (ht0 _ wd854) (fun _ h9 => h9) rfl dX9_sortOf_1 ?_
  refine lv_bipush (v := 8) hx hb dX9_sortOf_4 (by decide) ?_
  refine lv_iconst (v := 2) hx hb dX9_sortOf_6 (by decide) ?_
  refine lv_iload_n hx hb dX9_sortOf_7 rfl (lv_at hl 1 rfl) ?_
  refine lv_imul hx hb dX9_sortOf_8 ?_
  refine lv_iadd hx hb dX9_sortOf_9 ?_
  obtain ⟨g10, hok⟩ := gd_some hok
  refine va_iald hx hb hK hP 1 0 rfl rfl (okI_in g10) dX9_sortOf_10 ?_
  cases hok
  exact W.iret hx hb hr (fun t ht hW => ⟨⟨_, (), rfl, rfl, by rw [ht]; exact hP, va_K.moved hW.alike hK, hD⟩, hS.F ht⟩) hS.2.2 dX9_sortOf_11
def wsX9_placesOf : List Cond := .code yX9_placesOf cX9_placesOf 2 (some .int) :: W0
abbrev wX9_placesOf (cy : Nat → ClassId) (aM : Nat) (qM : Nat → Nat) (vM : Nat → Int32) (vM_r : Nat → Int32) : va_W := [(aM, oX9 vM qM), (qM 15, rI cy 224 vM_r)]
set_option maxHeartbeats 4000000 in
set_option maxRecDepth 100000 in
theorem kX9_placesOf (l : Launch) (D : va_G) (cy : Nat → ClassId) (sz : Nat) (aM : Nat) (qM : Nat → Nat) (vM : Nat → Int32) (vM_r : Nat → Int32) (x1 : Int32) (zr : Int32) (hok : fX9_placesOf vM vM_r x1 = some zr) (A : Nat → Prop) (hAe : va_A (wX9_placesOf cy aM qM vM vM_r) sz = A) : Met l yX9_placesOf wsX9_placesOf ({ frames := 0, cells := 0, slots := 0, locals := 0 } : Room) (kPre D cy [.ref aM, .int x1] (wX9_placesOf cy aM qM vM vM_r) sz) (kQi D cy zr A (wX9_placesOf cy aM qM vM vM_r)) 0 0 A := by
  refine Met.ofW (cc := cX9_placesOf) (maxL := 2) (ret := (some .int)) (by decide) rfl ?_
  intro p e s m args below meth c s₁ B hml hv
  obtain ⟨rfl, hsz, hP, hK, hD0, hN⟩ := hv
  have hx := B.exec
  have hb := B.bytes
  have hr := B.returns
  have ht0 : ∀ w ∈ W0, w.before _ s = true := fun w h => atoms_spec (ws := wsX9_placesOf) B.pre w (List.mem_cons_of_mem _ h)
  have hown : s.vm.findClass RX9 = some m.cls := findClass_of_methodNamed B.named
  have hlocks := B.notSynchronized
  subst hsz
  have hD : va_D A (wX9_placesOf cy aM qM vM vM_r) := by rw [← hAe]; exact hD0.self
  have hA : ∀ q : Nat, s.heap.size ≤ q → A q := fun q h => by rw [← hAe]; exact Or.inr h
  have hS : va_S A s.heap s.heap [] := va_S.rf
  have hl := lv_entry ([.ref aM, .int x1]) (n := 2) (Nat.le_of_ble_eq_true rfl)
  rw [lg_entry_eq]
  generalize (lg_sl ([.ref aM, .int x1]) ++ List.replicate (2 - (lg_sl ([.ref aM, .int x1])).length) Slot.unset).toArray = ls at hl ⊢
  have hl : lv_has ls 2 [(0, .ref aM), (1, .int x1)] := hl
  unfold fX9_placesOf at hok
  obtain ⟨H, hH⟩ : ∃ H, H = s.heap := ⟨_, rfl⟩
  obtain ⟨locs, hlc⟩ : ∃ x : List Loc, x = [] := ⟨_, rfl⟩
  have hP : va_P D vwCl (wX9_placesOf cy aM qM vM vM_r) H := by rw [hH]; exact hP
  have hS : va_S A s.heap H locs := by rw [hH, hlc]; exact hS
  rw [show W p l e _ s m _ below meth c s.heap [] = W p l e _ s m _ below meth c H locs from by rw [hH, hlc]]
  refine lv_aload_n hx hb dX9_placesOf_0 rfl (lv_at hl 0 rfl) ?_
  refine va_get (D := D) (ci := 8) (v := .ref (qM 15)) (C := RX9) (T := TX9) (N := 29) hx hb ht0 niX9 hown hK hP 0 rfl rfl 15 (by decide) (ht0 _ wd854) (fun _ h9 => h9) rfl dX9_placesOf_1 ?_
  refine lv_bipush (v := 8) hx hb dX9_placesOf_4 (by decide) ?_
  refine lv_iconst (v := 2) hx hb dX9_placesOf_6 (by decide) ?_
  refine lv_iload_n hx hb dX9_placesOf_7 rfl (lv_at hl 1 rfl) ?_
  refine lv_imul hx hb dX9_placesOf_8 ?_
  refine lv_iadd hx hb dX9_placesOf_9 ?_
  refine lv_iconst (v := 1) hx hb dX9_placesOf_10 (by decide) ?_
  refine lv_iadd hx hb dX9_placesOf_11 ?_
  obtain ⟨g12, hok⟩ := gd_some hok
  refine va_iald hx hb hK hP 1 0 rfl rfl (okI_in g12) dX9_placesOf_12 ?_
  cases hok
  exact W.iret hx hb hr (fun t ht hW => ⟨⟨_, (), rfl, rfl, by rw [ht]; exact hP, va_K.moved hW.alike hK, hD⟩, hS.F ht⟩) hS.2.2 dX9_placesOf_13
def wsX9_kindOf : List Cond := .code yX9_kindOf cX9_kindOf 2 (some .int) :: W0
abbrev wX9_kindOf (cy : Nat → ClassId) (aM : Nat) (qM : Nat → Nat) (vM : Nat → Int32) (vM_r : Nat → Int32) : va_W := [(aM, oX9 vM qM), (qM 15, rI cy 224 vM_r)]
set_option maxHeartbeats 4000000 in
set_option maxRecDepth 100000 in
theorem kX9_kindOf (l : Launch) (D : va_G) (cy : Nat → ClassId) (sz : Nat) (aM : Nat) (qM : Nat → Nat) (vM : Nat → Int32) (vM_r : Nat → Int32) (x1 : Int32) (zr : Int32) (hok : fX9_kindOf vM vM_r x1 = some zr) (A : Nat → Prop) (hAe : va_A (wX9_kindOf cy aM qM vM vM_r) sz = A) : Met l yX9_kindOf wsX9_kindOf ({ frames := 0, cells := 0, slots := 0, locals := 0 } : Room) (kPre D cy [.ref aM, .int x1] (wX9_kindOf cy aM qM vM vM_r) sz) (kQi D cy zr A (wX9_kindOf cy aM qM vM vM_r)) 0 0 A := by
  refine Met.ofW (cc := cX9_kindOf) (maxL := 2) (ret := (some .int)) (by decide) rfl ?_
  intro p e s m args below meth c s₁ B hml hv
  obtain ⟨rfl, hsz, hP, hK, hD0, hN⟩ := hv
  have hx := B.exec
  have hb := B.bytes
  have hr := B.returns
  have ht0 : ∀ w ∈ W0, w.before _ s = true := fun w h => atoms_spec (ws := wsX9_kindOf) B.pre w (List.mem_cons_of_mem _ h)
  have hown : s.vm.findClass RX9 = some m.cls := findClass_of_methodNamed B.named
  have hlocks := B.notSynchronized
  subst hsz
  have hD : va_D A (wX9_kindOf cy aM qM vM vM_r) := by rw [← hAe]; exact hD0.self
  have hA : ∀ q : Nat, s.heap.size ≤ q → A q := fun q h => by rw [← hAe]; exact Or.inr h
  have hS : va_S A s.heap s.heap [] := va_S.rf
  have hl := lv_entry ([.ref aM, .int x1]) (n := 2) (Nat.le_of_ble_eq_true rfl)
  rw [lg_entry_eq]
  generalize (lg_sl ([.ref aM, .int x1]) ++ List.replicate (2 - (lg_sl ([.ref aM, .int x1])).length) Slot.unset).toArray = ls at hl ⊢
  have hl : lv_has ls 2 [(0, .ref aM), (1, .int x1)] := hl
  unfold fX9_kindOf at hok
  obtain ⟨H, hH⟩ : ∃ H, H = s.heap := ⟨_, rfl⟩
  obtain ⟨locs, hlc⟩ : ∃ x : List Loc, x = [] := ⟨_, rfl⟩
  have hP : va_P D vwCl (wX9_kindOf cy aM qM vM vM_r) H := by rw [hH]; exact hP
  have hS : va_S A s.heap H locs := by rw [hH, hlc]; exact hS
  rw [show W p l e _ s m _ below meth c s.heap [] = W p l e _ s m _ below meth c H locs from by rw [hH, hlc]]
  refine lv_aload_n hx hb dX9_kindOf_0 rfl (lv_at hl 0 rfl) ?_
  refine va_get (D := D) (ci := 8) (v := .ref (qM 15)) (C := RX9) (T := TX9) (N := 29) hx hb ht0 niX9 hown hK hP 0 rfl rfl 15 (by decide) (ht0 _ wd854) (fun _ h9 => h9) rfl dX9_kindOf_1 ?_
  refine lv_bipush (v := 62) hx hb dX9_kindOf_4 (by decide) ?_
  refine lv_iconst (v := 3) hx hb dX9_kindOf_6 (by decide) ?_
  refine lv_iload_n hx hb dX9_kindOf_7 rfl (lv_at hl 1 rfl) ?_
  refine lv_imul hx hb dX9_kindOf_8 ?_
  refine lv_iadd hx hb dX9_kindOf_9 ?_
  obtain ⟨g10, hok⟩ := gd_some hok
  refine va_iald hx hb hK hP 1 0 rfl rfl (okI_in g10) dX9_kindOf_10 ?_
  cases hok
  exact W.iret hx hb hr (fun t ht hW => ⟨⟨_, (), rfl, rfl, by rw [ht]; exact hP, va_K.moved hW.alike hK, hD⟩, hS.F ht⟩) hS.2.2 dX9_kindOf_11
def wsX9_aheadOf : List Cond := .code yX9_aheadOf cX9_aheadOf 5 (some .int) :: W0
abbrev wX9_aheadOf (cy : Nat → ClassId) (aM : Nat) (qM : Nat → Nat) (vM : Nat → Int32) (vM_r : Nat → Int32) : va_W := [(aM, oX9 vM qM), (qM 15, rI cy 224 vM_r)]
set_option maxHeartbeats 4000000 in
set_option maxRecDepth 100000 in
theorem kX9_aheadOf (l : Launch) (D : va_G) (cy : Nat → ClassId) (sz : Nat) (aM : Nat) (qM : Nat → Nat) (vM : Nat → Int32) (vM_r : Nat → Int32) (x1 : Int32) (zr : Int32) (hok : fX9_aheadOf vM vM_r x1 = some zr) (A : Nat → Prop) (hAe : va_A (wX9_aheadOf cy aM qM vM vM_r) sz = A) : Met l yX9_aheadOf wsX9_aheadOf ({ frames := 1, cells := 0, slots := 0, locals := 21 } : Room) (kPre D cy [.ref aM, .int x1] (wX9_aheadOf cy aM qM vM vM_r) sz) (kQi D cy zr A (wX9_aheadOf cy aM qM vM vM_r)) 0 0 A := by
  refine Met.ofW (cc := cX9_aheadOf) (maxL := 5) (ret := (some .int)) (by decide) rfl ?_
  intro p e s m args below meth c s₁ B hml hv
  obtain ⟨rfl, hsz, hP, hK, hD0, hN⟩ := hv
  have hx := B.exec
  have hb := B.bytes
  have hr := B.returns
  have ht0 : ∀ w ∈ W0, w.before _ s = true := fun w h => atoms_spec (ws := wsX9_aheadOf) B.pre w (List.mem_cons_of_mem _ h)
  have hown : s.vm.findClass RX9 = some m.cls := findClass_of_methodNamed B.named
  have hlocks := B.notSynchronized
  subst hsz
  have hD : va_D A (wX9_aheadOf cy aM qM vM vM_r) := by rw [← hAe]; exact hD0.self
  have hA : ∀ q : Nat, s.heap.size ≤ q → A q := fun q h => by rw [← hAe]; exact Or.inr h
  have hS : va_S A s.heap s.heap [] := va_S.rf
  have hl := lv_entry ([.ref aM, .int x1]) (n := 5) (Nat.le_of_ble_eq_true rfl)
  rw [lg_entry_eq]
  generalize (lg_sl ([.ref aM, .int x1]) ++ List.replicate (5 - (lg_sl ([.ref aM, .int x1])).length) Slot.unset).toArray = ls at hl ⊢
  have hl : lv_has ls 5 [(0, .ref aM), (1, .int x1)] := hl
  generalize hQe : MQ below (kQi D cy zr A (wX9_aheadOf cy aM qM vM vM_r)) ([.ref aM, .int x1] : List Value).toArray s 0 0 A = Q
  have J47 : ∀ (t0_47 : Int32), ∀ (H : Heap) (locs : List Loc) (ls : Array Slot), va_P D vwCl (wX9_aheadOf cy aM qM vM vM_r) H → va_D A (wX9_aheadOf cy aM qM vM vM_r) → va_S A s.heap H locs → lv_has ls 5 [] → fX9_aheadOf_J47 x1 t0_47 = some zr → W p l e ({ frames := 1, cells := 0, slots := 0, locals := 21 } : Room) s m ([.ref aM, .int x1] : List Value).toArray below meth c H locs 0 0 Q (F0 m 47 ls [.int t0_47, .int ((9 : Int32) * (x1 / (9 : Int32)))]) := by
    intro t0_47 H locs ls hP hD hS hl hok
    unfold fX9_aheadOf_J47 at hok
    refine lv_iadd hx hb dX9_aheadOf_47 ?_
    cases hok
    subst hQe; exact W.iret hx hb hr (fun t ht hW => ⟨⟨_, (), rfl, rfl, by rw [ht]; exact hP, va_K.moved hW.alike hK, hD⟩, hS.F ht⟩) hS.2.2 dX9_aheadOf_48
  unfold fX9_aheadOf at hok
  obtain ⟨H, hH⟩ : ∃ H, H = s.heap := ⟨_, rfl⟩
  obtain ⟨locs, hlc⟩ : ∃ x : List Loc, x = [] := ⟨_, rfl⟩
  have hP : va_P D vwCl (wX9_aheadOf cy aM qM vM vM_r) H := by rw [hH]; exact hP
  have hS : va_S A s.heap H locs := by rw [hH, hlc]; exact hS
  rw [show W p l e _ s m _ below meth c s.heap [] = W p l e _ s m _ below meth c H locs from by rw [hH, hlc]]
  refine lv_iload_n hx hb dX9_aheadOf_0 rfl (lv_at hl 1 rfl) ?_
  refine lv_bipush (v := 9) hx hb dX9_aheadOf_1 (by decide) ?_
  refine lv_idiv hx hb dX9_aheadOf_3 (by decide) ?_
  refine lv_istore_n (lv' := [(2, .int (x1 / (9 : Int32))), (0, .ref aM), (1, .int x1)]) hx hb dX9_aheadOf_4 rfl hl (by decide) rfl (fun ls hl => ?_)
  refine lv_aload_n hx hb dX9_aheadOf_5 rfl (lv_at hl 1 rfl) ?_
  refine lv_iload_n hx hb dX9_aheadOf_6 rfl (lv_at hl 0 rfl) ?_
  obtain ⟨r7, hc7, hok⟩ := k_bind hok
  refine kCi (wc := (wX9_placesOf cy aM qM vM vM_r)) (wc2 := (wX9_placesOf cy aM qM vM vM_r)) (wr := []) (ws2 := (wX9_aheadOf cy aM qM vM vM_r)) (kRunV (As := [.int (x1 / (9 : Int32))]) (rest := []) ⟨hx, hb, hml, hown, ht0⟩ (kX9_placesOf l D cy _ aM qM vM vM_r (x1 / (9 : Int32)) r7 hc7 _ rfl) (cwV 1 ht0 (gV wd878 wd879 wd880 wd744 wd881) rfl rfl rfl (by decide +kernel) ⟨Nat.le_of_ble_eq_true rfl, Nat.le_of_ble_eq_true rfl⟩) hK hN hP hD [0, 1] rfl (by decide) 0 8 rfl rfl rfl hl.1 rfl (Nat.le_of_ble_eq_true rfl) dX9_aheadOf_7 ⟨Nat.zero_le _, Nat.zero_le _⟩) hP hD hS hA [0, 1] [] rfl rfl (by decide) (by decide) [0, 1] (by decide) rfl rfl (fun H locs hP hD hS => ?_)
  refine lv_istore_n (lv' := [(3, .int r7), (2, .int (x1 / (9 : Int32))), (0, .ref aM), (1, .int x1)]) hx hb dX9_aheadOf_10 rfl hl (by decide) rfl (fun ls hl => ?_)
  refine lv_iload_n hx hb dX9_aheadOf_11 rfl (lv_at hl 3 rfl) ?_
  refine lv_bipush (v := 9) hx hb dX9_aheadOf_12 (by decide) ?_
  refine lv_irem hx hb dX9_aheadOf_14 (by decide) ?_
  refine lv_istore (lv' := [(4, .int (irm x1 (9 : Int32))), (3, .int r7), (2, .int (x1 / (9 : Int32))), (0, .ref aM), (1, .int x1)]) hx hb dX9_aheadOf_15 hl (by decide) rfl (fun ls hl => ?_)
  refine lv_bipush (v := 9) hx hb dX9_aheadOf_17 (by decide) ?_
  refine lv_iload_n hx hb dX9_aheadOf_19 rfl (lv_at hl 2 rfl) ?_
  refine lv_imul hx hb dX9_aheadOf_20 ?_
  refine lv_aload_n hx hb dX9_aheadOf_21 rfl (lv_at hl 3 rfl) ?_
  refine lv_iload_n hx hb dX9_aheadOf_22 rfl (lv_at hl 2 rfl) ?_
  obtain ⟨r23, hc23, hok⟩ := k_bind hok
  refine kCi (wc := (wX9_sortOf cy aM qM vM vM_r)) (wc2 := (wX9_sortOf cy aM qM vM vM_r)) (wr := []) (ws2 := (wX9_aheadOf cy aM qM vM vM_r)) (kRunV (As := [.int (x1 / (9 : Int32))]) (rest := [.int ((9 : Int32) * (x1 / (9 : Int32)))]) ⟨hx, hb, hml, hown, ht0⟩ (kX9_sortOf l D cy _ aM qM vM vM_r (x1 / (9 : Int32)) r23 hc23 _ rfl) (cwV 1 ht0 (gV wd882 wd883 wd884 wd744 wd885) rfl rfl rfl (by decide +kernel) ⟨Nat.le_of_ble_eq_true rfl, Nat.le_of_ble_eq_true rfl⟩) hK hN hP hD [0, 1] rfl (by decide) 0 8 rfl rfl rfl hl.1 rfl (Nat.le_of_ble_eq_true rfl) dX9_aheadOf_23 ⟨Nat.zero_le _, Nat.zero_le _⟩) hP hD hS hA [0, 1] [] rfl rfl (by decide) (by decide) [0, 1] (by decide) rfl rfl (fun H locs hP hD hS => ?_)
  refine lv_iconst (v := 2) hx hb dX9_aheadOf_26 (by decide) ?_
  refine lv_icmp_ne (tgt := 41) hx hb dX9_aheadOf_27 (by decide) (fun c27 => ?_) (fun c27 => ?_)
  · have hok := k_neg c27 hok
    refine lv_iload hx hb dX9_aheadOf_41 (lv_at hl 0 rfl) ?_
    refine lv_iconst (v := 1) hx hb dX9_aheadOf_43 (by decide) ?_
    refine lv_iadd hx hb dX9_aheadOf_44 ?_
    refine lv_iload_n hx hb dX9_aheadOf_45 rfl (lv_at hl 1 rfl) ?_
    obtain ⟨g46, hok⟩ := gd_some hok
    refine lv_irem hx hb dX9_aheadOf_46 (nzI_ne g46) ?_
    exact J47 (irm ((irm x1 (9 : Int32)) + (1 : Int32)) r7) H locs ls hP hD hS (lv_sub hl [] rfl) hok
  · have hok := k_pos c27 hok
    refine lv_iload hx hb dX9_aheadOf_30 (lv_at hl 0 rfl) ?_
    refine lv_iload_n hx hb dX9_aheadOf_32 rfl (lv_at hl 1 rfl) ?_
    refine lv_iadd hx hb dX9_aheadOf_33 ?_
    refine lv_iconst (v := 1) hx hb dX9_aheadOf_34 (by decide) ?_
    refine lv_isub hx hb dX9_aheadOf_35 ?_
    refine lv_iload_n hx hb dX9_aheadOf_36 rfl (lv_at hl 1 rfl) ?_
    obtain ⟨g37, hok⟩ := gd_some hok
    refine lv_irem hx hb dX9_aheadOf_37 (nzI_ne g37) ?_
    refine lv_goto (tgt := 47) hx hb dX9_aheadOf_38 (by decide) ?_
    exact J47 (irm (((irm x1 (9 : Int32)) + r7) - (1 : Int32)) r7) H locs ls hP hD hS (lv_sub hl [] rfl) hok
def wsX9_thingAt : List Cond := .code yX9_thingAt cX9_thingAt 4 (some .int) :: W0
abbrev wX9_thingAt (cy : Nat → ClassId) (aM : Nat) (ap1 : Nat) (qM : Nat → Nat) (vM : Nat → Int32) (vM_r : Nat → Int32) (n1 : Nat) (p1 : Nat → Int32) : va_W := [(aM, oX9 vM qM), (qM 15, rI cy 224 vM_r), (ap1, rI cy n1 p1)]
set_option maxHeartbeats 4000000 in
set_option maxRecDepth 100000 in
theorem kX9_thingAt (l : Launch) (D : va_G) (cy : Nat → ClassId) (sz : Nat) (aM : Nat) (ap1 : Nat) (qM : Nat → Nat) (vM : Nat → Int32) (vM_r : Nat → Int32) (n1 : Nat) (p1 : Nat → Int32) (x2 : Int32) (zr : Int32) (hok : fX9_thingAt vM vM_r n1 p1 x2 = some zr) (A : Nat → Prop) (hAe : va_A (wX9_thingAt cy aM ap1 qM vM vM_r n1 p1) sz = A) : Met l yX9_thingAt wsX9_thingAt ({ frames := 0, cells := 0, slots := 0, locals := 0 } : Room) (kPre D cy [.ref aM, .ref ap1, .int x2] (wX9_thingAt cy aM ap1 qM vM vM_r n1 p1) sz) (kQi D cy zr A (wX9_thingAt cy aM ap1 qM vM vM_r n1 p1)) 0 0 A := by
  refine Met.ofW (cc := cX9_thingAt) (maxL := 4) (ret := (some .int)) (by decide) rfl ?_
  intro p e s m args below meth c s₁ B hml hv
  obtain ⟨rfl, hsz, hP, hK, hD0, hN⟩ := hv
  have hx := B.exec
  have hb := B.bytes
  have hr := B.returns
  have ht0 : ∀ w ∈ W0, w.before _ s = true := fun w h => atoms_spec (ws := wsX9_thingAt) B.pre w (List.mem_cons_of_mem _ h)
  have hown : s.vm.findClass RX9 = some m.cls := findClass_of_methodNamed B.named
  have hlocks := B.notSynchronized
  subst hsz
  have hD : va_D A (wX9_thingAt cy aM ap1 qM vM vM_r n1 p1) := by rw [← hAe]; exact hD0.self
  have hA : ∀ q : Nat, s.heap.size ≤ q → A q := fun q h => by rw [← hAe]; exact Or.inr h
  have hS : va_S A s.heap s.heap [] := va_S.rf
  have hl := lv_entry ([.ref aM, .ref ap1, .int x2]) (n := 4) (Nat.le_of_ble_eq_true rfl)
  rw [lg_entry_eq]
  generalize (lg_sl ([.ref aM, .ref ap1, .int x2]) ++ List.replicate (4 - (lg_sl ([.ref aM, .ref ap1, .int x2])).length) Slot.unset).toArray = ls at hl ⊢
  have hl : lv_has ls 4 [(0, .ref aM), (1, .ref ap1), (2, .int x2)] := hl
  generalize hQe : MQ below (kQi D cy zr A (wX9_thingAt cy aM ap1 qM vM vM_r n1 p1)) ([.ref aM, .ref ap1, .int x2] : List Value).toArray s 0 0 A = Q
  have L2 : ∀ (fuel : Nat) (y3_2 : Int32), ∀ (H : Heap) (locs : List Loc) (ls : Array Slot), va_P D vwCl (wX9_thingAt cy aM ap1 qM vM vM_r n1 p1) H → va_D A (wX9_thingAt cy aM ap1 qM vM vM_r n1 p1) → va_S A s.heap H locs → lv_has ls 4 [(0, .ref aM), (1, .ref ap1), (2, .int x2), (3, .int y3_2)] → lp (fX9_thingAt_B2 vM_r n1 p1 x2) fuel y3_2 = some zr → W p l e ({ frames := 0, cells := 0, slots := 0, locals := 0 } : Room) s m ([.ref aM, .ref ap1, .int x2] : List Value).toArray below meth c H locs 0 0 Q (F0 m 2 ls []) := by
    intro fuel
    induction fuel with
    | zero => intro y3_2 H locs ls hP hD hS hl hok; exact (lp_0 hok).elim
    | succ fuel ih2 =>
      intro y3_2 H locs ls hP hD hS hl hok
      obtain ⟨y2, hok, hL2, hR2⟩ := lp_step hok
      unfold fX9_thingAt_B2 at hok
      refine lv_iload_n hx hb dX9_thingAt_2 rfl (lv_at hl 3 rfl) ?_
      refine lv_aload_n hx hb dX9_thingAt_3 rfl (lv_at hl 0 rfl) ?_
      refine va_get (D := D) (ci := 8) (v := .ref (qM 15)) (C := RX9) (T := TX9) (N := 29) hx hb ht0 niX9 hown hK hP 0 rfl rfl 15 (by decide) (ht0 _ wd854) (fun _ h9 => h9) rfl dX9_thingAt_4 ?_
      refine lv_iconst (v := 3) hx hb dX9_thingAt_7 (by decide) ?_
      obtain ⟨g8, hok⟩ := gd_some hok
      refine va_iald hx hb hK hP 1 0 rfl rfl (okI_in g8) dX9_thingAt_8 ?_
      refine lv_icmp_ge (tgt := 27) hx hb dX9_thingAt_9 (by decide) (fun c9 => ?_) (fun c9 => ?_)
      · have hok := k_pos c9 hok
        obtain ⟨e2, hok, he2⟩ := ex_some hok
        have hok := hok.trans (congrArg some (hL2 _ he2))
        refine lv_bipush (v := -2) hx hb dX9_thingAt_27 (by decide) ?_
        cases hok
        subst hQe; exact W.iret hx hb hr (fun t ht hW => ⟨⟨_, (), rfl, rfl, by rw [ht]; exact hP, va_K.moved hW.alike hK, hD⟩, hS.F ht⟩) hS.2.2 dX9_thingAt_29
      · have hok := k_neg c9 hok
        refine lv_aload_n hx hb dX9_thingAt_12 rfl (lv_at hl 1 rfl) ?_
        refine lv_iload_n hx hb dX9_thingAt_13 rfl (lv_at hl 3 rfl) ?_
        obtain ⟨g14, hok⟩ := gd_some hok
        refine va_iald hx hb hK hP 2 0 rfl rfl (okI_in g14) dX9_thingAt_14 ?_
        refine lv_iload_n hx hb dX9_thingAt_15 rfl (lv_at hl 2 rfl) ?_
        refine lv_icmp_ne (tgt := 21) hx hb dX9_thingAt_16 (by decide) (fun c16 => ?_) (fun c16 => ?_)
        · have hok := k_neg c16 hok
          refine lv_iinc (v := (y3_2 + 1)) (lv' := [(3, .int (y3_2 + 1)), (0, .ref aM), (1, .ref ap1), (2, .int x2)]) hx hb dX9_thingAt_21 hl (k := 3) rfl (by first | rfl | decide) (by decide) rfl (fun ls hl => ?_)
          refine lv_goto (tgt := 2) hx hb dX9_thingAt_24 (by decide) ?_
          exact ih2 (y3_2 + 1) H locs ls hP hD hS (lv_sub hl [1, 2, 3, 0] rfl) (hR2 _ (Option.some.inj hok).symm)
        · have hok := k_pos c16 hok
          obtain ⟨e2, hok, he2⟩ := ex_some hok
          have hok := hok.trans (congrArg some (hL2 _ he2))
          refine lv_iload_n hx hb dX9_thingAt_19 rfl (lv_at hl 3 rfl) ?_
          cases hok
          subst hQe; exact W.iret hx hb hr (fun t ht hW => ⟨⟨_, (), rfl, rfl, by rw [ht]; exact hP, va_K.moved hW.alike hK, hD⟩, hS.F ht⟩) hS.2.2 dX9_thingAt_20
  unfold fX9_thingAt at hok
  obtain ⟨H, hH⟩ : ∃ H, H = s.heap := ⟨_, rfl⟩
  obtain ⟨locs, hlc⟩ : ∃ x : List Loc, x = [] := ⟨_, rfl⟩
  have hP : va_P D vwCl (wX9_thingAt cy aM ap1 qM vM vM_r n1 p1) H := by rw [hH]; exact hP
  have hS : va_S A s.heap H locs := by rw [hH, hlc]; exact hS
  rw [show W p l e _ s m _ below meth c s.heap [] = W p l e _ s m _ below meth c H locs from by rw [hH, hlc]]
  refine lv_iconst (v := 0) hx hb dX9_thingAt_0 (by decide) ?_
  refine lv_istore_n (lv' := [(3, .int 0), (0, .ref aM), (1, .ref ap1), (2, .int x2)]) hx hb dX9_thingAt_1 rfl hl (by decide) rfl (fun ls hl => ?_)
  exact L2 5000 (0 : Int32) H locs ls hP hD hS (lv_sub hl [1, 2, 3, 0] rfl) hok
def wsX9_isCome : List Cond := .code yX9_isCome cX9_isCome 3 (some .boolean) :: W0
abbrev wX9_isCome (cy : Nat → ClassId) (aM : Nat) (ap1 : Nat) (qM : Nat → Nat) (n1 : Nat) (p1 : Nat → Int32) (vM : Nat → Int32) (vM_r : Nat → Int32) : va_W := [(ap1, rI cy n1 p1), (aM, oX9 vM qM), (qM 15, rI cy 224 vM_r)]
set_option maxHeartbeats 4000000 in
set_option maxRecDepth 100000 in
theorem kX9_isCome (l : Launch) (D : va_G) (cy : Nat → ClassId) (sz : Nat) (aM : Nat) (ap1 : Nat) (qM : Nat → Nat) (n1 : Nat) (p1 : Nat → Int32) (vM : Nat → Int32) (vM_r : Nat → Int32) (x2 : Int32) (zr : Int32) (hok : fX9_isCome n1 p1 vM vM_r x2 = some zr) (A : Nat → Prop) (hAe : va_A (wX9_isCome cy aM ap1 qM n1 p1 vM vM_r) sz = A) : Met l yX9_isCome wsX9_isCome ({ frames := 1, cells := 0, slots := 0, locals := 21 } : Room) (kPre D cy [.ref aM, .ref ap1, .int x2] (wX9_isCome cy aM ap1 qM n1 p1 vM vM_r) sz) (kQi D cy zr A (wX9_isCome cy aM ap1 qM n1 p1 vM vM_r)) 0 0 A := by
  refine Met.ofW (cc := cX9_isCome) (maxL := 3) (ret := (some .boolean)) (by decide) rfl ?_
  intro p e s m args below meth c s₁ B hml hv
  obtain ⟨rfl, hsz, hP, hK, hD0, hN⟩ := hv
  have hx := B.exec
  have hb := B.bytes
  have hr := B.returns
  have ht0 : ∀ w ∈ W0, w.before _ s = true := fun w h => atoms_spec (ws := wsX9_isCome) B.pre w (List.mem_cons_of_mem _ h)
  have hown : s.vm.findClass RX9 = some m.cls := findClass_of_methodNamed B.named
  have hlocks := B.notSynchronized
  subst hsz
  have hD : va_D A (wX9_isCome cy aM ap1 qM n1 p1 vM vM_r) := by rw [← hAe]; exact hD0.self
  have hA : ∀ q : Nat, s.heap.size ≤ q → A q := fun q h => by rw [← hAe]; exact Or.inr h
  have hS : va_S A s.heap s.heap [] := va_S.rf
  have hl := lv_entry ([.ref aM, .ref ap1, .int x2]) (n := 3) (Nat.le_of_ble_eq_true rfl)
  rw [lg_entry_eq]
  generalize (lg_sl ([.ref aM, .ref ap1, .int x2]) ++ List.replicate (3 - (lg_sl ([.ref aM, .ref ap1, .int x2])).length) Slot.unset).toArray = ls at hl ⊢
  have hl : lv_has ls 3 [(0, .ref aM), (1, .ref ap1), (2, .int x2)] := hl
  generalize hQe : MQ below (kQi D cy zr A (wX9_isCome cy aM ap1 qM n1 p1 vM vM_r)) ([.ref aM, .ref ap1, .int x2] : List Value).toArray s 0 0 A = Q
  have J35 : ∀ (t0_35 : Int32), ∀ (H : Heap) (locs : List Loc) (ls : Array Slot), va_P D vwCl (wX9_isCome cy aM ap1 qM n1 p1 vM vM_r) H → va_D A (wX9_isCome cy aM ap1 qM n1 p1 vM vM_r) → va_S A s.heap H locs → lv_has ls 3 [] → fX9_isCome_J35 t0_35 = some zr → W p l e ({ frames := 1, cells := 0, slots := 0, locals := 21 } : Room) s m ([.ref aM, .ref ap1, .int x2] : List Value).toArray below meth c H locs 0 0 Q (F0 m 35 ls [.int t0_35]) := by
    intro t0_35 H locs ls hP hD hS hl hok
    unfold fX9_isCome_J35 at hok
    obtain ⟨g35, hok⟩ := gd_some hok
    cases hok
    subst hQe; exact W.zret hx hb hr (isB_nar g35) (fun t ht hW => ⟨⟨_, (), rfl, rfl, by rw [ht]; exact hP, va_K.moved hW.alike hK, hD⟩, hS.F ht⟩) hS.2.2 dX9_isCome_35
  have J30 : ∀ (H : Heap) (locs : List Loc) (ls : Array Slot), va_P D vwCl (wX9_isCome cy aM ap1 qM n1 p1 vM vM_r) H → va_D A (wX9_isCome cy aM ap1 qM n1 p1 vM vM_r) → va_S A s.heap H locs → lv_has ls 3 [] → fX9_isCome_J30 = some zr → W p l e ({ frames := 1, cells := 0, slots := 0, locals := 21 } : Room) s m ([.ref aM, .ref ap1, .int x2] : List Value).toArray below meth c H locs 0 0 Q (F0 m 30 ls []) := by
    intro  H locs ls hP hD hS hl hok
    unfold fX9_isCome_J30 at hok
    refine lv_iconst (v := 1) hx hb dX9_isCome_30 (by decide) ?_
    refine lv_goto (tgt := 35) hx hb dX9_isCome_31 (by decide) ?_
    exact J35 (1 : Int32) H locs ls hP hD hS (lv_sub hl [] rfl) hok
  unfold fX9_isCome at hok
  obtain ⟨H, hH⟩ : ∃ H, H = s.heap := ⟨_, rfl⟩
  obtain ⟨locs, hlc⟩ : ∃ x : List Loc, x = [] := ⟨_, rfl⟩
  have hP : va_P D vwCl (wX9_isCome cy aM ap1 qM n1 p1 vM vM_r) H := by rw [hH]; exact hP
  have hS : va_S A s.heap H locs := by rw [hH, hlc]; exact hS
  rw [show W p l e _ s m _ below meth c s.heap [] = W p l e _ s m _ below meth c H locs from by rw [hH, hlc]]
  refine lv_aload_n hx hb dX9_isCome_0 rfl (lv_at hl 0 rfl) ?_
  refine lv_aload_n hx hb dX9_isCome_1 rfl (lv_at hl 1 rfl) ?_
  refine lv_iload_n hx hb dX9_isCome_2 rfl (lv_at hl 2 rfl) ?_
  obtain ⟨g3, hok⟩ := gd_some hok
  refine va_iald hx hb hK hP 0 0 rfl rfl (okI_in g3) dX9_isCome_3 ?_
  refine lv_bipush (v := 9) hx hb dX9_isCome_4 (by decide) ?_
  refine lv_idiv hx hb dX9_isCome_6 (by decide) ?_
  obtain ⟨r7, hc7, hok⟩ := k_bind hok
  refine kCi (wc := (wX9_sortOf cy aM qM vM vM_r)) (wc2 := (wX9_sortOf cy aM qM vM vM_r)) (wr := [(ap1, rI cy n1 p1)]) (ws2 := (wX9_isCome cy aM ap1 qM n1 p1 vM vM_r)) (kRunV (As := [.int ((p1 x2.toNatClampNeg) / (9 : Int32))]) (rest := []) ⟨hx, hb, hml, hown, ht0⟩ (kX9_sortOf l D cy _ aM qM vM vM_r ((p1 x2.toNatClampNeg) / (9 : Int32)) r7 hc7 _ rfl) (cwV 1 ht0 (gV wd882 wd883 wd884 wd744 wd885) rfl rfl rfl (by decide +kernel) ⟨Nat.le_of_ble_eq_true rfl, Nat.le_of_ble_eq_true rfl⟩) hK hN hP hD [1, 2] rfl (by decide) 1 8 rfl rfl rfl hl.1 rfl (Nat.le_of_ble_eq_true rfl) dX9_isCome_7 ⟨Nat.zero_le _, Nat.zero_le _⟩) hP hD hS hA [1, 2] [0] rfl rfl (by decide) (by decide) [0, 1, 2] (by decide) rfl rfl (fun H locs hP hD hS => ?_)
  refine lv_iconst (v := 1) hx hb dX9_isCome_10 (by decide) ?_
  refine lv_icmp_ne (tgt := 30) hx hb dX9_isCome_11 (by decide) (fun c11 => ?_) (fun c11 => ?_)
  · have hok := k_neg c11 hok
    exact J30  H locs ls hP hD hS (lv_sub hl [] rfl) hok
  · have hok := k_pos c11 hok
    refine lv_aload_n hx hb dX9_isCome_14 rfl (lv_at hl 1 rfl) ?_
    refine lv_bipush (v := 8) hx hb dX9_isCome_15 (by decide) ?_
    obtain ⟨g17, hok⟩ := gd_some hok
    refine va_iald hx hb hK hP 0 0 rfl rfl (okI_in g17) dX9_isCome_17 ?_
    refine lv_iconst (v := 1) hx hb dX9_isCome_18 (by decide) ?_
    refine lv_iadd hx hb dX9_isCome_19 ?_
    refine lv_aload_n hx hb dX9_isCome_20 rfl (lv_at hl 0 rfl) ?_
    refine va_get (D := D) (ci := 8) (v := .ref (qM 15)) (C := RX9) (T := TX9) (N := 29) hx hb ht0 niX9 hown hK hP 1 rfl rfl 15 (by decide) (ht0 _ wd854) (fun _ h9 => h9) rfl dX9_isCome_21 ?_
    refine lv_iconst (v := 0) hx hb dX9_isCome_24 (by decide) ?_
    obtain ⟨g25, hok⟩ := gd_some hok
    refine va_iald hx hb hK hP 2 0 rfl rfl (okI_in g25) dX9_isCome_25 ?_
    obtain ⟨g26, hok⟩ := gd_some hok
    refine lv_irem hx hb dX9_isCome_26 (nzI_ne g26) ?_
    refine lv_if_ne (tgt := 34) hx hb dX9_isCome_27 (by decide) (fun c27 => ?_) (fun c27 => ?_)
    · have hok := k_neg c27 hok
      refine lv_iconst (v := 0) hx hb dX9_isCome_34 (by decide) ?_
      exact J35 (0 : Int32) H locs ls hP hD hS (lv_sub hl [] rfl) hok
    · have hok := k_pos c27 hok
      exact J30  H locs ls hP hD hS (lv_sub hl [] rfl) hok
