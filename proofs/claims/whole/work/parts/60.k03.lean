def wsX5_step : List Cond := .code yX5_step cX5_step 3 none :: W0
abbrev wX5_step (cy : Nat → ClassId) (aR : Nat) (qR : Nat → Nat) (aH : Nat) (vR_j11 : Int64) (vR : Nat → Int32) (vR_tape : Nat → Int32) : va_W := [(aR, oX5 vR qR vR_j11 aH), (qR 0, rB cy 900 vR_tape)]
set_option maxHeartbeats 4000000 in
set_option maxRecDepth 100000 in
theorem kX5_step (l : Launch) (D : va_G) (cy : Nat → ClassId) (sz : Nat) (aR : Nat) (qR : Nat → Nat) (aH : Nat) (vR_j11 : Int64) (vR : Nat → Int32) (vR_tape : Nat → Int32) (z_vR_j11 : Int64) (z_vR : Nat → Int32) (hok : fX5_step vR_j11 vR vR_tape = some (z_vR_j11, z_vR)) (A : Nat → Prop) (hAe : va_A (wX5_step cy aR qR aH vR_j11 vR vR_tape) sz = A) : Met l yX5_step wsX5_step ({ frames := 1, cells := 0, slots := 0, locals := 21 } : Room) (kPre D cy [.ref aR] (wX5_step cy aR qR aH vR_j11 vR vR_tape) sz) (kQv D cy A (wX5_step cy aR qR aH z_vR_j11 z_vR vR_tape)) 0 0 A := by
  refine Met.ofW (cc := cX5_step) (maxL := 3) (ret := none) (by decide) rfl ?_
  intro p e s m args below meth c s₁ B hml hv
  obtain ⟨rfl, hsz, hP, hK, hD0, hN⟩ := hv
  have hx := B.exec
  have hb := B.bytes
  have hr := B.returns
  have ht0 : ∀ w ∈ W0, w.before _ s = true := fun w h => atoms_spec (ws := wsX5_step) B.pre w (List.mem_cons_of_mem _ h)
  have hown : s.vm.findClass RX5 = some m.cls := findClass_of_methodNamed B.named
  have hlocks := B.notSynchronized
  subst hsz
  have hD : va_D A (wX5_step cy aR qR aH vR_j11 vR vR_tape) := by rw [← hAe]; exact hD0.self
  have hA : ∀ q : Nat, s.heap.size ≤ q → A q := fun q h => by rw [← hAe]; exact Or.inr h
  have hS : va_S A s.heap s.heap [] := va_S.rf
  have hl := lv_entry ([.ref aR]) (n := 3) (Nat.le_of_ble_eq_true rfl)
  rw [lg_entry_eq]
  generalize (lg_sl ([.ref aR]) ++ List.replicate (3 - (lg_sl ([.ref aR])).length) Slot.unset).toArray = ls at hl ⊢
  have hl : lv_has ls 3 [(0, .ref aR)] := hl
  generalize hQe : MQ below (kQv D cy A (wX5_step cy aR qR aH z_vR_j11 z_vR vR_tape)) ([.ref aR] : List Value).toArray s 0 0 A = Q
  have J117 : ∀ (vR_11_117 : Int64) (vR_117 : Nat → Int32), ∀ (H : Heap) (locs : List Loc) (ls : Array Slot), va_P D vwCl (wX5_step cy aR qR aH vR_11_117 vR_117 vR_tape) H → va_D A (wX5_step cy aR qR aH vR_11_117 vR_117 vR_tape) → va_S A s.heap H locs → lv_has ls 3 [] → fX5_step_J117 vR_11_117 vR_117 = some (z_vR_j11, z_vR) → W p l e ({ frames := 1, cells := 0, slots := 0, locals := 21 } : Room) s m ([.ref aR] : List Value).toArray below meth c H locs 0 0 Q (F0 m 117 ls []) := by
    intro vR_11_117 vR_117 H locs ls hP hD hS hl hok
    unfold fX5_step_J117 at hok
    cases hok
    subst hQe; exact W.vret hx hb hr (fun t ht hW => ⟨⟨(), rfl, trivial, by rw [ht]; exact hP, va_K.moved hW.alike hK, hD⟩, hS.F ht⟩) hS.2.2 dX5_step_117
  have J107 : ∀ (y1_107 : Int32) (t0_107 : Int32) (vR_107 : Nat → Int32), ∀ (H : Heap) (locs : List Loc) (ls : Array Slot), va_P D vwCl (wX5_step cy aR qR aH vR_j11 vR_107 vR_tape) H → va_D A (wX5_step cy aR qR aH vR_j11 vR_107 vR_tape) → va_S A s.heap H locs → lv_has ls 3 [(0, .ref aR), (1, .int y1_107)] → fX5_step_J107 vR_j11 y1_107 t0_107 vR_107 = some (z_vR_j11, z_vR) → W p l e ({ frames := 1, cells := 0, slots := 0, locals := 21 } : Room) s m ([.ref aR] : List Value).toArray below meth c H locs 0 0 Q (F0 m 107 ls [.int t0_107, .ref aR]) := by
    intro y1_107 t0_107 vR_107 H locs ls hP hD hS hl hok
    unfold fX5_step_J107 at hok
    refine va_put (D := D) (ci := 4) (v := .int t0_107) (ty := .int) (C := RX5) (T := TX5) (N := 13) hx hb ht0 niX5 tyX5 tyX5_ok nmX5 hown hK hP hD hS 0 rfl rfl 7 (by decide) (ht0 _ wd269) (fun _ h9 => h9) rfl (by decide +kernel) rfl rfl (Nat.le_of_ble_eq_true rfl) dX5_step_107 (fun H locs hP hD hS => ?_)
    have hP : va_P D vwCl (wX5_step cy aR qR aH vR_j11 (upd vR_107 7 t0_107) vR_tape) H := hP
    have hD : va_D A (wX5_step cy aR qR aH vR_j11 (upd vR_107 7 t0_107) vR_tape) := hD
    refine lv_aload_n hx hb dX5_step_110 rfl (lv_at hl 0 rfl) ?_
    refine lv_iload_n hx hb dX5_step_111 rfl (lv_at hl 1 rfl) ?_
    refine lv_iconst (v := 1) hx hb dX5_step_112 (by decide) ?_
    refine lv_iadd hx hb dX5_step_113 ?_
    refine va_put (D := D) (ci := 4) (v := .int (y1_107 + (1 : Int32))) (ty := .int) (C := RX5) (T := TX5) (N := 13) hx hb ht0 niX5 tyX5 tyX5_ok nmX5 hown hK hP hD hS 0 rfl rfl 9 (by decide) (ht0 _ wd270) (fun _ h9 => h9) rfl (by decide +kernel) rfl rfl (Nat.le_of_ble_eq_true rfl) dX5_step_114 (fun H locs hP hD hS => ?_)
    have hP : va_P D vwCl (wX5_step cy aR qR aH vR_j11 (upd (upd vR_107 7 t0_107) 9 (y1_107 + (1 : Int32))) vR_tape) H := hP
    have hD : va_D A (wX5_step cy aR qR aH vR_j11 (upd (upd vR_107 7 t0_107) 9 (y1_107 + (1 : Int32))) vR_tape) := hD
    exact J117 vR_j11 (upd (upd vR_107 7 t0_107) 9 (y1_107 + (1 : Int32))) H locs ls hP hD hS (lv_sub hl [] rfl) hok
  have J95 : ∀ (y1_95 : Int32) (y2_95 : Int32) (vR_95 : Nat → Int32), ∀ (H : Heap) (locs : List Loc) (ls : Array Slot), va_P D vwCl (wX5_step cy aR qR aH vR_j11 vR_95 vR_tape) H → va_D A (wX5_step cy aR qR aH vR_j11 vR_95 vR_tape) → va_S A s.heap H locs → lv_has ls 3 [(0, .ref aR), (1, .int y1_95), (2, .int y2_95)] → fX5_step_J95 vR_j11 y1_95 y2_95 vR_95 = some (z_vR_j11, z_vR) → W p l e ({ frames := 1, cells := 0, slots := 0, locals := 21 } : Room) s m ([.ref aR] : List Value).toArray below meth c H locs 0 0 Q (F0 m 95 ls []) := by
    intro y1_95 y2_95 vR_95 H locs ls hP hD hS hl hok
    unfold fX5_step_J95 at hok
    refine lv_aload_n hx hb dX5_step_95 rfl (lv_at hl 0 rfl) ?_
    refine lv_iload_n hx hb dX5_step_96 rfl (lv_at hl 2 rfl) ?_
    refine lv_bipush (v := 59) hx hb dX5_step_97 (by decide) ?_
    refine lv_icmp_ne (tgt := 106) hx hb dX5_step_99 (by decide) (fun c99 => ?_) (fun c99 => ?_)
    · have hok := k_neg c99 hok
      refine lv_iconst (v := 4) hx hb dX5_step_106 (by decide) ?_
      exact J107 y1_95 (4 : Int32) vR_95 H locs ls hP hD hS (lv_sub hl [0, 1] rfl) hok
    · have hok := k_pos c99 hok
      refine lv_iconst (v := 3) hx hb dX5_step_102 (by decide) ?_
      refine lv_goto (tgt := 107) hx hb dX5_step_103 (by decide) ?_
      exact J107 y1_95 (3 : Int32) vR_95 H locs ls hP hD hS (lv_sub hl [0, 1] rfl) hok
  have J76 : ∀ (y1_76 : Int32) (y2_76 : Int32) (vR_76 : Nat → Int32), ∀ (H : Heap) (locs : List Loc) (ls : Array Slot), va_P D vwCl (wX5_step cy aR qR aH vR_j11 vR_76 vR_tape) H → va_D A (wX5_step cy aR qR aH vR_j11 vR_76 vR_tape) → va_S A s.heap H locs → lv_has ls 3 [(0, .ref aR), (1, .int y1_76), (2, .int y2_76)] → fX5_step_J76 vR_j11 vR_tape y1_76 y2_76 vR_76 = some (z_vR_j11, z_vR) → W p l e ({ frames := 1, cells := 0, slots := 0, locals := 21 } : Room) s m ([.ref aR] : List Value).toArray below meth c H locs 0 0 Q (F0 m 76 ls []) := by
    intro y1_76 y2_76 vR_76 H locs ls hP hD hS hl hok
    unfold fX5_step_J76 at hok
    refine lv_iload_n hx hb dX5_step_76 rfl (lv_at hl 2 rfl) ?_
    refine lv_bipush (v := 48) hx hb dX5_step_77 (by decide) ?_
    refine lv_icmp_lt (tgt := 95) hx hb dX5_step_79 (by decide) (fun c79 => ?_) (fun c79 => ?_)
    · have hok := k_pos c79 hok
      exact J95 y1_76 y2_76 vR_76 H locs ls hP hD hS (lv_sub hl [0, 1, 2] rfl) hok
    · have hok := k_neg c79 hok
      refine lv_iload_n hx hb dX5_step_82 rfl (lv_at hl 2 rfl) ?_
      refine lv_bipush (v := 57) hx hb dX5_step_83 (by decide) ?_
      refine lv_icmp_gt (tgt := 95) hx hb dX5_step_85 (by decide) (fun c85 => ?_) (fun c85 => ?_)
      · have hok := k_pos c85 hok
        exact J95 y1_76 y2_76 vR_76 H locs ls hP hD hS (lv_sub hl [0, 1, 2] rfl) hok
      · have hok := k_neg c85 hok
        refine lv_aload_n hx hb dX5_step_88 rfl (lv_at hl 0 rfl) ?_
        obtain ⟨vR_89, hc89, hok⟩ := k_bind hok
        refine kCv (wc := (wX5_takeDigits cy aR qR aH vR_j11 vR_76 vR_tape)) (wc2 := (wX5_takeDigits cy aR qR aH vR_j11 vR_89 vR_tape)) (wr := []) (ws2 := (wX5_step cy aR qR aH vR_j11 vR_89 vR_tape)) (kRunV (As := []) (rest := []) ⟨hx, hb, hml, hown, ht0⟩ (kX5_takeDigits l D cy _ aR qR aH vR_j11 vR_76 vR_tape vR_89 hc89 _ rfl) (cwV 0 ht0 (gV wd273 wd274 wd275 wd276 wd277) rfl rfl rfl (by decide +kernel) ⟨Nat.le_of_ble_eq_true rfl, Nat.le_of_ble_eq_true rfl⟩) hK hN hP hD [0, 1] rfl (by decide) 0 4 rfl rfl rfl hl.1 rfl (Nat.le_of_ble_eq_true rfl) dX5_step_89 ⟨Nat.zero_le _, Nat.zero_le _⟩) hP hD hS hA [0, 1] [] rfl rfl (by decide) (by decide) [0, 1] (by decide) rfl rfl (fun H locs hP hD hS => ?_)
        refine lv_goto (tgt := 117) hx hb dX5_step_92 (by decide) ?_
        exact J117 vR_j11 vR_89 H locs ls hP hD hS (lv_sub hl [] rfl) hok
  have J29 : ∀ (y1_29 : Int32), ∀ (H : Heap) (locs : List Loc) (ls : Array Slot), va_P D vwCl (wX5_step cy aR qR aH vR_j11 vR vR_tape) H → va_D A (wX5_step cy aR qR aH vR_j11 vR vR_tape) → va_S A s.heap H locs → lv_has ls 3 [(0, .ref aR), (1, .int y1_29)] → fX5_step_J29 vR_j11 vR vR_tape y1_29 = some (z_vR_j11, z_vR) → W p l e ({ frames := 1, cells := 0, slots := 0, locals := 21 } : Room) s m ([.ref aR] : List Value).toArray below meth c H locs 0 0 Q (F0 m 29 ls []) := by
    intro y1_29 H locs ls hP hD hS hl hok
    unfold fX5_step_J29 at hok
    refine lv_aload_n hx hb dX5_step_29 rfl (lv_at hl 0 rfl) ?_
    refine lv_iload_n hx hb dX5_step_30 rfl (lv_at hl 1 rfl) ?_
    refine va_put (D := D) (ci := 4) (v := .int y1_29) (ty := .int) (C := RX5) (T := TX5) (N := 13) hx hb ht0 niX5 tyX5 tyX5_ok nmX5 hown hK hP hD hS 0 rfl rfl 8 (by decide) (ht0 _ wd265) (fun _ h9 => h9) rfl (by decide +kernel) rfl rfl (Nat.le_of_ble_eq_true rfl) dX5_step_31 (fun H locs hP hD hS => ?_)
    have hP : va_P D vwCl (wX5_step cy aR qR aH vR_j11 (upd vR 8 y1_29) vR_tape) H := hP
    have hD : va_D A (wX5_step cy aR qR aH vR_j11 (upd vR 8 y1_29) vR_tape) := hD
    refine lv_aload_n hx hb dX5_step_34 rfl (lv_at hl 0 rfl) ?_
    refine lv_iload_n hx hb dX5_step_35 rfl (lv_at hl 1 rfl) ?_
    refine va_put (D := D) (ci := 4) (v := .int y1_29) (ty := .int) (C := RX5) (T := TX5) (N := 13) hx hb ht0 niX5 tyX5 tyX5_ok nmX5 hown hK hP hD hS 0 rfl rfl 9 (by decide) (ht0 _ wd270) (fun _ h9 => h9) rfl (by decide +kernel) rfl rfl (Nat.le_of_ble_eq_true rfl) dX5_step_36 (fun H locs hP hD hS => ?_)
    have hP : va_P D vwCl (wX5_step cy aR qR aH vR_j11 (upd (upd vR 8 y1_29) 9 y1_29) vR_tape) H := hP
    have hD : va_D A (wX5_step cy aR qR aH vR_j11 (upd (upd vR 8 y1_29) 9 y1_29) vR_tape) := hD
    refine lv_aload_n hx hb dX5_step_39 rfl (lv_at hl 0 rfl) ?_
    refine lv_iload_n hx hb dX5_step_40 rfl (lv_at hl 1 rfl) ?_
    obtain ⟨r41, hc41, hok⟩ := k_bind hok
    refine kCi (wc := (wX5_byteAt cy aR qR aH vR_j11 (upd (upd vR 8 y1_29) 9 y1_29) vR_tape)) (wc2 := (wX5_byteAt cy aR qR aH vR_j11 (upd (upd vR 8 y1_29) 9 y1_29) vR_tape)) (wr := []) (ws2 := (wX5_step cy aR qR aH vR_j11 (upd (upd vR 8 y1_29) 9 y1_29) vR_tape)) (kRunV (As := [.int y1_29]) (rest := []) ⟨hx, hb, hml, hown, ht0⟩ (kX5_byteAt l D cy _ aR qR aH vR_j11 (upd (upd vR 8 y1_29) 9 y1_29) vR_tape y1_29 r41 hc41 _ rfl) (cwV 1 ht0 (gV wd278 wd279 wd280 wd276 wd281) rfl rfl rfl (by decide +kernel) ⟨Nat.le_of_ble_eq_true rfl, Nat.le_of_ble_eq_true rfl⟩) hK hN hP hD [0, 1] rfl (by decide) 0 4 rfl rfl rfl hl.1 rfl (Nat.le_of_ble_eq_true rfl) dX5_step_41 ⟨Nat.zero_le _, Nat.zero_le _⟩) hP hD hS hA [0, 1] [] rfl rfl (by decide) (by decide) [0, 1] (by decide) rfl rfl (fun H locs hP hD hS => ?_)
    refine lv_istore_n (lv' := [(2, .int r41), (0, .ref aR), (1, .int y1_29)]) hx hb dX5_step_44 rfl hl (by decide) rfl (fun ls hl => ?_)
    refine lv_iload_n hx hb dX5_step_45 rfl (lv_at hl 0 rfl) ?_
    refine lv_if_ge (tgt := 57) hx hb dX5_step_46 (by decide) (fun c46 => ?_) (fun c46 => ?_)
    · have hok := k_pos c46 hok
      refine lv_iload_n hx hb dX5_step_57 rfl (lv_at hl 0 rfl) ?_
      refine lv_bipush (v := 97) hx hb dX5_step_58 (by decide) ?_
      refine lv_icmp_lt (tgt := 76) hx hb dX5_step_60 (by decide) (fun c60 => ?_) (fun c60 => ?_)
      · have hok := k_pos c60 hok
        exact J76 y1_29 r41 (upd (upd vR 8 y1_29) 9 y1_29) H locs ls hP hD hS (lv_sub hl [1, 2, 0] rfl) hok
      · have hok := k_neg c60 hok
        refine lv_iload_n hx hb dX5_step_63 rfl (lv_at hl 0 rfl) ?_
        refine lv_bipush (v := 122) hx hb dX5_step_64 (by decide) ?_
        refine lv_icmp_gt (tgt := 76) hx hb dX5_step_66 (by decide) (fun c66 => ?_) (fun c66 => ?_)
        · have hok := k_pos c66 hok
          exact J76 y1_29 r41 (upd (upd vR 8 y1_29) 9 y1_29) H locs ls hP hD hS (lv_sub hl [1, 2, 0] rfl) hok
        · have hok := k_neg c66 hok
          refine lv_aload_n hx hb dX5_step_69 rfl (lv_at hl 1 rfl) ?_
          obtain ⟨⟨vR_j11_70, vR_70⟩, hc70, hok⟩ := k_bind hok
          try dsimp only at hok
          refine kCv (wc := (wX5_takeLetters cy aR qR aH vR_j11 (upd (upd vR 8 y1_29) 9 y1_29) vR_tape)) (wc2 := (wX5_takeLetters cy aR qR aH vR_j11_70 vR_70 vR_tape)) (wr := []) (ws2 := (wX5_step cy aR qR aH vR_j11_70 vR_70 vR_tape)) (kRunV (As := []) (rest := []) ⟨hx, hb, hml, hown, ht0⟩ (kX5_takeLetters l D cy _ aR qR aH vR_j11 (upd (upd vR 8 y1_29) 9 y1_29) vR_tape vR_j11_70 vR_70 hc70 _ rfl) (cwV 0 ht0 (gV wd282 wd283 wd284 wd276 wd285) rfl rfl rfl (by decide +kernel) ⟨Nat.le_of_ble_eq_true rfl, Nat.le_of_ble_eq_true rfl⟩) hK hN hP hD [0, 1] rfl (by decide) 0 4 rfl rfl rfl hl.1 rfl (Nat.le_of_ble_eq_true rfl) dX5_step_70 ⟨Nat.zero_le _, Nat.zero_le _⟩) hP hD hS hA [0, 1] [] rfl rfl (by decide) (by decide) [0, 1] (by decide) rfl rfl (fun H locs hP hD hS => ?_)
          refine lv_goto (tgt := 117) hx hb dX5_step_73 (by decide) ?_
          exact J117 vR_j11_70 vR_70 H locs ls hP hD hS (lv_sub hl [] rfl) hok
    · have hok := k_neg c46 hok
      refine lv_aload_n hx hb dX5_step_49 rfl (lv_at hl 1 rfl) ?_
      refine lv_iconst (v := 0) hx hb dX5_step_50 (by decide) ?_
      refine va_put (D := D) (ci := 4) (v := .int 0) (ty := .int) (C := RX5) (T := TX5) (N := 13) hx hb ht0 niX5 tyX5 tyX5_ok nmX5 hown hK hP hD hS 0 rfl rfl 7 (by decide) (ht0 _ wd269) (fun _ h9 => h9) rfl (by decide +kernel) rfl rfl (Nat.le_of_ble_eq_true rfl) dX5_step_51 (fun H locs hP hD hS => ?_)
      have hP : va_P D vwCl (wX5_step cy aR qR aH vR_j11 (upd (upd (upd vR 7 (0 : Int32)) 8 y1_29) 9 y1_29) vR_tape) H := hP
      have hD : va_D A (wX5_step cy aR qR aH vR_j11 (upd (upd (upd vR 7 (0 : Int32)) 8 y1_29) 9 y1_29) vR_tape) := hD
      refine lv_goto (tgt := 117) hx hb dX5_step_54 (by decide) ?_
      exact J117 vR_j11 (upd (upd (upd vR 7 (0 : Int32)) 8 y1_29) 9 y1_29) H locs ls hP hD hS (lv_sub hl [] rfl) hok
  have L5 : ∀ (fuel : Nat) (y1_5 : Int32), ∀ (H : Heap) (locs : List Loc) (ls : Array Slot), va_P D vwCl (wX5_step cy aR qR aH vR_j11 vR vR_tape) H → va_D A (wX5_step cy aR qR aH vR_j11 vR vR_tape) → va_S A s.heap H locs → lv_has ls 3 [(0, .ref aR), (1, .int y1_5)] → lp (fX5_step_B5 vR_j11 vR vR_tape) fuel y1_5 = some (z_vR_j11, z_vR) → W p l e ({ frames := 1, cells := 0, slots := 0, locals := 21 } : Room) s m ([.ref aR] : List Value).toArray below meth c H locs 0 0 Q (F0 m 5 ls []) := by
    intro fuel
    induction fuel with
    | zero => intro y1_5 H locs ls hP hD hS hl hok; exact (lp_0 hok).elim
    | succ fuel ih5 =>
      intro y1_5 H locs ls hP hD hS hl hok
      obtain ⟨y5, hok, hL5, hR5⟩ := lp_step hok
      unfold fX5_step_B5 at hok
      refine lv_iload_n hx hb dX5_step_5 rfl (lv_at hl 1 rfl) ?_
      refine lv_aload_n hx hb dX5_step_6 rfl (lv_at hl 0 rfl) ?_
      refine va_get (D := D) (ci := 4) (v := .int (vR 6)) (C := RX5) (T := TX5) (N := 13) hx hb ht0 niX5 hown hK hP 0 rfl rfl 6 (by decide) (ht0 _ wd267) (fun _ h9 => h9) rfl dX5_step_7 ?_
      refine lv_icmp_ge (tgt := 29) hx hb dX5_step_10 (by decide) (fun c10 => ?_) (fun c10 => ?_)
      · have hok := k_pos c10 hok
        obtain ⟨e5, hok, he5⟩ := ex_some hok
        have hok := hok.trans (congrArg some (hL5 _ he5))
        exact J29 y1_5 H locs ls hP hD hS (lv_sub hl [0, 1] rfl) hok
      · have hok := k_neg c10 hok
        refine lv_aload_n hx hb dX5_step_13 rfl (lv_at hl 0 rfl) ?_
        refine lv_iload_n hx hb dX5_step_14 rfl (lv_at hl 1 rfl) ?_
        obtain ⟨r15, hc15, hok⟩ := k_bind hok
        refine kCi (wc := (wX5_byteAt cy aR qR aH vR_j11 vR vR_tape)) (wc2 := (wX5_byteAt cy aR qR aH vR_j11 vR vR_tape)) (wr := []) (ws2 := (wX5_step cy aR qR aH vR_j11 vR vR_tape)) (kRunV (As := [.int y1_5]) (rest := []) ⟨hx, hb, hml, hown, ht0⟩ (kX5_byteAt l D cy _ aR qR aH vR_j11 vR vR_tape y1_5 r15 hc15 _ rfl) (cwV 1 ht0 (gV wd278 wd279 wd280 wd276 wd281) rfl rfl rfl (by decide +kernel) ⟨Nat.le_of_ble_eq_true rfl, Nat.le_of_ble_eq_true rfl⟩) hK hN hP hD [0, 1] rfl (by decide) 0 4 rfl rfl rfl hl.1 rfl (Nat.le_of_ble_eq_true rfl) dX5_step_15 ⟨Nat.zero_le _, Nat.zero_le _⟩) hP hD hS hA [0, 1] [] rfl rfl (by decide) (by decide) [0, 1] (by decide) rfl rfl (fun H locs hP hD hS => ?_)
        refine lv_bipush (v := 32) hx hb dX5_step_18 (by decide) ?_
        refine lv_icmp_ne (tgt := 29) hx hb dX5_step_20 (by decide) (fun c20 => ?_) (fun c20 => ?_)
        · have hok := k_neg c20 hok
          obtain ⟨e5, hok, he5⟩ := ex_some hok
          have hok := hok.trans (congrArg some (hL5 _ he5))
          exact J29 y1_5 H locs ls hP hD hS (lv_sub hl [0, 1] rfl) hok
        · have hok := k_pos c20 hok
          refine lv_iinc (v := (y1_5 + 1)) (lv' := [(1, .int (y1_5 + 1)), (0, .ref aR)]) hx hb dX5_step_23 hl (k := 1) rfl (by first | rfl | decide) (by decide) rfl (fun ls hl => ?_)
          refine lv_goto (tgt := 5) hx hb dX5_step_26 (by decide) ?_
          exact ih5 (y1_5 + 1) H locs ls hP hD hS (lv_sub hl [1, 0] rfl) (hR5 _ (Option.some.inj hok).symm)
  unfold fX5_step at hok
  obtain ⟨H, hH⟩ : ∃ H, H = s.heap := ⟨_, rfl⟩
  obtain ⟨locs, hlc⟩ : ∃ x : List Loc, x = [] := ⟨_, rfl⟩
  have hP : va_P D vwCl (wX5_step cy aR qR aH vR_j11 vR vR_tape) H := by rw [hH]; exact hP
  have hS : va_S A s.heap H locs := by rw [hH, hlc]; exact hS
  rw [show W p l e _ s m _ below meth c s.heap [] = W p l e _ s m _ below meth c H locs from by rw [hH, hlc]]
  refine lv_aload_n hx hb dX5_step_0 rfl (lv_at hl 0 rfl) ?_
  refine va_get (D := D) (ci := 4) (v := .int (vR 9)) (C := RX5) (T := TX5) (N := 13) hx hb ht0 niX5 hown hK hP 0 rfl rfl 9 (by decide) (ht0 _ wd270) (fun _ h9 => h9) rfl dX5_step_1 ?_
  refine lv_istore_n (lv' := [(1, .int (vR 9)), (0, .ref aR)]) hx hb dX5_step_4 rfl hl (by decide) rfl (fun ls hl => ?_)
  exact L5 5000 (vR 9) H locs ls hP hD hS (lv_sub hl [1, 0] rfl) hok
def wsJ0_coder_7d493 : List Cond := .code yJ0_coder_7d493 cJ0_coder_7d493 1 (some .byte) :: W0
abbrev wJ0_coder_7d493 (cy : Nat → ClassId)  : va_W := []
set_option maxHeartbeats 4000000 in
set_option maxRecDepth 100000 in
theorem kJ0_coder_7d493 (l : Launch) (D : va_G) (cy : Nat → ClassId) (ad : (Nat → Nat) × (Nat → Nat)) (sz : Nat) (x0 : Nat) (zr : Int32) (hok : fJ0_coder_7d493 x0 = some zr) (A : Nat → Prop) (hAe : va_A (wJ0_coder_7d493 cy ) sz = A) : Met l yJ0_coder_7d493 wsJ0_coder_7d493 ({ frames := 0, cells := 0, slots := 0, locals := 0 } : Room) (kPreS D cy ad [.ref (ad.1 x0)] (wJ0_coder_7d493 cy ) sz A) (kQi D cy zr A (wJ0_coder_7d493 cy )) 0 0 A := by
  refine Met.ofW (cc := cJ0_coder_7d493) (maxL := 1) (ret := (some .byte)) (by decide) rfl ?_
  intro p e s m args below meth c s₁ B hml hv
  obtain ⟨rfl, ⟨hsz, hP, hK, hD0, hN⟩, hSt⟩ := hv
  have hx := B.exec
  have hb := B.bytes
  have hr := B.returns
  have ht0 : ∀ w ∈ W0, w.before _ s = true := fun w h => atoms_spec (ws := wsJ0_coder_7d493) B.pre w (List.mem_cons_of_mem _ h)
  have hown : s.vm.findClass RJ0 = some m.cls := findClass_of_methodNamed B.named
  have hlocks := B.notSynchronized
  subst hsz
  have hD : va_D A (wJ0_coder_7d493 cy ) := by rw [← hAe]; exact hD0.self
  have hA : ∀ q : Nat, s.heap.size ≤ q → A q := fun q h => by rw [← hAe]; exact Or.inr h
  have hS : va_S A s.heap s.heap [] := va_S.rf
  have hl := lv_entry ([.ref (ad.1 x0)]) (n := 1) (Nat.le_of_ble_eq_true rfl)
  rw [lg_entry_eq]
  generalize (lg_sl ([.ref (ad.1 x0)]) ++ List.replicate (1 - (lg_sl ([.ref (ad.1 x0)])).length) Slot.unset).toArray = ls at hl ⊢
  have hl : lv_has ls 1 [(0, .ref (ad.1 x0))] := hl
  generalize hQe : MQ below (kQi D cy zr A (wJ0_coder_7d493 cy )) ([.ref (ad.1 x0)] : List Value).toArray s 0 0 A = Q
  have J14 : ∀ (t0_14 : Int32), ∀ (H : Heap) (locs : List Loc) (ls : Array Slot), va_P D vwCl (wJ0_coder_7d493 cy ) H → va_D A (wJ0_coder_7d493 cy ) → va_S A s.heap H locs → lv_has ls 1 [] → fJ0_coder_7d493_J14 t0_14 = some zr → W p l e ({ frames := 0, cells := 0, slots := 0, locals := 0 } : Room) s m ([.ref (ad.1 x0)] : List Value).toArray below meth c H locs 0 0 Q (F0 m 14 ls [.int t0_14]) := by
    intro t0_14 H locs ls hP hD hS hl hok
    unfold fJ0_coder_7d493_J14 at hok
    obtain ⟨g14, hok⟩ := gd_some hok
    cases hok
    subst hQe; exact W.zret hx hb hr (isBy_nar g14) (fun t ht hW => ⟨⟨_, (), rfl, rfl, by rw [ht]; exact hP, va_K.moved hW.alike hK, hD⟩, hS.F ht⟩) hS.2.2 dJ0_coder_7d493_14
  unfold fJ0_coder_7d493 at hok
  obtain ⟨H, hH⟩ : ∃ H, H = s.heap := ⟨_, rfl⟩
  obtain ⟨locs, hlc⟩ : ∃ x : List Loc, x = [] := ⟨_, rfl⟩
  have hP : va_P D vwCl (wJ0_coder_7d493 cy ) H := by rw [hH]; exact hP
  have hS : va_S A s.heap H locs := by rw [hH, hlc]; exact hS
  rw [show W p l e _ s m _ below meth c s.heap [] = W p l e _ s m _ below meth c H locs from by rw [hH, hlc]]
  refine va_gets (v := .int 1) hx hb hSt.2.2.1 hS hown (ht0 _ wd286) (fun _ h9 => h9) dJ0_coder_7d493_0 ?_
  refine lv_if_eq (tgt := 13) hx hb dJ0_coder_7d493_3 (by decide) (fun c3 => ?_) (fun c3 => ?_)
  · have hok := k_pos c3 hok
    refine lv_iconst (v := 1) hx hb dJ0_coder_7d493_13 (by decide) ?_
    exact J14 (1 : Int32) H locs ls hP hD hS (lv_sub hl [] rfl) hok
  · have hok := k_neg c3 hok
    refine lv_aload_n hx hb dJ0_coder_7d493_6 rfl (lv_at hl 0 rfl) ?_
    obtain ⟨g7, hok⟩ := gd_some hok
    refine vk_getf hx hb (hSt.1.1 x0 (okS_lt g7)).2.1 hS hown (ht0 _ wd287) (fun _ h9 => h9) dJ0_coder_7d493_7 ?_
    refine lv_goto (tgt := 14) hx hb dJ0_coder_7d493_10 (by decide) ?_
    exact J14 (0 : Int32) H locs ls hP hD hS (lv_sub hl [] rfl) hok
def wsJ0_length_8abf5 : List Cond := .code yJ0_length_8abf5 cJ0_length_8abf5 1 (some .int) :: W0
abbrev wJ0_length_8abf5 (cy : Nat → ClassId)  : va_W := []
set_option maxHeartbeats 4000000 in
set_option maxRecDepth 100000 in
theorem kJ0_length_8abf5 (l : Launch) (D : va_G) (cy : Nat → ClassId) (ad : (Nat → Nat) × (Nat → Nat)) (sz : Nat) (x0 : Nat) (zr : Int32) (hok : fJ0_length_8abf5 x0 = some zr) (A : Nat → Prop) (hAe : va_A (wJ0_length_8abf5 cy ) sz = A) : Met l yJ0_length_8abf5 wsJ0_length_8abf5 ({ frames := 1, cells := 0, slots := 0, locals := 20 } : Room) (kPreS D cy ad [.ref (ad.1 x0)] (wJ0_length_8abf5 cy ) sz A) (kQi D cy zr A (wJ0_length_8abf5 cy )) 0 0 A := by
  refine Met.ofW (cc := cJ0_length_8abf5) (maxL := 1) (ret := (some .int)) (by decide) rfl ?_
  intro p e s m args below meth c s₁ B hml hv
  obtain ⟨rfl, ⟨hsz, hP, hK, hD0, hN⟩, hSt⟩ := hv
  have hx := B.exec
  have hb := B.bytes
  have hr := B.returns
  have ht0 : ∀ w ∈ W0, w.before _ s = true := fun w h => atoms_spec (ws := wsJ0_length_8abf5) B.pre w (List.mem_cons_of_mem _ h)
  have hown : s.vm.findClass RJ0 = some m.cls := findClass_of_methodNamed B.named
  have hlocks := B.notSynchronized
  subst hsz
  have hD : va_D A (wJ0_length_8abf5 cy ) := by rw [← hAe]; exact hD0.self
  have hA : ∀ q : Nat, s.heap.size ≤ q → A q := fun q h => by rw [← hAe]; exact Or.inr h
  have hS : va_S A s.heap s.heap [] := va_S.rf
  have hl := lv_entry ([.ref (ad.1 x0)]) (n := 1) (Nat.le_of_ble_eq_true rfl)
  rw [lg_entry_eq]
  generalize (lg_sl ([.ref (ad.1 x0)]) ++ List.replicate (1 - (lg_sl ([.ref (ad.1 x0)])).length) Slot.unset).toArray = ls at hl ⊢
  have hl : lv_has ls 1 [(0, .ref (ad.1 x0))] := hl
  unfold fJ0_length_8abf5 at hok
  obtain ⟨H, hH⟩ : ∃ H, H = s.heap := ⟨_, rfl⟩
  obtain ⟨locs, hlc⟩ : ∃ x : List Loc, x = [] := ⟨_, rfl⟩
  have hP : va_P D vwCl (wJ0_length_8abf5 cy ) H := by rw [hH]; exact hP
  have hS : va_S A s.heap H locs := by rw [hH, hlc]; exact hS
  rw [show W p l e _ s m _ below meth c s.heap [] = W p l e _ s m _ below meth c H locs from by rw [hH, hlc]]
  refine lv_aload_n hx hb dJ0_length_8abf5_0 rfl (lv_at hl 0 rfl) ?_
  obtain ⟨g1, hok⟩ := gd_some hok
  refine vk_getf hx hb (hSt.1.1 x0 (okS_lt g1)).2.2.1 hS hown (ht0 _ wd288) (fun _ h9 => h9) dJ0_length_8abf5_1 ?_
  obtain ⟨g4, hok⟩ := gd_some hok
  refine va_tlen hx hb (hSt.1.1 x0 (okS_lt g4)).2.2.2 hS (v := nI (sLen x0)) rfl dJ0_length_8abf5_4 ?_
  refine lv_aload_n hx hb dJ0_length_8abf5_5 rfl (lv_at hl 0 rfl) ?_
  obtain ⟨gs6, hok⟩ := gd_some hok
  obtain ⟨r6, hc6, hok⟩ := k_bind hok
  refine kCi (wc := (wJ0_coder_7d493 cy )) (wc2 := (wJ0_coder_7d493 cy )) (wr := []) (ws2 := (wJ0_length_8abf5 cy )) (kRunVT (As := []) (rest := [.int (nI (sLen x0))]) ⟨hx, hb, hml, hown, ht0⟩ (kJ0_coder_7d493 l D cy ad _ x0 r6 hc6 _ rfl) (cwV 0 ht0 (gV wd289 wd290 wd291 wd292 wd293) rfl rfl rfl (by decide +kernel) ⟨Nat.le_of_ble_eq_true rfl, Nat.le_of_ble_eq_true rfl⟩) hK hN hP hD hSt hS hA [] rfl (by decide) (okS_lt gs6) rfl hl.1 rfl (Nat.le_of_ble_eq_true rfl) dJ0_length_8abf5_6 ⟨Nat.zero_le _, Nat.zero_le _⟩) hP hD hS hA [] [] rfl rfl (by decide) (by decide) [] (by decide) rfl rfl (fun H locs hP hD hS => ?_)
  refine lv_ishr hx hb dJ0_length_8abf5_9 ?_
  cases hok
  exact W.iret hx hb hr (fun t ht hW => ⟨⟨_, (), rfl, rfl, by rw [ht]; exact hP, va_K.moved hW.alike hK, hD⟩, hS.F ht⟩) hS.2.2 dJ0_length_8abf5_10
def wsJ0_isLatin1_aae02 : List Cond := .code yJ0_isLatin1_aae02 cJ0_isLatin1_aae02 1 (some .boolean) :: W0
abbrev wJ0_isLatin1_aae02 (cy : Nat → ClassId)  : va_W := []
set_option maxHeartbeats 4000000 in
set_option maxRecDepth 100000 in
theorem kJ0_isLatin1_aae02 (l : Launch) (D : va_G) (cy : Nat → ClassId) (ad : (Nat → Nat) × (Nat → Nat)) (sz : Nat) (x0 : Nat) (zr : Int32) (hok : fJ0_isLatin1_aae02 x0 = some zr) (A : Nat → Prop) (hAe : va_A (wJ0_isLatin1_aae02 cy ) sz = A) : Met l yJ0_isLatin1_aae02 wsJ0_isLatin1_aae02 ({ frames := 0, cells := 0, slots := 0, locals := 0 } : Room) (kPreS D cy ad [.ref (ad.1 x0)] (wJ0_isLatin1_aae02 cy ) sz A) (kQi D cy zr A (wJ0_isLatin1_aae02 cy )) 0 0 A := by
  refine Met.ofW (cc := cJ0_isLatin1_aae02) (maxL := 1) (ret := (some .boolean)) (by decide) rfl ?_
  intro p e s m args below meth c s₁ B hml hv
  obtain ⟨rfl, ⟨hsz, hP, hK, hD0, hN⟩, hSt⟩ := hv
  have hx := B.exec
  have hb := B.bytes
  have hr := B.returns
  have ht0 : ∀ w ∈ W0, w.before _ s = true := fun w h => atoms_spec (ws := wsJ0_isLatin1_aae02) B.pre w (List.mem_cons_of_mem _ h)
  have hown : s.vm.findClass RJ0 = some m.cls := findClass_of_methodNamed B.named
  have hlocks := B.notSynchronized
  subst hsz
  have hD : va_D A (wJ0_isLatin1_aae02 cy ) := by rw [← hAe]; exact hD0.self
  have hA : ∀ q : Nat, s.heap.size ≤ q → A q := fun q h => by rw [← hAe]; exact Or.inr h
  have hS : va_S A s.heap s.heap [] := va_S.rf
  have hl := lv_entry ([.ref (ad.1 x0)]) (n := 1) (Nat.le_of_ble_eq_true rfl)
  rw [lg_entry_eq]
  generalize (lg_sl ([.ref (ad.1 x0)]) ++ List.replicate (1 - (lg_sl ([.ref (ad.1 x0)])).length) Slot.unset).toArray = ls at hl ⊢
  have hl : lv_has ls 1 [(0, .ref (ad.1 x0))] := hl
  generalize hQe : MQ below (kQi D cy zr A (wJ0_isLatin1_aae02 cy )) ([.ref (ad.1 x0)] : List Value).toArray s 0 0 A = Q
  have J18 : ∀ (t0_18 : Int32), ∀ (H : Heap) (locs : List Loc) (ls : Array Slot), va_P D vwCl (wJ0_isLatin1_aae02 cy ) H → va_D A (wJ0_isLatin1_aae02 cy ) → va_S A s.heap H locs → lv_has ls 1 [] → fJ0_isLatin1_aae02_J18 t0_18 = some zr → W p l e ({ frames := 0, cells := 0, slots := 0, locals := 0 } : Room) s m ([.ref (ad.1 x0)] : List Value).toArray below meth c H locs 0 0 Q (F0 m 18 ls [.int t0_18]) := by
    intro t0_18 H locs ls hP hD hS hl hok
    unfold fJ0_isLatin1_aae02_J18 at hok
    obtain ⟨g18, hok⟩ := gd_some hok
    cases hok
    subst hQe; exact W.zret hx hb hr (isB_nar g18) (fun t ht hW => ⟨⟨_, (), rfl, rfl, by rw [ht]; exact hP, va_K.moved hW.alike hK, hD⟩, hS.F ht⟩) hS.2.2 dJ0_isLatin1_aae02_18
  have J17 : ∀ (H : Heap) (locs : List Loc) (ls : Array Slot), va_P D vwCl (wJ0_isLatin1_aae02 cy ) H → va_D A (wJ0_isLatin1_aae02 cy ) → va_S A s.heap H locs → lv_has ls 1 [] → fJ0_isLatin1_aae02_J17 = some zr → W p l e ({ frames := 0, cells := 0, slots := 0, locals := 0 } : Room) s m ([.ref (ad.1 x0)] : List Value).toArray below meth c H locs 0 0 Q (F0 m 17 ls []) := by
    intro  H locs ls hP hD hS hl hok
    unfold fJ0_isLatin1_aae02_J17 at hok
    refine lv_iconst (v := 0) hx hb dJ0_isLatin1_aae02_17 (by decide) ?_
    exact J18 (0 : Int32) H locs ls hP hD hS (lv_sub hl [] rfl) hok
  unfold fJ0_isLatin1_aae02 at hok
  obtain ⟨H, hH⟩ : ∃ H, H = s.heap := ⟨_, rfl⟩
  obtain ⟨locs, hlc⟩ : ∃ x : List Loc, x = [] := ⟨_, rfl⟩
  have hP : va_P D vwCl (wJ0_isLatin1_aae02 cy ) H := by rw [hH]; exact hP
  have hS : va_S A s.heap H locs := by rw [hH, hlc]; exact hS
  rw [show W p l e _ s m _ below meth c s.heap [] = W p l e _ s m _ below meth c H locs from by rw [hH, hlc]]
  refine va_gets (v := .int 1) hx hb hSt.2.2.1 hS hown (ht0 _ wd286) (fun _ h9 => h9) dJ0_isLatin1_aae02_0 ?_
  refine lv_if_eq (tgt := 17) hx hb dJ0_isLatin1_aae02_3 (by decide) (fun c3 => ?_) (fun c3 => ?_)
  · have hok := k_pos c3 hok
    exact J17  H locs ls hP hD hS (lv_sub hl [] rfl) hok
  · have hok := k_neg c3 hok
    refine lv_aload_n hx hb dJ0_isLatin1_aae02_6 rfl (lv_at hl 0 rfl) ?_
    obtain ⟨g7, hok⟩ := gd_some hok
    refine vk_getf hx hb (hSt.1.1 x0 (okS_lt g7)).2.1 hS hown (ht0 _ wd287) (fun _ h9 => h9) dJ0_isLatin1_aae02_7 ?_
    refine lv_if_ne (tgt := 17) hx hb dJ0_isLatin1_aae02_10 (by decide) (fun c10 => ?_) (fun c10 => ?_)
    · have hok := k_neg c10 hok
      exact J17  H locs ls hP hD hS (lv_sub hl [] rfl) hok
    · have hok := k_pos c10 hok
      refine lv_iconst (v := 1) hx hb dJ0_isLatin1_aae02_13 (by decide) ?_
      refine lv_goto (tgt := 18) hx hb dJ0_isLatin1_aae02_14 (by decide) ?_
      exact J18 (1 : Int32) H locs ls hP hD hS (lv_sub hl [] rfl) hok
def wsJ3_checkIndex_8e157 : List Cond := .code yJ3_checkIndex_8e157 cJ3_checkIndex_8e157 3 (some .int) :: W0
abbrev wJ3_checkIndex_8e157 (cy : Nat → ClassId)  : va_W := []
set_option maxHeartbeats 4000000 in
set_option maxRecDepth 100000 in
theorem kJ3_checkIndex_8e157_N (l : Launch) (D : va_G) (cy : Nat → ClassId) (sz : Nat) (x0 : Int32) (x1 : Int32) (zr : Int32) (hok : fJ3_checkIndex_8e157 x0 x1 = some zr) (A : Nat → Prop) (hAe : va_A (wJ3_checkIndex_8e157 cy ) sz = A) : Met l yJ3_checkIndex_8e157 wsJ3_checkIndex_8e157 ({ frames := 0, cells := 0, slots := 0, locals := 0 } : Room) (kPre D cy [.int x0, .int x1, .null] (wJ3_checkIndex_8e157 cy ) sz) (kQi D cy zr A (wJ3_checkIndex_8e157 cy )) 0 0 A := by
  refine Met.ofW (cc := cJ3_checkIndex_8e157) (maxL := 3) (ret := (some .int)) (by decide) rfl ?_
  intro p e s m args below meth c s₁ B hml hv
  obtain ⟨rfl, hsz, hP, hK, hD0, hN⟩ := hv
  have hx := B.exec
  have hb := B.bytes
  have hr := B.returns
  have ht0 : ∀ w ∈ W0, w.before _ s = true := fun w h => atoms_spec (ws := wsJ3_checkIndex_8e157) B.pre w (List.mem_cons_of_mem _ h)
  have hown : s.vm.findClass RJ3 = some m.cls := findClass_of_methodNamed B.named
  have hlocks := B.notSynchronized
  subst hsz
  have hD : va_D A (wJ3_checkIndex_8e157 cy ) := by rw [← hAe]; exact hD0.self
  have hA : ∀ q : Nat, s.heap.size ≤ q → A q := fun q h => by rw [← hAe]; exact Or.inr h
  have hS : va_S A s.heap s.heap [] := va_S.rf
  have hl := lv_entry ([.int x0, .int x1, .null]) (n := 3) (Nat.le_of_ble_eq_true rfl)
  rw [lg_entry_eq]
  generalize (lg_sl ([.int x0, .int x1, .null]) ++ List.replicate (3 - (lg_sl ([.int x0, .int x1, .null])).length) Slot.unset).toArray = ls at hl ⊢
  have hl : lv_has ls 3 [(0, .int x0), (1, .int x1), (2, .null)] := hl
  unfold fJ3_checkIndex_8e157 at hok
  obtain ⟨H, hH⟩ : ∃ H, H = s.heap := ⟨_, rfl⟩
  obtain ⟨locs, hlc⟩ : ∃ x : List Loc, x = [] := ⟨_, rfl⟩
  have hP : va_P D vwCl (wJ3_checkIndex_8e157 cy ) H := by rw [hH]; exact hP
  have hS : va_S A s.heap H locs := by rw [hH, hlc]; exact hS
  rw [show W p l e _ s m _ below meth c s.heap [] = W p l e _ s m _ below meth c H locs from by rw [hH, hlc]]
  refine lv_iload_n hx hb dJ3_checkIndex_8e157_0 rfl (lv_at hl 0 rfl) ?_
  refine lv_if_lt (tgt := 9) hx hb dJ3_checkIndex_8e157_1 (by decide) (fun c1 => ?_) (fun c1 => ?_)
  · have hok := k_pos c1 hok
    cases hok
  · have hok := k_neg c1 hok
    refine lv_iload_n hx hb dJ3_checkIndex_8e157_4 rfl (lv_at hl 0 rfl) ?_
    refine lv_iload_n hx hb dJ3_checkIndex_8e157_5 rfl (lv_at hl 1 rfl) ?_
    refine lv_icmp_lt (tgt := 16) hx hb dJ3_checkIndex_8e157_6 (by decide) (fun c6 => ?_) (fun c6 => ?_)
    · have hok := k_pos c6 hok
      refine lv_iload_n hx hb dJ3_checkIndex_8e157_16 rfl (lv_at hl 0 rfl) ?_
      cases hok
      exact W.iret hx hb hr (fun t ht hW => ⟨⟨_, (), rfl, rfl, by rw [ht]; exact hP, va_K.moved hW.alike hK, hD⟩, hS.F ht⟩) hS.2.2 dJ3_checkIndex_8e157_17
    · have hok := k_neg c6 hok
      cases hok
set_option maxHeartbeats 4000000 in
set_option maxRecDepth 100000 in
theorem kJ3_checkIndex_8e157_R (a2 : Nat) (l : Launch) (D : va_G) (cy : Nat → ClassId) (sz : Nat) (x0 : Int32) (x1 : Int32) (zr : Int32) (hok : fJ3_checkIndex_8e157 x0 x1 = some zr) (A : Nat → Prop) (hAe : va_A (wJ3_checkIndex_8e157 cy ) sz = A) : Met l yJ3_checkIndex_8e157 wsJ3_checkIndex_8e157 ({ frames := 0, cells := 0, slots := 0, locals := 0 } : Room) (kPre D cy [.int x0, .int x1, .ref a2] (wJ3_checkIndex_8e157 cy ) sz) (kQi D cy zr A (wJ3_checkIndex_8e157 cy )) 0 0 A := by
  refine Met.ofW (cc := cJ3_checkIndex_8e157) (maxL := 3) (ret := (some .int)) (by decide) rfl ?_
  intro p e s m args below meth c s₁ B hml hv
  obtain ⟨rfl, hsz, hP, hK, hD0, hN⟩ := hv
  have hx := B.exec
  have hb := B.bytes
  have hr := B.returns
  have ht0 : ∀ w ∈ W0, w.before _ s = true := fun w h => atoms_spec (ws := wsJ3_checkIndex_8e157) B.pre w (List.mem_cons_of_mem _ h)
  have hown : s.vm.findClass RJ3 = some m.cls := findClass_of_methodNamed B.named
  have hlocks := B.notSynchronized
  subst hsz
  have hD : va_D A (wJ3_checkIndex_8e157 cy ) := by rw [← hAe]; exact hD0.self
  have hA : ∀ q : Nat, s.heap.size ≤ q → A q := fun q h => by rw [← hAe]; exact Or.inr h
  have hS : va_S A s.heap s.heap [] := va_S.rf
  have hl := lv_entry ([.int x0, .int x1, .ref a2]) (n := 3) (Nat.le_of_ble_eq_true rfl)
  rw [lg_entry_eq]
  generalize (lg_sl ([.int x0, .int x1, .ref a2]) ++ List.replicate (3 - (lg_sl ([.int x0, .int x1, .ref a2])).length) Slot.unset).toArray = ls at hl ⊢
  have hl : lv_has ls 3 [(0, .int x0), (1, .int x1), (2, .ref a2)] := hl
  unfold fJ3_checkIndex_8e157 at hok
  obtain ⟨H, hH⟩ : ∃ H, H = s.heap := ⟨_, rfl⟩
  obtain ⟨locs, hlc⟩ : ∃ x : List Loc, x = [] := ⟨_, rfl⟩
  have hP : va_P D vwCl (wJ3_checkIndex_8e157 cy ) H := by rw [hH]; exact hP
  have hS : va_S A s.heap H locs := by rw [hH, hlc]; exact hS
  rw [show W p l e _ s m _ below meth c s.heap [] = W p l e _ s m _ below meth c H locs from by rw [hH, hlc]]
  refine lv_iload_n hx hb dJ3_checkIndex_8e157_0 rfl (lv_at hl 0 rfl) ?_
  refine lv_if_lt (tgt := 9) hx hb dJ3_checkIndex_8e157_1 (by decide) (fun c1 => ?_) (fun c1 => ?_)
  · have hok := k_pos c1 hok
    cases hok
  · have hok := k_neg c1 hok
    refine lv_iload_n hx hb dJ3_checkIndex_8e157_4 rfl (lv_at hl 0 rfl) ?_
    refine lv_iload_n hx hb dJ3_checkIndex_8e157_5 rfl (lv_at hl 1 rfl) ?_
    refine lv_icmp_lt (tgt := 16) hx hb dJ3_checkIndex_8e157_6 (by decide) (fun c6 => ?_) (fun c6 => ?_)
    · have hok := k_pos c6 hok
      refine lv_iload_n hx hb dJ3_checkIndex_8e157_16 rfl (lv_at hl 0 rfl) ?_
      cases hok
      exact W.iret hx hb hr (fun t ht hW => ⟨⟨_, (), rfl, rfl, by rw [ht]; exact hP, va_K.moved hW.alike hK, hD⟩, hS.F ht⟩) hS.2.2 dJ3_checkIndex_8e157_17
    · have hok := k_neg c6 hok
      cases hok
theorem kJ3_checkIndex_8e157 (l : Launch) (D : va_G) (cy : Nat → ClassId) (sz : Nat) (v2 : Value) (hv2 : v2 = .null ∨ ∃ q, v2 = .ref q) (x0 : Int32) (x1 : Int32) (zr : Int32) (hok : fJ3_checkIndex_8e157 x0 x1 = some zr) (A : Nat → Prop) (hAe : va_A (wJ3_checkIndex_8e157 cy ) sz = A) : Met l yJ3_checkIndex_8e157 wsJ3_checkIndex_8e157 ({ frames := 0, cells := 0, slots := 0, locals := 0 } : Room) (kPre D cy [.int x0, .int x1, v2] (wJ3_checkIndex_8e157 cy ) sz) (kQi D cy zr A (wJ3_checkIndex_8e157 cy )) 0 0 A := by
  rcases hv2 with rfl | ⟨q, rfl⟩
  · exact kJ3_checkIndex_8e157_N l D cy sz x0 x1 zr hok A hAe
  · exact kJ3_checkIndex_8e157_R q l D cy sz x0 x1 zr hok A hAe
def wsJ0_checkIndex_df160 : List Cond := .code yJ0_checkIndex_df160 cJ0_checkIndex_df160 2 none :: W0
abbrev wJ0_checkIndex_df160 (cy : Nat → ClassId)  : va_W := []
set_option maxHeartbeats 4000000 in
set_option maxRecDepth 100000 in
theorem kJ0_checkIndex_df160 (l : Launch) (D : va_G) (cy : Nat → ClassId) (ad : (Nat → Nat) × (Nat → Nat)) (sz : Nat) (x0 : Int32) (x1 : Int32) (hok : fJ0_checkIndex_df160 x0 x1 = some ()) (A : Nat → Prop) (hAe : va_A (wJ0_checkIndex_df160 cy ) sz = A) : Met l yJ0_checkIndex_df160 wsJ0_checkIndex_df160 ({ frames := 1, cells := 0, slots := 0, locals := 22 } : Room) (kPreS D cy ad [.int x0, .int x1] (wJ0_checkIndex_df160 cy ) sz A) (kQv D cy A (wJ0_checkIndex_df160 cy )) 0 0 A := by
  refine Met.ofW (cc := cJ0_checkIndex_df160) (maxL := 2) (ret := none) (by decide) rfl ?_
  intro p e s m args below meth c s₁ B hml hv
  obtain ⟨rfl, ⟨hsz, hP, hK, hD0, hN⟩, hSt⟩ := hv
  have hx := B.exec
  have hb := B.bytes
  have hr := B.returns
  have ht0 : ∀ w ∈ W0, w.before _ s = true := fun w h => atoms_spec (ws := wsJ0_checkIndex_df160) B.pre w (List.mem_cons_of_mem _ h)
  have hown : s.vm.findClass RJ0 = some m.cls := findClass_of_methodNamed B.named
  have hlocks := B.notSynchronized
  subst hsz
  have hD : va_D A (wJ0_checkIndex_df160 cy ) := by rw [← hAe]; exact hD0.self
  have hA : ∀ q : Nat, s.heap.size ≤ q → A q := fun q h => by rw [← hAe]; exact Or.inr h
  have hS : va_S A s.heap s.heap [] := va_S.rf
  have hl := lv_entry ([.int x0, .int x1]) (n := 2) (Nat.le_of_ble_eq_true rfl)
  rw [lg_entry_eq]
  generalize (lg_sl ([.int x0, .int x1]) ++ List.replicate (2 - (lg_sl ([.int x0, .int x1])).length) Slot.unset).toArray = ls at hl ⊢
  have hl : lv_has ls 2 [(0, .int x0), (1, .int x1)] := hl
  unfold fJ0_checkIndex_df160 at hok
  obtain ⟨H, hH⟩ : ∃ H, H = s.heap := ⟨_, rfl⟩
  obtain ⟨locs, hlc⟩ : ∃ x : List Loc, x = [] := ⟨_, rfl⟩
  have hP : va_P D vwCl (wJ0_checkIndex_df160 cy ) H := by rw [hH]; exact hP
  have hS : va_S A s.heap H locs := by rw [hH, hlc]; exact hS
  rw [show W p l e _ s m _ below meth c s.heap [] = W p l e _ s m _ below meth c H locs from by rw [hH, hlc]]
  refine lv_iload_n hx hb dJ0_checkIndex_df160_0 rfl (lv_at hl 0 rfl) ?_
  refine lv_iload_n hx hb dJ0_checkIndex_df160_1 rfl (lv_at hl 1 rfl) ?_
  obtain ⟨vz, hvz, hz⟩ := kZq hSt.2.2.2
  refine va_gets (v := vz) hx hb hz hS hown (ht0 _ wd294) (fun _ h9 => h9) dJ0_checkIndex_df160_2 ?_
  obtain ⟨r5, hc5, hok⟩ := k_bind hok
  refine kCi (wc := (wJ3_checkIndex_8e157 cy )) (wc2 := (wJ3_checkIndex_8e157 cy )) (wr := []) (ws2 := (wJ0_checkIndex_df160 cy )) (kRunS (As := [.int x0, .int x1, vz]) (rest := []) ⟨hx, hb, hml, hown, ht0⟩ (kJ3_checkIndex_8e157 l D cy _ vz hvz x0 x1 r5 hc5 _ rfl) (va_cwS 3 ht0 (gS wd295 wd296 wd297 wd298) rfl rfl rfl (by decide +kernel) ⟨Nat.le_of_ble_eq_true rfl, Nat.le_of_ble_eq_true rfl⟩) hK hN hP hD [] rfl (by decide) rfl hl.1 rfl (Nat.le_of_ble_eq_true rfl) dJ0_checkIndex_df160_5 ⟨Nat.zero_le _, Nat.zero_le _⟩) hP hD hS hA [] [] rfl rfl (by decide) (by decide) [] (by decide) rfl rfl (fun H locs hP hD hS => ?_)
  refine lv_pop hx hb dJ0_checkIndex_df160_8 rfl ?_
  exact W.vret hx hb hr (fun t ht hW => ⟨⟨(), rfl, trivial, by rw [ht]; exact hP, va_K.moved hW.alike hK, hD⟩, hS.F ht⟩) hS.2.2 dJ0_checkIndex_df160_9
def wsJ1_charAt_3b067 : List Cond := .code yJ1_charAt_3b067 cJ1_charAt_3b067 2 (some .char) :: W0
abbrev wJ1_charAt_3b067 (cy : Nat → ClassId)  : va_W := []
set_option maxHeartbeats 4000000 in
set_option maxRecDepth 100000 in
theorem kJ1_charAt_3b067 (l : Launch) (D : va_G) (cy : Nat → ClassId) (ad : (Nat → Nat) × (Nat → Nat)) (sz : Nat) (x0 : Nat) (x1 : Int32) (zr : Int32) (hok : fJ1_charAt_3b067 x0 x1 = some zr) (A : Nat → Prop) (hAe : va_A (wJ1_charAt_3b067 cy ) sz = A) : Met l yJ1_charAt_3b067 wsJ1_charAt_3b067 ({ frames := 2, cells := 0, slots := 0, locals := 43 } : Room) (kPreS D cy ad [.ref (ad.2 x0), .int x1] (wJ1_charAt_3b067 cy ) sz A) (kQi D cy zr A (wJ1_charAt_3b067 cy )) 0 0 A := by
  refine Met.ofW (cc := cJ1_charAt_3b067) (maxL := 2) (ret := (some .char)) (by decide) rfl ?_
  intro p e s m args below meth c s₁ B hml hv
  obtain ⟨rfl, ⟨hsz, hP, hK, hD0, hN⟩, hSt⟩ := hv
  have hx := B.exec
  have hb := B.bytes
  have hr := B.returns
  have ht0 : ∀ w ∈ W0, w.before _ s = true := fun w h => atoms_spec (ws := wsJ1_charAt_3b067) B.pre w (List.mem_cons_of_mem _ h)
  have hown : s.vm.findClass RJ1 = some m.cls := findClass_of_methodNamed B.named
  have hlocks := B.notSynchronized
  subst hsz
  have hD : va_D A (wJ1_charAt_3b067 cy ) := by rw [← hAe]; exact hD0.self
  have hA : ∀ q : Nat, s.heap.size ≤ q → A q := fun q h => by rw [← hAe]; exact Or.inr h
  have hS : va_S A s.heap s.heap [] := va_S.rf
  have hl := lv_entry ([.ref (ad.2 x0), .int x1]) (n := 2) (Nat.le_of_ble_eq_true rfl)
  rw [lg_entry_eq]
  generalize (lg_sl ([.ref (ad.2 x0), .int x1]) ++ List.replicate (2 - (lg_sl ([.ref (ad.2 x0), .int x1])).length) Slot.unset).toArray = ls at hl ⊢
  have hl : lv_has ls 2 [(0, .ref (ad.2 x0)), (1, .int x1)] := hl
  unfold fJ1_charAt_3b067 at hok
  obtain ⟨H, hH⟩ : ∃ H, H = s.heap := ⟨_, rfl⟩
  obtain ⟨locs, hlc⟩ : ∃ x : List Loc, x = [] := ⟨_, rfl⟩
  have hP : va_P D vwCl (wJ1_charAt_3b067 cy ) H := by rw [hH]; exact hP
  have hS : va_S A s.heap H locs := by rw [hH, hlc]; exact hS
  rw [show W p l e _ s m _ below meth c s.heap [] = W p l e _ s m _ below meth c H locs from by rw [hH, hlc]]
  refine lv_iload_n hx hb dJ1_charAt_3b067_0 rfl (lv_at hl 1 rfl) ?_
  refine lv_aload_n hx hb dJ1_charAt_3b067_1 rfl (lv_at hl 0 rfl) ?_
  obtain ⟨g2, hok⟩ := gd_some hok
  refine va_tlen hx hb (hSt.1.1 x0 (okS_lt g2)).2.2.2 hS (v := nI (sLen x0)) rfl dJ1_charAt_3b067_2 ?_
  obtain ⟨u3, hc3, hok⟩ := k_bind hok
  try dsimp only at hok
  refine kCv (wc := (wJ0_checkIndex_df160 cy )) (wc2 := (wJ0_checkIndex_df160 cy )) (wr := []) (ws2 := (wJ1_charAt_3b067 cy )) (kRunSS (As := [.int x1, .int (nI (sLen x0))]) (rest := []) ⟨hx, hb, hml, hown, ht0⟩ (kJ0_checkIndex_df160 l D cy ad _ x1 (nI (sLen x0)) hc3 _ rfl) (va_cwS 2 ht0 (gS wd299 wd300 wd292 wd301) rfl rfl rfl (by decide +kernel) ⟨Nat.le_of_ble_eq_true rfl, Nat.le_of_ble_eq_true rfl⟩) hK hN hP hD hSt hS hA [] rfl (by decide) rfl hl.1 rfl (Nat.le_of_ble_eq_true rfl) dJ1_charAt_3b067_3 ⟨Nat.zero_le _, Nat.zero_le _⟩) hP hD hS hA [] [] rfl rfl (by decide) (by decide) [] (by decide) rfl rfl (fun H locs hP hD hS => ?_)
  refine lv_aload_n hx hb dJ1_charAt_3b067_6 rfl (lv_at hl 0 rfl) ?_
  refine lv_iload_n hx hb dJ1_charAt_3b067_7 rfl (lv_at hl 1 rfl) ?_
  obtain ⟨g8, hok⟩ := gd_some hok
  obtain ⟨gi8, hok⟩ := gd_some hok
  refine va_tb hx hb (hSt.1.1 x0 (okS_lt g8)).2.2.2 hS (okI_in gi8) rfl dJ1_charAt_3b067_8 ?_
  refine lv_sipush (v := 255) hx hb dJ1_charAt_3b067_9 (by decide) ?_
  refine lv_iand hx hb dJ1_charAt_3b067_12 ?_
  refine lv_i2c (v := (((sByt x0 x1.toNatClampNeg) &&& (255 : Int32)).toUInt32 % 65536).toInt32) hx hb dJ1_charAt_3b067_13 rfl ?_
  obtain ⟨g14, hok⟩ := gd_some hok
  cases hok
  exact W.zret hx hb hr (isCh_nar g14) (fun t ht hW => ⟨⟨_, (), rfl, rfl, by rw [ht]; exact hP, va_K.moved hW.alike hK, hD⟩, hS.F ht⟩) hS.2.2 dJ1_charAt_3b067_14
def wsJ2_length_9d52b : List Cond := .code yJ2_length_9d52b cJ2_length_9d52b 1 (some .int) :: W0
abbrev wJ2_length_9d52b (cy : Nat → ClassId) (ap0 : Nat) (n0 : Nat) (p0 : Nat → Int32) : va_W := [(ap0, rB cy n0 p0)]
set_option maxHeartbeats 4000000 in
set_option maxRecDepth 100000 in
theorem kJ2_length_9d52b (l : Launch) (D : va_G) (cy : Nat → ClassId) (sz : Nat) (ap0 : Nat) (n0 : Nat) (p0 : Nat → Int32) (zr : Int32) (hok : fJ2_length_9d52b n0 p0 = some zr) (A : Nat → Prop) (hAe : va_A (wJ2_length_9d52b cy ap0 n0 p0) sz = A) : Met l yJ2_length_9d52b wsJ2_length_9d52b ({ frames := 0, cells := 0, slots := 0, locals := 0 } : Room) (kPre D cy [.ref ap0] (wJ2_length_9d52b cy ap0 n0 p0) sz) (kQi D cy zr A (wJ2_length_9d52b cy ap0 n0 p0)) 0 0 A := by
  refine Met.ofW (cc := cJ2_length_9d52b) (maxL := 1) (ret := (some .int)) (by decide) rfl ?_
  intro p e s m args below meth c s₁ B hml hv
  obtain ⟨rfl, hsz, hP, hK, hD0, hN⟩ := hv
  have hx := B.exec
  have hb := B.bytes
  have hr := B.returns
  have ht0 : ∀ w ∈ W0, w.before _ s = true := fun w h => atoms_spec (ws := wsJ2_length_9d52b) B.pre w (List.mem_cons_of_mem _ h)
  have hown : s.vm.findClass RJ2 = some m.cls := findClass_of_methodNamed B.named
  have hlocks := B.notSynchronized
  subst hsz
  have hD : va_D A (wJ2_length_9d52b cy ap0 n0 p0) := by rw [← hAe]; exact hD0.self
  have hA : ∀ q : Nat, s.heap.size ≤ q → A q := fun q h => by rw [← hAe]; exact Or.inr h
  have hS : va_S A s.heap s.heap [] := va_S.rf
  have hl := lv_entry ([.ref ap0]) (n := 1) (Nat.le_of_ble_eq_true rfl)
  rw [lg_entry_eq]
  generalize (lg_sl ([.ref ap0]) ++ List.replicate (1 - (lg_sl ([.ref ap0])).length) Slot.unset).toArray = ls at hl ⊢
  have hl : lv_has ls 1 [(0, .ref ap0)] := hl
  unfold fJ2_length_9d52b at hok
  obtain ⟨H, hH⟩ : ∃ H, H = s.heap := ⟨_, rfl⟩
  obtain ⟨locs, hlc⟩ : ∃ x : List Loc, x = [] := ⟨_, rfl⟩
  have hP : va_P D vwCl (wJ2_length_9d52b cy ap0 n0 p0) H := by rw [hH]; exact hP
  have hS : va_S A s.heap H locs := by rw [hH, hlc]; exact hS
  rw [show W p l e _ s m _ below meth c s.heap [] = W p l e _ s m _ below meth c H locs from by rw [hH, hlc]]
  refine lv_aload_n hx hb dJ2_length_9d52b_0 rfl (lv_at hl 0 rfl) ?_
  refine va_alen hx hb hK hP 0 1 rfl rfl (v := (nI n0)) rfl dJ2_length_9d52b_1 ?_
  refine lv_iconst (v := 1) hx hb dJ2_length_9d52b_2 (by decide) ?_
  refine lv_ishr hx hb dJ2_length_9d52b_3 ?_
  cases hok
  exact W.iret hx hb hr (fun t ht hW => ⟨⟨_, (), rfl, rfl, by rw [ht]; exact hP, va_K.moved hW.alike hK, hD⟩, hS.F ht⟩) hS.2.2 dJ2_length_9d52b_4
def wsJ2_checkIndex_2214a : List Cond := .code yJ2_checkIndex_2214a cJ2_checkIndex_2214a 2 none :: W0
abbrev wJ2_checkIndex_2214a (cy : Nat → ClassId) (ap1 : Nat) (n1 : Nat) (p1 : Nat → Int32) : va_W := [(ap1, rB cy n1 p1)]
set_option maxHeartbeats 4000000 in
set_option maxRecDepth 100000 in
theorem kJ2_checkIndex_2214a (l : Launch) (D : va_G) (cy : Nat → ClassId) (ad : (Nat → Nat) × (Nat → Nat)) (sz : Nat) (ap1 : Nat) (n1 : Nat) (p1 : Nat → Int32) (x0 : Int32) (hok : fJ2_checkIndex_2214a n1 p1 x0 = some ()) (A : Nat → Prop) (hAe : va_A (wJ2_checkIndex_2214a cy ap1 n1 p1) sz = A) : Met l yJ2_checkIndex_2214a wsJ2_checkIndex_2214a ({ frames := 2, cells := 0, slots := 0, locals := 43 } : Room) (kPreS D cy ad [.int x0, .ref ap1] (wJ2_checkIndex_2214a cy ap1 n1 p1) sz A) (kQv D cy A (wJ2_checkIndex_2214a cy ap1 n1 p1)) 0 0 A := by
  refine Met.ofW (cc := cJ2_checkIndex_2214a) (maxL := 2) (ret := none) (by decide) rfl ?_
  intro p e s m args below meth c s₁ B hml hv
  obtain ⟨rfl, ⟨hsz, hP, hK, hD0, hN⟩, hSt⟩ := hv
  have hx := B.exec
  have hb := B.bytes
  have hr := B.returns
  have ht0 : ∀ w ∈ W0, w.before _ s = true := fun w h => atoms_spec (ws := wsJ2_checkIndex_2214a) B.pre w (List.mem_cons_of_mem _ h)
  have hown : s.vm.findClass RJ2 = some m.cls := findClass_of_methodNamed B.named
  have hlocks := B.notSynchronized
  subst hsz
  have hD : va_D A (wJ2_checkIndex_2214a cy ap1 n1 p1) := by rw [← hAe]; exact hD0.self
  have hA : ∀ q : Nat, s.heap.size ≤ q → A q := fun q h => by rw [← hAe]; exact Or.inr h
  have hS : va_S A s.heap s.heap [] := va_S.rf
  have hl := lv_entry ([.int x0, .ref ap1]) (n := 2) (Nat.le_of_ble_eq_true rfl)
  rw [lg_entry_eq]
  generalize (lg_sl ([.int x0, .ref ap1]) ++ List.replicate (2 - (lg_sl ([.int x0, .ref ap1])).length) Slot.unset).toArray = ls at hl ⊢
  have hl : lv_has ls 2 [(0, .int x0), (1, .ref ap1)] := hl
  unfold fJ2_checkIndex_2214a at hok
  obtain ⟨H, hH⟩ : ∃ H, H = s.heap := ⟨_, rfl⟩
  obtain ⟨locs, hlc⟩ : ∃ x : List Loc, x = [] := ⟨_, rfl⟩
  have hP : va_P D vwCl (wJ2_checkIndex_2214a cy ap1 n1 p1) H := by rw [hH]; exact hP
  have hS : va_S A s.heap H locs := by rw [hH, hlc]; exact hS
  rw [show W p l e _ s m _ below meth c s.heap [] = W p l e _ s m _ below meth c H locs from by rw [hH, hlc]]
  refine lv_iload_n hx hb dJ2_checkIndex_2214a_0 rfl (lv_at hl 0 rfl) ?_
  refine lv_aload_n hx hb dJ2_checkIndex_2214a_1 rfl (lv_at hl 1 rfl) ?_
  obtain ⟨r2, hc2, hok⟩ := k_bind hok
  refine kCi (wc := (wJ2_length_9d52b cy ap1 n1 p1)) (wc2 := (wJ2_length_9d52b cy ap1 n1 p1)) (wr := []) (ws2 := (wJ2_checkIndex_2214a cy ap1 n1 p1)) (kRunS (As := [.ref ap1]) (rest := [.int x0]) ⟨hx, hb, hml, hown, ht0⟩ (kJ2_length_9d52b l D cy _ ap1 n1 p1 r2 hc2 _ rfl) (va_cwS 1 ht0 (gS wd302 wd303 wd304 wd305) rfl rfl rfl (by decide +kernel) ⟨Nat.le_of_ble_eq_true rfl, Nat.le_of_ble_eq_true rfl⟩) hK hN hP hD [0] rfl (by decide) rfl hl.1 rfl (Nat.le_of_ble_eq_true rfl) dJ2_checkIndex_2214a_2 ⟨Nat.zero_le _, Nat.zero_le _⟩) hP hD hS hA [0] [] rfl rfl (by decide) (by decide) [0] (by decide) rfl rfl (fun H locs hP hD hS => ?_)
  obtain ⟨u5, hc5, hok⟩ := k_bind hok
  try dsimp only at hok
  refine kCv (wc := (wJ0_checkIndex_df160 cy )) (wc2 := (wJ0_checkIndex_df160 cy )) (wr := [(ap1, rB cy n1 p1)]) (ws2 := (wJ2_checkIndex_2214a cy ap1 n1 p1)) (kRunSS (As := [.int x0, .int r2]) (rest := []) ⟨hx, hb, hml, hown, ht0⟩ (kJ0_checkIndex_df160 l D cy ad _ x0 r2 hc5 _ rfl) (va_cwS 2 ht0 (gS wd306 wd300 wd292 wd301) rfl rfl rfl (by decide +kernel) ⟨Nat.le_of_ble_eq_true rfl, Nat.le_of_ble_eq_true rfl⟩) hK hN hP hD hSt hS hA [] rfl (by decide) rfl hl.1 rfl (Nat.le_of_ble_eq_true rfl) dJ2_checkIndex_2214a_5 ⟨Nat.zero_le _, Nat.zero_le _⟩) hP hD hS hA [] [0] rfl rfl (by decide) (by decide) [0] (by decide) rfl rfl (fun H locs hP hD hS => ?_)
  exact W.vret hx hb hr (fun t ht hW => ⟨⟨(), rfl, trivial, by rw [ht]; exact hP, va_K.moved hW.alike hK, hD⟩, hS.F ht⟩) hS.2.2 dJ2_checkIndex_2214a_8
def wsJ0_charAt_5068e : List Cond := .code yJ0_charAt_5068e cJ0_charAt_5068e 2 (some .char) :: W0
abbrev wJ0_charAt_5068e (cy : Nat → ClassId)  : va_W := []
set_option maxHeartbeats 4000000 in
set_option maxRecDepth 100000 in
theorem kJ0_charAt_5068e (l : Launch) (D : va_G) (cy : Nat → ClassId) (ad : (Nat → Nat) × (Nat → Nat)) (sz : Nat) (x0 : Nat) (x1 : Int32) (zr : Int32) (hok : fJ0_charAt_5068e x0 x1 = some zr) (A : Nat → Prop) (hAe : va_A (wJ0_charAt_5068e cy ) sz = A) : Met l yJ0_charAt_5068e wsJ0_charAt_5068e ({ frames := 3, cells := 0, slots := 0, locals := 64 } : Room) (kPreS D cy ad [.ref (ad.1 x0), .int x1] (wJ0_charAt_5068e cy ) sz A) (kQi D cy zr A (wJ0_charAt_5068e cy )) 0 0 A := by
  refine Met.ofW (cc := cJ0_charAt_5068e) (maxL := 2) (ret := (some .char)) (by decide) rfl ?_
  intro p e s m args below meth c s₁ B hml hv
  obtain ⟨rfl, ⟨hsz, hP, hK, hD0, hN⟩, hSt⟩ := hv
  have hx := B.exec
  have hb := B.bytes
  have hr := B.returns
  have ht0 : ∀ w ∈ W0, w.before _ s = true := fun w h => atoms_spec (ws := wsJ0_charAt_5068e) B.pre w (List.mem_cons_of_mem _ h)
  have hown : s.vm.findClass RJ0 = some m.cls := findClass_of_methodNamed B.named
  have hlocks := B.notSynchronized
  subst hsz
  have hD : va_D A (wJ0_charAt_5068e cy ) := by rw [← hAe]; exact hD0.self
  have hA : ∀ q : Nat, s.heap.size ≤ q → A q := fun q h => by rw [← hAe]; exact Or.inr h
  have hS : va_S A s.heap s.heap [] := va_S.rf
  have hl := lv_entry ([.ref (ad.1 x0), .int x1]) (n := 2) (Nat.le_of_ble_eq_true rfl)
  rw [lg_entry_eq]
  generalize (lg_sl ([.ref (ad.1 x0), .int x1]) ++ List.replicate (2 - (lg_sl ([.ref (ad.1 x0), .int x1])).length) Slot.unset).toArray = ls at hl ⊢
  have hl : lv_has ls 2 [(0, .ref (ad.1 x0)), (1, .int x1)] := hl
  unfold fJ0_charAt_5068e at hok
  obtain ⟨H, hH⟩ : ∃ H, H = s.heap := ⟨_, rfl⟩
  obtain ⟨locs, hlc⟩ : ∃ x : List Loc, x = [] := ⟨_, rfl⟩
  have hP : va_P D vwCl (wJ0_charAt_5068e cy ) H := by rw [hH]; exact hP
  have hS : va_S A s.heap H locs := by rw [hH, hlc]; exact hS
  rw [show W p l e _ s m _ below meth c s.heap [] = W p l e _ s m _ below meth c H locs from by rw [hH, hlc]]
  refine lv_aload_n hx hb dJ0_charAt_5068e_0 rfl (lv_at hl 0 rfl) ?_
  obtain ⟨gs1, hok⟩ := gd_some hok
  obtain ⟨r1, hc1, hok⟩ := k_bind hok
  refine kCi (wc := (wJ0_isLatin1_aae02 cy )) (wc2 := (wJ0_isLatin1_aae02 cy )) (wr := []) (ws2 := (wJ0_charAt_5068e cy )) (kRunVT (As := []) (rest := []) ⟨hx, hb, hml, hown, ht0⟩ (kJ0_isLatin1_aae02 l D cy ad _ x0 r1 hc1 _ rfl) (cwV 0 ht0 (gV wd308 wd309 wd310 wd292 wd311) rfl rfl rfl (by decide +kernel) ⟨Nat.le_of_ble_eq_true rfl, Nat.le_of_ble_eq_true rfl⟩) hK hN hP hD hSt hS hA [] rfl (by decide) (okS_lt gs1) rfl hl.1 rfl (Nat.le_of_ble_eq_true rfl) dJ0_charAt_5068e_1 ⟨Nat.zero_le _, Nat.zero_le _⟩) hP hD hS hA [] [] rfl rfl (by decide) (by decide) [] (by decide) rfl rfl (fun H locs hP hD hS => ?_)
  refine lv_if_eq (tgt := 16) hx hb dJ0_charAt_5068e_4 (by decide) (fun c4 => ?_) (fun c4 => ?_)
  · have hok := k_pos c4 hok
    cases hok
  · have hok := k_neg c4 hok
    refine lv_aload_n hx hb dJ0_charAt_5068e_7 rfl (lv_at hl 0 rfl) ?_
    obtain ⟨g8, hok⟩ := gd_some hok
    refine vk_getf hx hb (hSt.1.1 x0 (okS_lt g8)).2.2.1 hS hown (ht0 _ wd288) (fun _ h9 => h9) dJ0_charAt_5068e_8 ?_
    refine lv_iload_n hx hb dJ0_charAt_5068e_11 rfl (lv_at hl 1 rfl) ?_
    obtain ⟨r12, hc12, hok⟩ := k_bind hok
    refine kCi (wc := (wJ1_charAt_3b067 cy )) (wc2 := (wJ1_charAt_3b067 cy )) (wr := []) (ws2 := (wJ0_charAt_5068e cy )) (kRunSS (As := [.ref (ad.2 x0), .int x1]) (rest := []) ⟨hx, hb, hml, hown, ht0⟩ (kJ1_charAt_3b067 l D cy ad _ x0 x1 r12 hc12 _ rfl) (va_cwS 2 ht0 (gS wd312 wd313 wd314 wd315) rfl rfl rfl (by decide +kernel) ⟨Nat.le_of_ble_eq_true rfl, Nat.le_of_ble_eq_true rfl⟩) hK hN hP hD hSt hS hA [] rfl (by decide) rfl hl.1 rfl (Nat.le_of_ble_eq_true rfl) dJ0_charAt_5068e_12 ⟨Nat.zero_le _, Nat.zero_le _⟩) hP hD hS hA [] [] rfl rfl (by decide) (by decide) [] (by decide) rfl rfl (fun H locs hP hD hS => ?_)
    obtain ⟨g15, hok⟩ := gd_some hok
    cases hok
    exact W.zret hx hb hr (isCh_nar g15) (fun t ht hW => ⟨⟨_, (), rfl, rfl, by rw [ht]; exact hP, va_K.moved hW.alike hK, hD⟩, hS.F ht⟩) hS.2.2 dJ0_charAt_5068e_15
def wsX5_says : List Cond := .code yX5_says cX5_says 4 (some .boolean) :: W0
abbrev wX5_says (cy : Nat → ClassId) (aR : Nat) (qR : Nat → Nat) (aH : Nat) (vR_j11 : Int64) (vR : Nat → Int32) (vR_tape : Nat → Int32) : va_W := [(aR, oX5 vR qR vR_j11 aH), (qR 0, rB cy 900 vR_tape)]
set_option maxHeartbeats 4000000 in
set_option maxRecDepth 100000 in
theorem kX5_says (l : Launch) (D : va_G) (cy : Nat → ClassId) (ad : (Nat → Nat) × (Nat → Nat)) (sz : Nat) (aR : Nat) (qR : Nat → Nat) (aH : Nat) (vR_j11 : Int64) (vR : Nat → Int32) (vR_tape : Nat → Int32) (x1 : Nat) (zr : Int32) (hok : fX5_says vR_j11 vR vR_tape x1 = some zr) (A : Nat → Prop) (hAe : va_A (wX5_says cy aR qR aH vR_j11 vR vR_tape) sz = A) : Met l yX5_says wsX5_says ({ frames := 4, cells := 0, slots := 0, locals := 85 } : Room) (kPreS D cy ad [.ref aR, .ref (ad.1 x1)] (wX5_says cy aR qR aH vR_j11 vR vR_tape) sz A) (kQi D cy zr A (wX5_says cy aR qR aH vR_j11 vR vR_tape)) 0 0 A := by
  refine Met.ofW (cc := cX5_says) (maxL := 4) (ret := (some .boolean)) (by decide) rfl ?_
  intro p e s m args below meth c s₁ B hml hv
  obtain ⟨rfl, ⟨hsz, hP, hK, hD0, hN⟩, hSt⟩ := hv
  have hx := B.exec
  have hb := B.bytes
  have hr := B.returns
  have ht0 : ∀ w ∈ W0, w.before _ s = true := fun w h => atoms_spec (ws := wsX5_says) B.pre w (List.mem_cons_of_mem _ h)
  have hown : s.vm.findClass RX5 = some m.cls := findClass_of_methodNamed B.named
  have hlocks := B.notSynchronized
  subst hsz
  have hD : va_D A (wX5_says cy aR qR aH vR_j11 vR vR_tape) := by rw [← hAe]; exact hD0.self
  have hA : ∀ q : Nat, s.heap.size ≤ q → A q := fun q h => by rw [← hAe]; exact Or.inr h
  have hS : va_S A s.heap s.heap [] := va_S.rf
  have hl := lv_entry ([.ref aR, .ref (ad.1 x1)]) (n := 4) (Nat.le_of_ble_eq_true rfl)
  rw [lg_entry_eq]
  generalize (lg_sl ([.ref aR, .ref (ad.1 x1)]) ++ List.replicate (4 - (lg_sl ([.ref aR, .ref (ad.1 x1)])).length) Slot.unset).toArray = ls at hl ⊢
  have hl : lv_has ls 4 [(0, .ref aR), (1, .ref (ad.1 x1))] := hl
  generalize hQe : MQ below (kQi D cy zr A (wX5_says cy aR qR aH vR_j11 vR vR_tape)) ([.ref aR, .ref (ad.1 x1)] : List Value).toArray s 0 0 A = Q
  have J68 : ∀ (H : Heap) (locs : List Loc) (ls : Array Slot), va_P D vwCl (wX5_says cy aR qR aH vR_j11 vR vR_tape) H → va_D A (wX5_says cy aR qR aH vR_j11 vR vR_tape) → va_S A s.heap H locs → lv_has ls 4 [] → fX5_says_J68 = some zr → W p l e ({ frames := 4, cells := 0, slots := 0, locals := 85 } : Room) s m ([.ref aR, .ref (ad.1 x1)] : List Value).toArray below meth c H locs 0 0 Q (F0 m 68 ls []) := by
    intro  H locs ls hP hD hS hl hok
    unfold fX5_says_J68 at hok
    refine lv_iconst (v := 0) hx hb dX5_says_68 (by decide) ?_
    cases hok
    subst hQe; exact W.zret hx hb hr rfl (fun t ht hW => ⟨⟨_, (), rfl, rfl, by rw [ht]; exact hP, va_K.moved hW.alike hK, hD⟩, hS.F ht⟩) hS.2.2 dX5_says_69
  have L28 : ∀ (fuel : Nat) (y2_28 : Int32), ∀ (H : Heap) (locs : List Loc) (ls : Array Slot), va_P D vwCl (wX5_says cy aR qR aH vR_j11 vR vR_tape) H → va_D A (wX5_says cy aR qR aH vR_j11 vR vR_tape) → va_S A s.heap H locs → lv_has ls 4 [(0, .ref aR), (1, .ref (ad.1 x1)), (2, .int y2_28)] → lp (fX5_says_B28 vR vR_tape x1) fuel y2_28 = some zr → W p l e ({ frames := 4, cells := 0, slots := 0, locals := 85 } : Room) s m ([.ref aR, .ref (ad.1 x1)] : List Value).toArray below meth c H locs 0 0 Q (F0 m 28 ls []) := by
    intro fuel
    induction fuel with
    | zero => intro y2_28 H locs ls hP hD hS hl hok; exact (lp_0 hok).elim
    | succ fuel ih28 =>
      intro y2_28 H locs ls hP hD hS hl hok
      obtain ⟨y28, hok, hL28, hR28⟩ := lp_step hok
      unfold fX5_says_B28 at hok
      refine lv_iload_n hx hb dX5_says_28 rfl (lv_at hl 2 rfl) ?_
      refine lv_aload_n hx hb dX5_says_29 rfl (lv_at hl 1 rfl) ?_
      obtain ⟨gs30, hok⟩ := gd_some hok
      obtain ⟨r30, hc30, hok⟩ := k_bind hok
      refine kCi (wc := (wJ0_length_8abf5 cy )) (wc2 := (wJ0_length_8abf5 cy )) (wr := [(aR, oX5 vR qR vR_j11 aH), (qR 0, rB cy 900 vR_tape)]) (ws2 := (wX5_says cy aR qR aH vR_j11 vR vR_tape)) (kRunVT (As := []) (rest := [.int y2_28]) ⟨hx, hb, hml, hown, ht0⟩ (kJ0_length_8abf5 l D cy ad _ x1 r30 hc30 _ rfl) (cwV 0 ht0 (gV wd316 wd317 wd318 wd292 wd319) rfl rfl rfl (by decide +kernel) ⟨Nat.le_of_ble_eq_true rfl, Nat.le_of_ble_eq_true rfl⟩) hK hN hP hD hSt hS hA [] rfl (by decide) (okS_lt gs30) rfl hl.1 rfl (Nat.le_of_ble_eq_true rfl) dX5_says_30 ⟨Nat.zero_le _, Nat.zero_le _⟩) hP hD hS hA [] [0, 1] rfl rfl (by decide) (by decide) [0, 1] (by decide) rfl rfl (fun H locs hP hD hS => ?_)
      refine lv_icmp_ge (tgt := 76) hx hb dX5_says_33 (by decide) (fun c33 => ?_) (fun c33 => ?_)
      · have hok := k_pos c33 hok
        obtain ⟨e28, hok, he28⟩ := ex_some hok
        have hok := hok.trans (congrArg some (hL28 _ he28))
        refine lv_iconst (v := 1) hx hb dX5_says_76 (by decide) ?_
        cases hok
        subst hQe; exact W.zret hx hb hr rfl (fun t ht hW => ⟨⟨_, (), rfl, rfl, by rw [ht]; exact hP, va_K.moved hW.alike hK, hD⟩, hS.F ht⟩) hS.2.2 dX5_says_77
      · have hok := k_neg c33 hok
        refine lv_aload_n hx hb dX5_says_36 rfl (lv_at hl 0 rfl) ?_
        refine va_get (D := D) (ci := 4) (v := .int (vR 8)) (C := RX5) (T := TX5) (N := 13) hx hb ht0 niX5 hown hK hP 0 rfl rfl 8 (by decide) (ht0 _ wd265) (fun _ h9 => h9) rfl dX5_says_37 ?_
        refine lv_iload_n hx hb dX5_says_40 rfl (lv_at hl 2 rfl) ?_
        refine lv_iadd hx hb dX5_says_41 ?_
        refine lv_istore_n (lv' := [(3, .int ((vR 8) + y2_28)), (0, .ref aR), (1, .ref (ad.1 x1)), (2, .int y2_28)]) hx hb dX5_says_42 rfl hl (by decide) rfl (fun ls hl => ?_)
        refine lv_iload_n hx hb dX5_says_43 rfl (lv_at hl 0 rfl) ?_
        refine lv_if_lt (tgt := 68) hx hb dX5_says_44 (by decide) (fun c44 => ?_) (fun c44 => ?_)
        · have hok := k_pos c44 hok
          obtain ⟨e28, hok, he28⟩ := ex_some hok
          have hok := hok.trans (congrArg some (hL28 _ he28))
          exact J68  H locs ls hP hD hS (lv_sub hl [] rfl) hok
        · have hok := k_neg c44 hok
          refine lv_iload_n hx hb dX5_says_47 rfl (lv_at hl 0 rfl) ?_
          refine lv_sipush (v := 900) hx hb dX5_says_48 (by decide) ?_
          refine lv_icmp_ge (tgt := 68) hx hb dX5_says_51 (by decide) (fun c51 => ?_) (fun c51 => ?_)
          · have hok := k_pos c51 hok
            obtain ⟨e28, hok, he28⟩ := ex_some hok
            have hok := hok.trans (congrArg some (hL28 _ he28))
            exact J68  H locs ls hP hD hS (lv_sub hl [] rfl) hok
          · have hok := k_neg c51 hok
            refine lv_aload_n hx hb dX5_says_54 rfl (lv_at hl 1 rfl) ?_
            refine va_get (D := D) (ci := 4) (v := .ref (qR 0)) (C := RX5) (T := TX5) (N := 13) hx hb ht0 niX5 hown hK hP 0 rfl rfl 0 (by decide) (ht0 _ wd263) (fun _ h9 => h9) rfl dX5_says_55 ?_
            refine lv_iload_n hx hb dX5_says_58 rfl (lv_at hl 0 rfl) ?_
            obtain ⟨g59, hok⟩ := gd_some hok
            refine va_bald hx hb hK hP 1 1 rfl rfl (okI_in g59) dX5_says_59 ?_
            refine lv_aload_n hx hb dX5_says_60 rfl (lv_at hl 2 rfl) ?_
            refine lv_iload_n hx hb dX5_says_61 rfl (lv_at hl 3 rfl) ?_
            obtain ⟨gs62, hok⟩ := gd_some hok
            obtain ⟨r62, hc62, hok⟩ := k_bind hok
            refine kCi (wc := (wJ0_charAt_5068e cy )) (wc2 := (wJ0_charAt_5068e cy )) (wr := [(aR, oX5 vR qR vR_j11 aH), (qR 0, rB cy 900 vR_tape)]) (ws2 := (wX5_says cy aR qR aH vR_j11 vR vR_tape)) (kRunVT (As := [.int y2_28]) (rest := [.int (vR_tape ((vR 8) + y2_28).toNatClampNeg)]) ⟨hx, hb, hml, hown, ht0⟩ (kJ0_charAt_5068e l D cy ad _ x1 y2_28 r62 hc62 _ rfl) (cwV 1 ht0 (gV wd320 wd321 wd322 wd292 wd323) rfl rfl rfl (by decide +kernel) ⟨Nat.le_of_ble_eq_true rfl, Nat.le_of_ble_eq_true rfl⟩) hK hN hP hD hSt hS hA [] rfl (by decide) (okS_lt gs62) rfl hl.1 rfl (Nat.le_of_ble_eq_true rfl) dX5_says_62 ⟨Nat.zero_le _, Nat.zero_le _⟩) hP hD hS hA [] [0, 1] rfl rfl (by decide) (by decide) [0, 1] (by decide) rfl rfl (fun H locs hP hD hS => ?_)
            refine lv_icmp_eq (tgt := 70) hx hb dX5_says_65 (by decide) (fun c65 => ?_) (fun c65 => ?_)
            · have hok := k_pos c65 hok
              refine lv_iinc (v := (y2_28 + 1)) (lv' := [(2, .int (y2_28 + 1)), (3, .int ((vR 8) + y2_28)), (0, .ref aR), (1, .ref (ad.1 x1))]) hx hb dX5_says_70 hl (k := 3) rfl (by first | rfl | decide) (by decide) rfl (fun ls hl => ?_)
              refine lv_goto (tgt := 28) hx hb dX5_says_73 (by decide) ?_
              exact ih28 (y2_28 + 1) H locs ls hP hD hS (lv_sub hl [2, 3, 0] rfl) (hR28 _ (Option.some.inj hok).symm)
            · have hok := k_neg c65 hok
              obtain ⟨e28, hok, he28⟩ := ex_some hok
              have hok := hok.trans (congrArg some (hL28 _ he28))
              exact J68  H locs ls hP hD hS (lv_sub hl [] rfl) hok
  have J24 : ∀ (H : Heap) (locs : List Loc) (ls : Array Slot), va_P D vwCl (wX5_says cy aR qR aH vR_j11 vR vR_tape) H → va_D A (wX5_says cy aR qR aH vR_j11 vR vR_tape) → va_S A s.heap H locs → lv_has ls 4 [] → fX5_says_J24 = some zr → W p l e ({ frames := 4, cells := 0, slots := 0, locals := 85 } : Room) s m ([.ref aR, .ref (ad.1 x1)] : List Value).toArray below meth c H locs 0 0 Q (F0 m 24 ls []) := by
    intro  H locs ls hP hD hS hl hok
    unfold fX5_says_J24 at hok
    refine lv_iconst (v := 0) hx hb dX5_says_24 (by decide) ?_
    cases hok
    subst hQe; exact W.zret hx hb hr rfl (fun t ht hW => ⟨⟨_, (), rfl, rfl, by rw [ht]; exact hP, va_K.moved hW.alike hK, hD⟩, hS.F ht⟩) hS.2.2 dX5_says_25
  unfold fX5_says at hok
  obtain ⟨H, hH⟩ : ∃ H, H = s.heap := ⟨_, rfl⟩
  obtain ⟨locs, hlc⟩ : ∃ x : List Loc, x = [] := ⟨_, rfl⟩
  have hP : va_P D vwCl (wX5_says cy aR qR aH vR_j11 vR vR_tape) H := by rw [hH]; exact hP
  have hS : va_S A s.heap H locs := by rw [hH, hlc]; exact hS
  rw [show W p l e _ s m _ below meth c s.heap [] = W p l e _ s m _ below meth c H locs from by rw [hH, hlc]]
  refine lv_aload_n hx hb dX5_says_0 rfl (lv_at hl 0 rfl) ?_
  refine va_get (D := D) (ci := 4) (v := .int (vR 7)) (C := RX5) (T := TX5) (N := 13) hx hb ht0 niX5 hown hK hP 0 rfl rfl 7 (by decide) (ht0 _ wd269) (fun _ h9 => h9) rfl dX5_says_1 ?_
  refine lv_iconst (v := 1) hx hb dX5_says_4 (by decide) ?_
  refine lv_icmp_ne (tgt := 24) hx hb dX5_says_5 (by decide) (fun c5 => ?_) (fun c5 => ?_)
  · have hok := k_neg c5 hok
    exact J24  H locs ls hP hD hS (lv_sub hl [] rfl) hok
  · have hok := k_pos c5 hok
    refine lv_aload_n hx hb dX5_says_8 rfl (lv_at hl 0 rfl) ?_
    refine va_get (D := D) (ci := 4) (v := .int (vR 9)) (C := RX5) (T := TX5) (N := 13) hx hb ht0 niX5 hown hK hP 0 rfl rfl 9 (by decide) (ht0 _ wd270) (fun _ h9 => h9) rfl dX5_says_9 ?_
    refine lv_aload_n hx hb dX5_says_12 rfl (lv_at hl 0 rfl) ?_
    refine va_get (D := D) (ci := 4) (v := .int (vR 8)) (C := RX5) (T := TX5) (N := 13) hx hb ht0 niX5 hown hK hP 0 rfl rfl 8 (by decide) (ht0 _ wd265) (fun _ h9 => h9) rfl dX5_says_13 ?_
    refine lv_isub hx hb dX5_says_16 ?_
    refine lv_aload_n hx hb dX5_says_17 rfl (lv_at hl 1 rfl) ?_
    obtain ⟨gs18, hok⟩ := gd_some hok
    obtain ⟨r18, hc18, hok⟩ := k_bind hok
    refine kCi (wc := (wJ0_length_8abf5 cy )) (wc2 := (wJ0_length_8abf5 cy )) (wr := [(aR, oX5 vR qR vR_j11 aH), (qR 0, rB cy 900 vR_tape)]) (ws2 := (wX5_says cy aR qR aH vR_j11 vR vR_tape)) (kRunVT (As := []) (rest := [.int ((vR 9) - (vR 8))]) ⟨hx, hb, hml, hown, ht0⟩ (kJ0_length_8abf5 l D cy ad _ x1 r18 hc18 _ rfl) (cwV 0 ht0 (gV wd316 wd317 wd318 wd292 wd319) rfl rfl rfl (by decide +kernel) ⟨Nat.le_of_ble_eq_true rfl, Nat.le_of_ble_eq_true rfl⟩) hK hN hP hD hSt hS hA [] rfl (by decide) (okS_lt gs18) rfl hl.1 rfl (Nat.le_of_ble_eq_true rfl) dX5_says_18 ⟨Nat.zero_le _, Nat.zero_le _⟩) hP hD hS hA [] [0, 1] rfl rfl (by decide) (by decide) [0, 1] (by decide) rfl rfl (fun H locs hP hD hS => ?_)
    refine lv_icmp_eq (tgt := 26) hx hb dX5_says_21 (by decide) (fun c21 => ?_) (fun c21 => ?_)
    · have hok := k_pos c21 hok
      refine lv_iconst (v := 0) hx hb dX5_says_26 (by decide) ?_
      refine lv_istore_n (lv' := [(2, .int 0), (0, .ref aR), (1, .ref (ad.1 x1))]) hx hb dX5_says_27 rfl hl (by decide) rfl (fun ls hl => ?_)
      exact L28 5000 (0 : Int32) H locs ls hP hD hS (lv_sub hl [1, 2, 0] rfl) hok
    · have hok := k_neg c21 hok
      exact J24  H locs ls hP hD hS (lv_sub hl [] rfl) hok
def wsX5_fails : List Cond := .code yX5_fails cX5_fails 2 (some .boolean) :: W0
abbrev wX5_fails (cy : Nat → ClassId) (aR : Nat) (qR : Nat → Nat) (aH : Nat) (vR_j11 : Int64) (vR : Nat → Int32) : va_W := [(aR, oX5 vR qR vR_j11 aH)]
set_option maxHeartbeats 4000000 in
set_option maxRecDepth 100000 in
theorem kX5_fails (l : Launch) (D : va_G) (cy : Nat → ClassId) (sz : Nat) (aR : Nat) (qR : Nat → Nat) (aH : Nat) (vR_j11 : Int64) (vR : Nat → Int32) (x1 : Int32) (zr : Int32) (z_vR : Nat → Int32) (hok : fX5_fails vR_j11 vR x1 = some (zr, z_vR)) (A : Nat → Prop) (hAe : va_A (wX5_fails cy aR qR aH vR_j11 vR) sz = A) : Met l yX5_fails wsX5_fails ({ frames := 0, cells := 0, slots := 0, locals := 0 } : Room) (kPre D cy [.ref aR, .int x1] (wX5_fails cy aR qR aH vR_j11 vR) sz) (kQi D cy zr A (wX5_fails cy aR qR aH vR_j11 z_vR)) 0 0 A := by
  refine Met.ofW (cc := cX5_fails) (maxL := 2) (ret := (some .boolean)) (by decide) rfl ?_
  intro p e s m args below meth c s₁ B hml hv
  obtain ⟨rfl, hsz, hP, hK, hD0, hN⟩ := hv
  have hx := B.exec
  have hb := B.bytes
  have hr := B.returns
  have ht0 : ∀ w ∈ W0, w.before _ s = true := fun w h => atoms_spec (ws := wsX5_fails) B.pre w (List.mem_cons_of_mem _ h)
  have hown : s.vm.findClass RX5 = some m.cls := findClass_of_methodNamed B.named
  have hlocks := B.notSynchronized
  subst hsz
  have hD : va_D A (wX5_fails cy aR qR aH vR_j11 vR) := by rw [← hAe]; exact hD0.self
  have hA : ∀ q : Nat, s.heap.size ≤ q → A q := fun q h => by rw [← hAe]; exact Or.inr h
  have hS : va_S A s.heap s.heap [] := va_S.rf
  have hl := lv_entry ([.ref aR, .int x1]) (n := 2) (Nat.le_of_ble_eq_true rfl)
  rw [lg_entry_eq]
  generalize (lg_sl ([.ref aR, .int x1]) ++ List.replicate (2 - (lg_sl ([.ref aR, .int x1])).length) Slot.unset).toArray = ls at hl ⊢
  have hl : lv_has ls 2 [(0, .ref aR), (1, .int x1)] := hl
  unfold fX5_fails at hok
  obtain ⟨H, hH⟩ : ∃ H, H = s.heap := ⟨_, rfl⟩
  obtain ⟨locs, hlc⟩ : ∃ x : List Loc, x = [] := ⟨_, rfl⟩
  have hP : va_P D vwCl (wX5_fails cy aR qR aH vR_j11 vR) H := by rw [hH]; exact hP
  have hS : va_S A s.heap H locs := by rw [hH, hlc]; exact hS
  rw [show W p l e _ s m _ below meth c s.heap [] = W p l e _ s m _ below meth c H locs from by rw [hH, hlc]]
  refine lv_aload_n hx hb dX5_fails_0 rfl (lv_at hl 0 rfl) ?_
  refine lv_iload_n hx hb dX5_fails_1 rfl (lv_at hl 1 rfl) ?_
  refine va_put (D := D) (ci := 4) (v := .int x1) (ty := .int) (C := RX5) (T := TX5) (N := 13) hx hb ht0 niX5 tyX5 tyX5_ok nmX5 hown hK hP hD hS 0 rfl rfl 12 (by decide) (ht0 _ wd264) (fun _ h9 => h9) rfl (by decide +kernel) rfl rfl (Nat.le_of_ble_eq_true rfl) dX5_fails_2 (fun H locs hP hD hS => ?_)
  have hP : va_P D vwCl (wX5_fails cy aR qR aH vR_j11 (upd vR 12 x1)) H := hP
  have hD : va_D A (wX5_fails cy aR qR aH vR_j11 (upd vR 12 x1)) := hD
  refine lv_iconst (v := 0) hx hb dX5_fails_5 (by decide) ?_
  cases hok
  exact W.zret hx hb hr rfl (fun t ht hW => ⟨⟨_, (), rfl, rfl, by rw [ht]; exact hP, va_K.moved hW.alike hK, hD⟩, hS.F ht⟩) hS.2.2 dX5_fails_6
def wsX5_passes : List Cond := .code yX5_passes cX5_passes 2 (some .boolean) :: W0
abbrev wX5_passes (cy : Nat → ClassId) (aR : Nat) (qR : Nat → Nat) (aH : Nat) (vR_j11 : Int64) (vR : Nat → Int32) (vR_tape : Nat → Int32) : va_W := [(aR, oX5 vR qR vR_j11 aH), (qR 0, rB cy 900 vR_tape)]
set_option maxHeartbeats 4000000 in
set_option maxRecDepth 100000 in
theorem kX5_passes (l : Launch) (D : va_G) (cy : Nat → ClassId) (ad : (Nat → Nat) × (Nat → Nat)) (sz : Nat) (aR : Nat) (qR : Nat → Nat) (aH : Nat) (vR_j11 : Int64) (vR : Nat → Int32) (vR_tape : Nat → Int32) (x1 : Nat) (zr : Int32) (z_vR_j11 : Int64) (z_vR : Nat → Int32) (hok : fX5_passes vR_j11 vR vR_tape x1 = some (zr, z_vR_j11, z_vR)) (A : Nat → Prop) (hAe : va_A (wX5_passes cy aR qR aH vR_j11 vR vR_tape) sz = A) : Met l yX5_passes wsX5_passes ({ frames := 5, cells := 0, slots := 0, locals := 108 } : Room) (kPreS D cy ad [.ref aR, .ref (ad.1 x1)] (wX5_passes cy aR qR aH vR_j11 vR vR_tape) sz A) (kQi D cy zr A (wX5_passes cy aR qR aH z_vR_j11 z_vR vR_tape)) 0 0 A := by
  refine Met.ofW (cc := cX5_passes) (maxL := 2) (ret := (some .boolean)) (by decide) rfl ?_
  intro p e s m args below meth c s₁ B hml hv
  obtain ⟨rfl, ⟨hsz, hP, hK, hD0, hN⟩, hSt⟩ := hv
  have hx := B.exec
  have hb := B.bytes
  have hr := B.returns
  have ht0 : ∀ w ∈ W0, w.before _ s = true := fun w h => atoms_spec (ws := wsX5_passes) B.pre w (List.mem_cons_of_mem _ h)
  have hown : s.vm.findClass RX5 = some m.cls := findClass_of_methodNamed B.named
  have hlocks := B.notSynchronized
  subst hsz
  have hD : va_D A (wX5_passes cy aR qR aH vR_j11 vR vR_tape) := by rw [← hAe]; exact hD0.self
  have hA : ∀ q : Nat, s.heap.size ≤ q → A q := fun q h => by rw [← hAe]; exact Or.inr h
  have hS : va_S A s.heap s.heap [] := va_S.rf
  have hl := lv_entry ([.ref aR, .ref (ad.1 x1)]) (n := 2) (Nat.le_of_ble_eq_true rfl)
  rw [lg_entry_eq]
  generalize (lg_sl ([.ref aR, .ref (ad.1 x1)]) ++ List.replicate (2 - (lg_sl ([.ref aR, .ref (ad.1 x1)])).length) Slot.unset).toArray = ls at hl ⊢
  have hl : lv_has ls 2 [(0, .ref aR), (1, .ref (ad.1 x1))] := hl
  unfold fX5_passes at hok
  obtain ⟨H, hH⟩ : ∃ H, H = s.heap := ⟨_, rfl⟩
  obtain ⟨locs, hlc⟩ : ∃ x : List Loc, x = [] := ⟨_, rfl⟩
  have hP : va_P D vwCl (wX5_passes cy aR qR aH vR_j11 vR vR_tape) H := by rw [hH]; exact hP
  have hS : va_S A s.heap H locs := by rw [hH, hlc]; exact hS
  rw [show W p l e _ s m _ below meth c s.heap [] = W p l e _ s m _ below meth c H locs from by rw [hH, hlc]]
  refine lv_aload_n hx hb dX5_passes_0 rfl (lv_at hl 0 rfl) ?_
  refine lv_aload_n hx hb dX5_passes_1 rfl (lv_at hl 1 rfl) ?_
  obtain ⟨r2, hc2, hok⟩ := k_bind hok
  refine kCi (wc := (wX5_says cy aR qR aH vR_j11 vR vR_tape)) (wc2 := (wX5_says cy aR qR aH vR_j11 vR vR_tape)) (wr := []) (ws2 := (wX5_passes cy aR qR aH vR_j11 vR vR_tape)) (kRunVS (As := [.ref (ad.1 x1)]) (rest := []) ⟨hx, hb, hml, hown, ht0⟩ (kX5_says l D cy ad _ aR qR aH vR_j11 vR vR_tape x1 r2 hc2 _ rfl) (cwV 1 ht0 (gV wd324 wd325 wd326 wd276 wd327) rfl rfl rfl (by decide +kernel) ⟨Nat.le_of_ble_eq_true rfl, Nat.le_of_ble_eq_true rfl⟩) hK hN hP hD hSt hS hA [0, 1] rfl (by decide) 0 4 rfl rfl rfl hl.1 rfl (Nat.le_of_ble_eq_true rfl) dX5_passes_2 ⟨Nat.zero_le _, Nat.zero_le _⟩) hP hD hS hA [0, 1] [] rfl rfl (by decide) (by decide) [0, 1] (by decide) rfl rfl (fun H locs hP hD hS => ?_)
  refine lv_if_ne (tgt := 14) hx hb dX5_passes_5 (by decide) (fun c5 => ?_) (fun c5 => ?_)
  · have hok := k_neg c5 hok
    refine lv_aload_n hx hb dX5_passes_14 rfl (lv_at hl 0 rfl) ?_
    obtain ⟨⟨vR_j11_15, vR_15⟩, hc15, hok⟩ := k_bind hok
    try dsimp only at hok
    refine kCv (wc := (wX5_step cy aR qR aH vR_j11 vR vR_tape)) (wc2 := (wX5_step cy aR qR aH vR_j11_15 vR_15 vR_tape)) (wr := []) (ws2 := (wX5_passes cy aR qR aH vR_j11_15 vR_15 vR_tape)) (kRunV (As := []) (rest := []) ⟨hx, hb, hml, hown, ht0⟩ (kX5_step l D cy _ aR qR aH vR_j11 vR vR_tape vR_j11_15 vR_15 hc15 _ rfl) (cwV 0 ht0 (gV wd328 wd329 wd330 wd276 wd331) rfl rfl rfl (by decide +kernel) ⟨Nat.le_of_ble_eq_true rfl, Nat.le_of_ble_eq_true rfl⟩) hK hN hP hD [0, 1] rfl (by decide) 0 4 rfl rfl rfl hl.1 rfl (Nat.le_of_ble_eq_true rfl) dX5_passes_15 ⟨Nat.zero_le _, Nat.zero_le _⟩) hP hD hS hA [0, 1] [] rfl rfl (by decide) (by decide) [0, 1] (by decide) rfl rfl (fun H locs hP hD hS => ?_)
    refine lv_iconst (v := 1) hx hb dX5_passes_18 (by decide) ?_
    cases hok
    exact W.zret hx hb hr rfl (fun t ht hW => ⟨⟨_, (), rfl, rfl, by rw [ht]; exact hP, va_K.moved hW.alike hK, hD⟩, hS.F ht⟩) hS.2.2 dX5_passes_19
  · have hok := k_pos c5 hok
    refine lv_aload_n hx hb dX5_passes_8 rfl (lv_at hl 0 rfl) ?_
    refine lv_iconst (v := 1) hx hb dX5_passes_9 (by decide) ?_
    obtain ⟨⟨r10, vR_10⟩, hc10, hok⟩ := k_bind hok
    try dsimp only at hok
    refine kCi (wc := (wX5_fails cy aR qR aH vR_j11 vR)) (wc2 := (wX5_fails cy aR qR aH vR_j11 vR_10)) (wr := [(qR 0, rB cy 900 vR_tape)]) (ws2 := (wX5_passes cy aR qR aH vR_j11 vR_10 vR_tape)) (kRunV (As := [.int 1]) (rest := []) ⟨hx, hb, hml, hown, ht0⟩ (kX5_fails l D cy _ aR qR aH vR_j11 vR (1 : Int32) r10 vR_10 hc10 _ rfl) (cwV 1 ht0 (gV wd332 wd333 wd334 wd276 wd335) rfl rfl rfl (by decide +kernel) ⟨Nat.le_of_ble_eq_true rfl, Nat.le_of_ble_eq_true rfl⟩) hK hN hP hD [0] rfl (by decide) 0 4 rfl rfl rfl hl.1 rfl (Nat.le_of_ble_eq_true rfl) dX5_passes_10 ⟨Nat.zero_le _, Nat.zero_le _⟩) hP hD hS hA [0] [1] rfl rfl (by decide) (by decide) [1, 0] (by decide) rfl rfl (fun H locs hP hD hS => ?_)
    obtain ⟨g13, hok⟩ := gd_some hok
    cases hok
    exact W.zret hx hb hr (isB_nar g13) (fun t ht hW => ⟨⟨_, (), rfl, rfl, by rw [ht]; exact hP, va_K.moved hW.alike hK, hD⟩, hS.F ht⟩) hS.2.2 dX5_passes_13
def wsX5_isWhole : List Cond := .code yX5_isWhole cX5_isWhole 3 (some .boolean) :: W0
abbrev wX5_isWhole (cy : Nat → ClassId) (aR : Nat) (qR : Nat → Nat) (aH : Nat) (vR_j11 : Int64) (vR : Nat → Int32) : va_W := [(aR, oX5 vR qR vR_j11 aH)]
set_option maxHeartbeats 4000000 in
set_option maxRecDepth 100000 in
theorem kX5_isWhole (l : Launch) (D : va_G) (cy : Nat → ClassId) (sz : Nat) (aR : Nat) (qR : Nat → Nat) (aH : Nat) (vR_j11 : Int64) (vR : Nat → Int32) (x1 : Int32) (x2 : Int32) (zr : Int32) (z_vR : Nat → Int32) (hok : fX5_isWhole vR_j11 vR x1 x2 = some (zr, z_vR)) (A : Nat → Prop) (hAe : va_A (wX5_isWhole cy aR qR aH vR_j11 vR) sz = A) : Met l yX5_isWhole wsX5_isWhole ({ frames := 1, cells := 0, slots := 0, locals := 21 } : Room) (kPre D cy [.ref aR, .int x1, .int x2] (wX5_isWhole cy aR qR aH vR_j11 vR) sz) (kQi D cy zr A (wX5_isWhole cy aR qR aH vR_j11 z_vR)) 0 0 A := by
  refine Met.ofW (cc := cX5_isWhole) (maxL := 3) (ret := (some .boolean)) (by decide) rfl ?_
  intro p e s m args below meth c s₁ B hml hv
  obtain ⟨rfl, hsz, hP, hK, hD0, hN⟩ := hv
  have hx := B.exec
  have hb := B.bytes
  have hr := B.returns
  have ht0 : ∀ w ∈ W0, w.before _ s = true := fun w h => atoms_spec (ws := wsX5_isWhole) B.pre w (List.mem_cons_of_mem _ h)
  have hown : s.vm.findClass RX5 = some m.cls := findClass_of_methodNamed B.named
  have hlocks := B.notSynchronized
  subst hsz
  have hD : va_D A (wX5_isWhole cy aR qR aH vR_j11 vR) := by rw [← hAe]; exact hD0.self
  have hA : ∀ q : Nat, s.heap.size ≤ q → A q := fun q h => by rw [← hAe]; exact Or.inr h
  have hS : va_S A s.heap s.heap [] := va_S.rf
  have hl := lv_entry ([.ref aR, .int x1, .int x2]) (n := 3) (Nat.le_of_ble_eq_true rfl)
  rw [lg_entry_eq]
  generalize (lg_sl ([.ref aR, .int x1, .int x2]) ++ List.replicate (3 - (lg_sl ([.ref aR, .int x1, .int x2])).length) Slot.unset).toArray = ls at hl ⊢
  have hl : lv_has ls 3 [(0, .ref aR), (1, .int x1), (2, .int x2)] := hl
  generalize hQe : MQ below (kQi D cy zr A (wX5_isWhole cy aR qR aH vR_j11 z_vR)) ([.ref aR, .int x1, .int x2] : List Value).toArray s 0 0 A = Q
  have J43 : ∀ (t0_43 : Int32) (vR_43 : Nat → Int32), ∀ (H : Heap) (locs : List Loc) (ls : Array Slot), va_P D vwCl (wX5_isWhole cy aR qR aH vR_j11 vR_43) H → va_D A (wX5_isWhole cy aR qR aH vR_j11 vR_43) → va_S A s.heap H locs → lv_has ls 3 [] → fX5_isWhole_J43 t0_43 vR_43 = some (zr, z_vR) → W p l e ({ frames := 1, cells := 0, slots := 0, locals := 21 } : Room) s m ([.ref aR, .int x1, .int x2] : List Value).toArray below meth c H locs 0 0 Q (F0 m 43 ls [.int t0_43]) := by
    intro t0_43 vR_43 H locs ls hP hD hS hl hok
    unfold fX5_isWhole_J43 at hok
    obtain ⟨g43, hok⟩ := gd_some hok
    cases hok
    subst hQe; exact W.zret hx hb hr (isB_nar g43) (fun t ht hW => ⟨⟨_, (), rfl, rfl, by rw [ht]; exact hP, va_K.moved hW.alike hK, hD⟩, hS.F ht⟩) hS.2.2 dX5_isWhole_43
  have J38 : ∀ (vR_38 : Nat → Int32), ∀ (H : Heap) (locs : List Loc) (ls : Array Slot), va_P D vwCl (wX5_isWhole cy aR qR aH vR_j11 vR_38) H → va_D A (wX5_isWhole cy aR qR aH vR_j11 vR_38) → va_S A s.heap H locs → lv_has ls 3 [] → fX5_isWhole_J38 vR_38 = some (zr, z_vR) → W p l e ({ frames := 1, cells := 0, slots := 0, locals := 21 } : Room) s m ([.ref aR, .int x1, .int x2] : List Value).toArray below meth c H locs 0 0 Q (F0 m 38 ls []) := by
    intro vR_38 H locs ls hP hD hS hl hok
    unfold fX5_isWhole_J38 at hok
    refine lv_iconst (v := 1) hx hb dX5_isWhole_38 (by decide) ?_
    refine lv_goto (tgt := 43) hx hb dX5_isWhole_39 (by decide) ?_
    exact J43 (1 : Int32) vR_38 H locs ls hP hD hS (lv_sub hl [] rfl) hok
  have J30 : ∀ (H : Heap) (locs : List Loc) (ls : Array Slot), va_P D vwCl (wX5_isWhole cy aR qR aH vR_j11 vR) H → va_D A (wX5_isWhole cy aR qR aH vR_j11 vR) → va_S A s.heap H locs → lv_has ls 3 [(0, .ref aR)] → fX5_isWhole_J30 vR_j11 vR = some (zr, z_vR) → W p l e ({ frames := 1, cells := 0, slots := 0, locals := 21 } : Room) s m ([.ref aR, .int x1, .int x2] : List Value).toArray below meth c H locs 0 0 Q (F0 m 30 ls []) := by
    intro  H locs ls hP hD hS hl hok
    unfold fX5_isWhole_J30 at hok
    refine lv_aload_n hx hb dX5_isWhole_30 rfl (lv_at hl 0 rfl) ?_
    refine lv_iconst (v := 4) hx hb dX5_isWhole_31 (by decide) ?_
    obtain ⟨⟨r32, vR_32⟩, hc32, hok⟩ := k_bind hok
    try dsimp only at hok
    refine kCi (wc := (wX5_fails cy aR qR aH vR_j11 vR)) (wc2 := (wX5_fails cy aR qR aH vR_j11 vR_32)) (wr := []) (ws2 := (wX5_isWhole cy aR qR aH vR_j11 vR_32)) (kRunV (As := [.int 4]) (rest := []) ⟨hx, hb, hml, hown, ht0⟩ (kX5_fails l D cy _ aR qR aH vR_j11 vR (4 : Int32) r32 vR_32 hc32 _ rfl) (cwV 1 ht0 (gV wd332 wd333 wd334 wd276 wd335) rfl rfl rfl (by decide +kernel) ⟨Nat.le_of_ble_eq_true rfl, Nat.le_of_ble_eq_true rfl⟩) hK hN hP hD [0] rfl (by decide) 0 4 rfl rfl rfl hl.1 rfl (Nat.le_of_ble_eq_true rfl) dX5_isWhole_32 ⟨Nat.zero_le _, Nat.zero_le _⟩) hP hD hS hA [0] [] rfl rfl (by decide) (by decide) [0] (by decide) rfl rfl (fun H locs hP hD hS => ?_)
    refine lv_if_eq (tgt := 42) hx hb dX5_isWhole_35 (by decide) (fun c35 => ?_) (fun c35 => ?_)
    · have hok := k_pos c35 hok
      refine lv_iconst (v := 0) hx hb dX5_isWhole_42 (by decide) ?_
      exact J43 (0 : Int32) vR_32 H locs ls hP hD hS (lv_sub hl [] rfl) hok
    · have hok := k_neg c35 hok
      exact J38 vR_32 H locs ls hP hD hS (lv_sub hl [] rfl) hok
  unfold fX5_isWhole at hok
  obtain ⟨H, hH⟩ : ∃ H, H = s.heap := ⟨_, rfl⟩
  obtain ⟨locs, hlc⟩ : ∃ x : List Loc, x = [] := ⟨_, rfl⟩
  have hP : va_P D vwCl (wX5_isWhole cy aR qR aH vR_j11 vR) H := by rw [hH]; exact hP
  have hS : va_S A s.heap H locs := by rw [hH, hlc]; exact hS
  rw [show W p l e _ s m _ below meth c s.heap [] = W p l e _ s m _ below meth c H locs from by rw [hH, hlc]]
  refine lv_aload_n hx hb dX5_isWhole_0 rfl (lv_at hl 0 rfl) ?_
  refine va_get (D := D) (ci := 4) (v := .int (vR 7)) (C := RX5) (T := TX5) (N := 13) hx hb ht0 niX5 hown hK hP 0 rfl rfl 7 (by decide) (ht0 _ wd269) (fun _ h9 => h9) rfl dX5_isWhole_1 ?_
  refine lv_iconst (v := 2) hx hb dX5_isWhole_4 (by decide) ?_
  refine lv_icmp_eq (tgt := 14) hx hb dX5_isWhole_5 (by decide) (fun c5 => ?_) (fun c5 => ?_)
  · have hok := k_pos c5 hok
    refine lv_aload_n hx hb dX5_isWhole_14 rfl (lv_at hl 0 rfl) ?_
    refine va_get (D := D) (ci := 4) (v := .int (vR 10)) (C := RX5) (T := TX5) (N := 13) hx hb ht0 niX5 hown hK hP 0 rfl rfl 10 (by decide) (ht0 _ wd272) (fun _ h9 => h9) rfl dX5_isWhole_15 ?_
    refine lv_iload_n hx hb dX5_isWhole_18 rfl (lv_at hl 1 rfl) ?_
    refine lv_icmp_lt (tgt := 30) hx hb dX5_isWhole_19 (by decide) (fun c19 => ?_) (fun c19 => ?_)
    · have hok := k_pos c19 hok
      exact J30  H locs ls hP hD hS (lv_sub hl [0] rfl) hok
    · have hok := k_neg c19 hok
      refine lv_aload_n hx hb dX5_isWhole_22 rfl (lv_at hl 0 rfl) ?_
      refine va_get (D := D) (ci := 4) (v := .int (vR 10)) (C := RX5) (T := TX5) (N := 13) hx hb ht0 niX5 hown hK hP 0 rfl rfl 10 (by decide) (ht0 _ wd272) (fun _ h9 => h9) rfl dX5_isWhole_23 ?_
      refine lv_iload_n hx hb dX5_isWhole_26 rfl (lv_at hl 2 rfl) ?_
      refine lv_icmp_le (tgt := 38) hx hb dX5_isWhole_27 (by decide) (fun c27 => ?_) (fun c27 => ?_)
      · have hok := k_pos c27 hok
        exact J38 vR H locs ls hP hD hS (lv_sub hl [] rfl) hok
      · have hok := k_neg c27 hok
        exact J30  H locs ls hP hD hS (lv_sub hl [0] rfl) hok
  · have hok := k_neg c5 hok
    refine lv_aload_n hx hb dX5_isWhole_8 rfl (lv_at hl 0 rfl) ?_
    refine lv_iconst (v := 1) hx hb dX5_isWhole_9 (by decide) ?_
    obtain ⟨⟨r10, vR_10⟩, hc10, hok⟩ := k_bind hok
    try dsimp only at hok
    refine kCi (wc := (wX5_fails cy aR qR aH vR_j11 vR)) (wc2 := (wX5_fails cy aR qR aH vR_j11 vR_10)) (wr := []) (ws2 := (wX5_isWhole cy aR qR aH vR_j11 vR_10)) (kRunV (As := [.int 1]) (rest := []) ⟨hx, hb, hml, hown, ht0⟩ (kX5_fails l D cy _ aR qR aH vR_j11 vR (1 : Int32) r10 vR_10 hc10 _ rfl) (cwV 1 ht0 (gV wd332 wd333 wd334 wd276 wd335) rfl rfl rfl (by decide +kernel) ⟨Nat.le_of_ble_eq_true rfl, Nat.le_of_ble_eq_true rfl⟩) hK hN hP hD [0] rfl (by decide) 0 4 rfl rfl rfl hl.1 rfl (Nat.le_of_ble_eq_true rfl) dX5_isWhole_10 ⟨Nat.zero_le _, Nat.zero_le _⟩) hP hD hS hA [0] [] rfl rfl (by decide) (by decide) [0] (by decide) rfl rfl (fun H locs hP hD hS => ?_)
    obtain ⟨g13, hok⟩ := gd_some hok
    cases hok
    subst hQe; exact W.zret hx hb hr (isB_nar g13) (fun t ht hW => ⟨⟨_, (), rfl, rfl, by rw [ht]; exact hP, va_K.moved hW.alike hK, hD⟩, hS.F ht⟩) hS.2.2 dX5_isWhole_13
def wsX5_takeWhole : List Cond := .code yX5_takeWhole cX5_takeWhole 4 (some .int) :: W0
abbrev wX5_takeWhole (cy : Nat → ClassId) (aR : Nat) (qR : Nat → Nat) (aH : Nat) (vR_j11 : Int64) (vR : Nat → Int32) (vR_tape : Nat → Int32) : va_W := [(aR, oX5 vR qR vR_j11 aH), (qR 0, rB cy 900 vR_tape)]
set_option maxHeartbeats 4000000 in
set_option maxRecDepth 100000 in
theorem kX5_takeWhole (l : Launch) (D : va_G) (cy : Nat → ClassId) (sz : Nat) (aR : Nat) (qR : Nat → Nat) (aH : Nat) (vR_j11 : Int64) (vR : Nat → Int32) (vR_tape : Nat → Int32) (x1 : Int32) (x2 : Int32) (zr : Int32) (z_vR_j11 : Int64) (z_vR : Nat → Int32) (hok : fX5_takeWhole vR_j11 vR vR_tape x1 x2 = some (zr, z_vR_j11, z_vR)) (A : Nat → Prop) (hAe : va_A (wX5_takeWhole cy aR qR aH vR_j11 vR vR_tape) sz = A) : Met l yX5_takeWhole wsX5_takeWhole ({ frames := 2, cells := 0, slots := 0, locals := 43 } : Room) (kPre D cy [.ref aR, .int x1, .int x2] (wX5_takeWhole cy aR qR aH vR_j11 vR vR_tape) sz) (kQi D cy zr A (wX5_takeWhole cy aR qR aH z_vR_j11 z_vR vR_tape)) 0 0 A := by
  refine Met.ofW (cc := cX5_takeWhole) (maxL := 4) (ret := (some .int)) (by decide) rfl ?_
  intro p e s m args below meth c s₁ B hml hv
  obtain ⟨rfl, hsz, hP, hK, hD0, hN⟩ := hv
  have hx := B.exec
  have hb := B.bytes
  have hr := B.returns
  have ht0 : ∀ w ∈ W0, w.before _ s = true := fun w h => atoms_spec (ws := wsX5_takeWhole) B.pre w (List.mem_cons_of_mem _ h)
  have hown : s.vm.findClass RX5 = some m.cls := findClass_of_methodNamed B.named
  have hlocks := B.notSynchronized
  subst hsz
  have hD : va_D A (wX5_takeWhole cy aR qR aH vR_j11 vR vR_tape) := by rw [← hAe]; exact hD0.self
  have hA : ∀ q : Nat, s.heap.size ≤ q → A q := fun q h => by rw [← hAe]; exact Or.inr h
  have hS : va_S A s.heap s.heap [] := va_S.rf
  have hl := lv_entry ([.ref aR, .int x1, .int x2]) (n := 4) (Nat.le_of_ble_eq_true rfl)
  rw [lg_entry_eq]
  generalize (lg_sl ([.ref aR, .int x1, .int x2]) ++ List.replicate (4 - (lg_sl ([.ref aR, .int x1, .int x2])).length) Slot.unset).toArray = ls at hl ⊢
  have hl : lv_has ls 4 [(0, .ref aR), (1, .int x1), (2, .int x2)] := hl
  unfold fX5_takeWhole at hok
  obtain ⟨H, hH⟩ : ∃ H, H = s.heap := ⟨_, rfl⟩
  obtain ⟨locs, hlc⟩ : ∃ x : List Loc, x = [] := ⟨_, rfl⟩
  have hP : va_P D vwCl (wX5_takeWhole cy aR qR aH vR_j11 vR vR_tape) H := by rw [hH]; exact hP
  have hS : va_S A s.heap H locs := by rw [hH, hlc]; exact hS
  rw [show W p l e _ s m _ below meth c s.heap [] = W p l e _ s m _ below meth c H locs from by rw [hH, hlc]]
  refine lv_aload_n hx hb dX5_takeWhole_0 rfl (lv_at hl 0 rfl) ?_
  refine lv_iload_n hx hb dX5_takeWhole_1 rfl (lv_at hl 1 rfl) ?_
  refine lv_iload_n hx hb dX5_takeWhole_2 rfl (lv_at hl 2 rfl) ?_
  obtain ⟨⟨r3, vR_3⟩, hc3, hok⟩ := k_bind hok
  try dsimp only at hok
  refine kCi (wc := (wX5_isWhole cy aR qR aH vR_j11 vR)) (wc2 := (wX5_isWhole cy aR qR aH vR_j11 vR_3)) (wr := [(qR 0, rB cy 900 vR_tape)]) (ws2 := (wX5_takeWhole cy aR qR aH vR_j11 vR_3 vR_tape)) (kRunV (As := [.int x1, .int x2]) (rest := []) ⟨hx, hb, hml, hown, ht0⟩ (kX5_isWhole l D cy _ aR qR aH vR_j11 vR x1 x2 r3 vR_3 hc3 _ rfl) (cwV 2 ht0 (gV wd336 wd337 wd338 wd276 wd339) rfl rfl rfl (by decide +kernel) ⟨Nat.le_of_ble_eq_true rfl, Nat.le_of_ble_eq_true rfl⟩) hK hN hP hD [0] rfl (by decide) 0 4 rfl rfl rfl hl.1 rfl (Nat.le_of_ble_eq_true rfl) dX5_takeWhole_3 ⟨Nat.zero_le _, Nat.zero_le _⟩) hP hD hS hA [0] [1] rfl rfl (by decide) (by decide) [1, 0] (by decide) rfl rfl (fun H locs hP hD hS => ?_)
  refine lv_if_ne (tgt := 11) hx hb dX5_takeWhole_6 (by decide) (fun c6 => ?_) (fun c6 => ?_)
  · have hok := k_neg c6 hok
    refine lv_aload_n hx hb dX5_takeWhole_11 rfl (lv_at hl 0 rfl) ?_
    refine va_get (D := D) (ci := 4) (v := .int (vR_3 10)) (C := RX5) (T := TX5) (N := 13) hx hb ht0 niX5 hown hK hP 0 rfl rfl 10 (by decide) (ht0 _ wd272) (fun _ h9 => h9) rfl dX5_takeWhole_12 ?_
    refine lv_istore_n (lv' := [(3, .int (vR_3 10)), (0, .ref aR), (1, .int x1), (2, .int x2)]) hx hb dX5_takeWhole_15 rfl hl (by decide) rfl (fun ls hl => ?_)
    refine lv_aload_n hx hb dX5_takeWhole_16 rfl (lv_at hl 1 rfl) ?_
    obtain ⟨⟨vR_j11_17, vR_17⟩, hc17, hok⟩ := k_bind hok
    try dsimp only at hok
    refine kCv (wc := (wX5_step cy aR qR aH vR_j11 vR_3 vR_tape)) (wc2 := (wX5_step cy aR qR aH vR_j11_17 vR_17 vR_tape)) (wr := []) (ws2 := (wX5_takeWhole cy aR qR aH vR_j11_17 vR_17 vR_tape)) (kRunV (As := []) (rest := []) ⟨hx, hb, hml, hown, ht0⟩ (kX5_step l D cy _ aR qR aH vR_j11 vR_3 vR_tape vR_j11_17 vR_17 hc17 _ rfl) (cwV 0 ht0 (gV wd328 wd329 wd330 wd276 wd331) rfl rfl rfl (by decide +kernel) ⟨Nat.le_of_ble_eq_true rfl, Nat.le_of_ble_eq_true rfl⟩) hK hN hP hD [0, 1] rfl (by decide) 0 4 rfl rfl rfl hl.1 rfl (Nat.le_of_ble_eq_true rfl) dX5_takeWhole_17 ⟨Nat.zero_le _, Nat.zero_le _⟩) hP hD hS hA [0, 1] [] rfl rfl (by decide) (by decide) [0, 1] (by decide) rfl rfl (fun H locs hP hD hS => ?_)
    refine lv_iload_n hx hb dX5_takeWhole_20 rfl (lv_at hl 0 rfl) ?_
    cases hok
    exact W.iret hx hb hr (fun t ht hW => ⟨⟨_, (), rfl, rfl, by rw [ht]; exact hP, va_K.moved hW.alike hK, hD⟩, hS.F ht⟩) hS.2.2 dX5_takeWhole_21
  · have hok := k_pos c6 hok
    refine lv_iconst (v := -1) hx hb dX5_takeWhole_9 (by decide) ?_
    cases hok
    exact W.iret hx hb hr (fun t ht hW => ⟨⟨_, (), rfl, rfl, by rw [ht]; exact hP, va_K.moved hW.alike hK, hD⟩, hS.F ht⟩) hS.2.2 dX5_takeWhole_10
def wsX5_readHouse : List Cond := .code yX5_readHouse cX5_readHouse 3 (some .boolean) :: W0
abbrev wX5_readHouse (cy : Nat → ClassId) (aR : Nat) (qR : Nat → Nat) (aH : Nat) (qH : Nat → Nat) (vR_j11 : Int64) (vR : Nat → Int32) (vR_tape : Nat → Int32) (vH : Nat → Int32) : va_W := [(aR, oX5 vR qR vR_j11 aH), (qR 0, rB cy 900 vR_tape), (aH, oX4 vH qH)]
set_option maxHeartbeats 4000000 in
set_option maxRecDepth 100000 in
theorem kX5_readHouse (l : Launch) (D : va_G) (cy : Nat → ClassId) (ad : (Nat → Nat) × (Nat → Nat)) (sz : Nat) (aR : Nat) (qR : Nat → Nat) (aH : Nat) (qH : Nat → Nat) (vR_j11 : Int64) (vR : Nat → Int32) (vR_tape : Nat → Int32) (vH : Nat → Int32) (zr : Int32) (z_vR_j11 : Int64) (z_vR : Nat → Int32) (z_vH : Nat → Int32) (hok : fX5_readHouse vR_j11 vR vR_tape vH = some (zr, z_vR_j11, z_vR, z_vH)) (A : Nat → Prop) (hAe : va_A (wX5_readHouse cy aR qR aH qH vR_j11 vR vR_tape vH) sz = A) : Met l yX5_readHouse wsX5_readHouse ({ frames := 6, cells := 0, slots := 0, locals := 129 } : Room) (kPreS D cy ad [.ref aR] (wX5_readHouse cy aR qR aH qH vR_j11 vR vR_tape vH) sz A) (kQi D cy zr A (wX5_readHouse cy aR qR aH qH z_vR_j11 z_vR vR_tape z_vH)) 0 0 A := by
  refine Met.ofW (cc := cX5_readHouse) (maxL := 3) (ret := (some .boolean)) (by decide) rfl ?_
  intro p e s m args below meth c s₁ B hml hv
  obtain ⟨rfl, ⟨hsz, hP, hK, hD0, hN⟩, hSt⟩ := hv
  have hx := B.exec
  have hb := B.bytes
  have hr := B.returns
  have ht0 : ∀ w ∈ W0, w.before _ s = true := fun w h => atoms_spec (ws := wsX5_readHouse) B.pre w (List.mem_cons_of_mem _ h)
  have hown : s.vm.findClass RX5 = some m.cls := findClass_of_methodNamed B.named
  have hlocks := B.notSynchronized
  subst hsz
  have hD : va_D A (wX5_readHouse cy aR qR aH qH vR_j11 vR vR_tape vH) := by rw [← hAe]; exact hD0.self
  have hA : ∀ q : Nat, s.heap.size ≤ q → A q := fun q h => by rw [← hAe]; exact Or.inr h
  have hS : va_S A s.heap s.heap [] := va_S.rf
  have hl := lv_entry ([.ref aR]) (n := 3) (Nat.le_of_ble_eq_true rfl)
  rw [lg_entry_eq]
  generalize (lg_sl ([.ref aR]) ++ List.replicate (3 - (lg_sl ([.ref aR])).length) Slot.unset).toArray = ls at hl ⊢
  have hl : lv_has ls 3 [(0, .ref aR)] := hl
  generalize hQe : MQ below (kQi D cy zr A (wX5_readHouse cy aR qR aH qH z_vR_j11 z_vR vR_tape z_vH)) ([.ref aR] : List Value).toArray s 0 0 A = Q
  have J48 : ∀ (vR_11_48 : Int64) (vR_48 : Nat → Int32), ∀ (H : Heap) (locs : List Loc) (ls : Array Slot), va_P D vwCl (wX5_readHouse cy aR qR aH qH vR_11_48 vR_48 vR_tape vH) H → va_D A (wX5_readHouse cy aR qR aH qH vR_11_48 vR_48 vR_tape vH) → va_S A s.heap H locs → lv_has ls 3 [] → fX5_readHouse_J48 vH vR_11_48 vR_48 = some (zr, z_vR_j11, z_vR, z_vH) → W p l e ({ frames := 6, cells := 0, slots := 0, locals := 129 } : Room) s m ([.ref aR] : List Value).toArray below meth c H locs 0 0 Q (F0 m 48 ls []) := by
    intro vR_11_48 vR_48 H locs ls hP hD hS hl hok
    unfold fX5_readHouse_J48 at hok
    refine lv_iconst (v := 0) hx hb dX5_readHouse_48 (by decide) ?_
    cases hok
    subst hQe; exact W.zret hx hb hr rfl (fun t ht hW => ⟨⟨_, (), rfl, rfl, by rw [ht]; exact hP, va_K.moved hW.alike hK, hD⟩, hS.F ht⟩) hS.2.2 dX5_readHouse_49
  unfold fX5_readHouse at hok
  obtain ⟨H, hH⟩ : ∃ H, H = s.heap := ⟨_, rfl⟩
  obtain ⟨locs, hlc⟩ : ∃ x : List Loc, x = [] := ⟨_, rfl⟩
  have hP : va_P D vwCl (wX5_readHouse cy aR qR aH qH vR_j11 vR vR_tape vH) H := by rw [hH]; exact hP
  have hS : va_S A s.heap H locs := by rw [hH, hlc]; exact hS
  rw [show W p l e _ s m _ below meth c s.heap [] = W p l e _ s m _ below meth c H locs from by rw [hH, hlc]]
  refine lv_aload_n hx hb dX5_readHouse_0 rfl (lv_at hl 0 rfl) ?_
  refine va_get (D := D) (ci := 4) (v := .int (vR 5)) (C := RX5) (T := TX5) (N := 13) hx hb ht0 niX5 hown hK hP 0 rfl rfl 5 (by decide) (ht0 _ wd340) (fun _ h9 => h9) rfl dX5_readHouse_1 ?_
  refine lv_if_eq (tgt := 13) hx hb dX5_readHouse_4 (by decide) (fun c4 => ?_) (fun c4 => ?_)
  · have hok := k_pos c4 hok
    refine lv_aload_n hx hb dX5_readHouse_13 rfl (lv_at hl 0 rfl) ?_
    obtain ⟨⟨vR_j11_14, vR_14⟩, hc14, hok⟩ := k_bind hok
    try dsimp only at hok
    refine kCv (wc := (wX5_step cy aR qR aH vR_j11 vR vR_tape)) (wc2 := (wX5_step cy aR qR aH vR_j11_14 vR_14 vR_tape)) (wr := [(aH, oX4 vH qH)]) (ws2 := (wX5_readHouse cy aR qR aH qH vR_j11_14 vR_14 vR_tape vH)) (kRunV (As := []) (rest := []) ⟨hx, hb, hml, hown, ht0⟩ (kX5_step l D cy _ aR qR aH vR_j11 vR vR_tape vR_j11_14 vR_14 hc14 _ rfl) (cwV 0 ht0 (gV wd328 wd329 wd330 wd276 wd331) rfl rfl rfl (by decide +kernel) ⟨Nat.le_of_ble_eq_true rfl, Nat.le_of_ble_eq_true rfl⟩) hK hN hP hD [0, 1] rfl (by decide) 0 4 rfl rfl rfl hl.1 rfl (Nat.le_of_ble_eq_true rfl) dX5_readHouse_14 ⟨Nat.zero_le _, Nat.zero_le _⟩) hP hD hS hA [0, 1] [2] rfl rfl (by decide) (by decide) [1, 2, 0] (by decide) rfl rfl (fun H locs hP hD hS => ?_)
    refine lv_aload_n hx hb dX5_readHouse_17 rfl (lv_at hl 0 rfl) ?_
    refine va_ldcS hx hb hown (hSt.2.1 _ (List.mem_of_getElem? (i := 9) rfl)) dX5_readHouse_18 ?_
    obtain ⟨⟨r20, vR_j11_20, vR_20⟩, hc20, hok⟩ := k_bind hok
    try dsimp only at hok
    refine kCi (wc := (wX5_passes cy aR qR aH vR_j11_14 vR_14 vR_tape)) (wc2 := (wX5_passes cy aR qR aH vR_j11_20 vR_20 vR_tape)) (wr := [(aH, oX4 vH qH)]) (ws2 := (wX5_readHouse cy aR qR aH qH vR_j11_20 vR_20 vR_tape vH)) (kRunVS (As := [.ref (ad.1 4)]) (rest := []) ⟨hx, hb, hml, hown, ht0⟩ (kX5_passes l D cy ad _ aR qR aH vR_j11_14 vR_14 vR_tape 4 r20 vR_j11_20 vR_20 hc20 _ rfl) (cwV 1 ht0 (gV wd341 wd342 wd343 wd276 wd344) rfl rfl rfl (by decide +kernel) ⟨Nat.le_of_ble_eq_true rfl, Nat.le_of_ble_eq_true rfl⟩) hK hN hP hD hSt hS hA [0, 1] rfl (by decide) 0 4 rfl rfl rfl hl.1 rfl (Nat.le_of_ble_eq_true rfl) dX5_readHouse_20 ⟨Nat.zero_le _, Nat.zero_le _⟩) hP hD hS hA [0, 1] [2] rfl rfl (by decide) (by decide) [1, 2, 0] (by decide) rfl rfl (fun H locs hP hD hS => ?_)
    refine lv_if_ne (tgt := 28) hx hb dX5_readHouse_23 (by decide) (fun c23 => ?_) (fun c23 => ?_)
    · have hok := k_neg c23 hok
      refine lv_aload_n hx hb dX5_readHouse_28 rfl (lv_at hl 0 rfl) ?_
      refine lv_iconst (v := 1) hx hb dX5_readHouse_29 (by decide) ?_
      refine lv_iconst (v := 5) hx hb dX5_readHouse_30 (by decide) ?_
      obtain ⟨⟨r31, vR_j11_31, vR_31⟩, hc31, hok⟩ := k_bind hok
      try dsimp only at hok
      refine kCi (wc := (wX5_takeWhole cy aR qR aH vR_j11_20 vR_20 vR_tape)) (wc2 := (wX5_takeWhole cy aR qR aH vR_j11_31 vR_31 vR_tape)) (wr := [(aH, oX4 vH qH)]) (ws2 := (wX5_readHouse cy aR qR aH qH vR_j11_31 vR_31 vR_tape vH)) (kRunV (As := [.int 1, .int 5]) (rest := []) ⟨hx, hb, hml, hown, ht0⟩ (kX5_takeWhole l D cy _ aR qR aH vR_j11_20 vR_20 vR_tape (1 : Int32) (5 : Int32) r31 vR_j11_31 vR_31 hc31 _ rfl) (cwV 2 ht0 (gV wd345 wd346 wd347 wd276 wd348) rfl rfl rfl (by decide +kernel) ⟨Nat.le_of_ble_eq_true rfl, Nat.le_of_ble_eq_true rfl⟩) hK hN hP hD [0, 1] rfl (by decide) 0 4 rfl rfl rfl hl.1 rfl (Nat.le_of_ble_eq_true rfl) dX5_readHouse_31 ⟨Nat.zero_le _, Nat.zero_le _⟩) hP hD hS hA [0, 1] [2] rfl rfl (by decide) (by decide) [1, 2, 0] (by decide) rfl rfl (fun H locs hP hD hS => ?_)
      refine lv_istore_n (lv' := [(1, .int r31), (0, .ref aR)]) hx hb dX5_readHouse_34 rfl hl (by decide) rfl (fun ls hl => ?_)
      refine lv_iload_n hx hb dX5_readHouse_35 rfl (lv_at hl 0 rfl) ?_
      refine lv_if_lt (tgt := 48) hx hb dX5_readHouse_36 (by decide) (fun c36 => ?_) (fun c36 => ?_)
      · have hok := k_pos c36 hok
        exact J48 vR_j11_31 vR_31 H locs ls hP hD hS (lv_sub hl [] rfl) hok
      · have hok := k_neg c36 hok
        refine lv_aload_n hx hb dX5_readHouse_39 rfl (lv_at hl 1 rfl) ?_
        refine va_ldcS hx hb hown (hSt.2.1 _ (List.mem_of_getElem? (i := 14) rfl)) dX5_readHouse_40 ?_
        obtain ⟨⟨r42, vR_j11_42, vR_42⟩, hc42, hok⟩ := k_bind hok
        try dsimp only at hok
        refine kCi (wc := (wX5_passes cy aR qR aH vR_j11_31 vR_31 vR_tape)) (wc2 := (wX5_passes cy aR qR aH vR_j11_42 vR_42 vR_tape)) (wr := [(aH, oX4 vH qH)]) (ws2 := (wX5_readHouse cy aR qR aH qH vR_j11_42 vR_42 vR_tape vH)) (kRunVS (As := [.ref (ad.1 5)]) (rest := []) ⟨hx, hb, hml, hown, ht0⟩ (kX5_passes l D cy ad _ aR qR aH vR_j11_31 vR_31 vR_tape 5 r42 vR_j11_42 vR_42 hc42 _ rfl) (cwV 1 ht0 (gV wd341 wd342 wd343 wd276 wd344) rfl rfl rfl (by decide +kernel) ⟨Nat.le_of_ble_eq_true rfl, Nat.le_of_ble_eq_true rfl⟩) hK hN hP hD hSt hS hA [0, 1] rfl (by decide) 0 4 rfl rfl rfl hl.1 rfl (Nat.le_of_ble_eq_true rfl) dX5_readHouse_42 ⟨Nat.zero_le _, Nat.zero_le _⟩) hP hD hS hA [0, 1] [2] rfl rfl (by decide) (by decide) [1, 2, 0] (by decide) rfl rfl (fun H locs hP hD hS => ?_)
        refine lv_if_ne (tgt := 50) hx hb dX5_readHouse_45 (by decide) (fun c45 => ?_) (fun c45 => ?_)
        · have hok := k_neg c45 hok
          refine lv_aload_n hx hb dX5_readHouse_50 rfl (lv_at hl 1 rfl) ?_
          refine lv_iconst (v := 0) hx hb dX5_readHouse_51 (by decide) ?_
          refine lv_bipush (v := 100) hx hb dX5_readHouse_52 (by decide) ?_
          obtain ⟨⟨r54, vR_j11_54, vR_54⟩, hc54, hok⟩ := k_bind hok
          try dsimp only at hok
          refine kCi (wc := (wX5_takeWhole cy aR qR aH vR_j11_42 vR_42 vR_tape)) (wc2 := (wX5_takeWhole cy aR qR aH vR_j11_54 vR_54 vR_tape)) (wr := [(aH, oX4 vH qH)]) (ws2 := (wX5_readHouse cy aR qR aH qH vR_j11_54 vR_54 vR_tape vH)) (kRunV (As := [.int 0, .int 100]) (rest := []) ⟨hx, hb, hml, hown, ht0⟩ (kX5_takeWhole l D cy _ aR qR aH vR_j11_42 vR_42 vR_tape (0 : Int32) (100 : Int32) r54 vR_j11_54 vR_54 hc54 _ rfl) (cwV 2 ht0 (gV wd345 wd346 wd347 wd276 wd348) rfl rfl rfl (by decide +kernel) ⟨Nat.le_of_ble_eq_true rfl, Nat.le_of_ble_eq_true rfl⟩) hK hN hP hD [0, 1] rfl (by decide) 0 4 rfl rfl rfl hl.1 rfl (Nat.le_of_ble_eq_true rfl) dX5_readHouse_54 ⟨Nat.zero_le _, Nat.zero_le _⟩) hP hD hS hA [0, 1] [2] rfl rfl (by decide) (by decide) [1, 2, 0] (by decide) rfl rfl (fun H locs hP hD hS => ?_)
          refine lv_istore_n (lv' := [(2, .int r54), (1, .int r31), (0, .ref aR)]) hx hb dX5_readHouse_57 rfl hl (by decide) rfl (fun ls hl => ?_)
          refine lv_iload_n hx hb dX5_readHouse_58 rfl (lv_at hl 0 rfl) ?_
          refine lv_if_ge (tgt := 64) hx hb dX5_readHouse_59 (by decide) (fun c59 => ?_) (fun c59 => ?_)
          · have hok := k_pos c59 hok
            refine lv_aload_n hx hb dX5_readHouse_64 rfl (lv_at hl 2 rfl) ?_
            refine va_get (D := D) (ci := 4) (v := .ref aH) (C := RX5) (T := TX5) (N := 13) hx hb ht0 niX5 hown hK hP 0 rfl rfl 2 (by decide) (ht0 _ wd266) (fun _ h9 => h9) rfl dX5_readHouse_65 ?_
            refine lv_iload_n hx hb dX5_readHouse_68 rfl (lv_at hl 1 rfl) ?_
            refine va_put (D := D) (ci := 3) (v := .int r31) (ty := .int) (C := RX4) (T := TX4) (N := 20) hx hb ht0 niX4 tyX4 tyX4_ok nmX4 hown hK hP hD hS 2 rfl rfl 0 (by decide) (ht0 _ wd349) (fun _ h9 => h9) rfl (by decide +kernel) rfl rfl (Nat.le_of_ble_eq_true rfl) dX5_readHouse_69 (fun H locs hP hD hS => ?_)
            have hP : va_P D vwCl (wX5_readHouse cy aR qR aH qH vR_j11_54 vR_54 vR_tape (upd vH 0 r31)) H := hP
            have hD : va_D A (wX5_readHouse cy aR qR aH qH vR_j11_54 vR_54 vR_tape (upd vH 0 r31)) := hD
            refine lv_aload_n hx hb dX5_readHouse_72 rfl (lv_at hl 2 rfl) ?_
            refine va_get (D := D) (ci := 4) (v := .ref aH) (C := RX5) (T := TX5) (N := 13) hx hb ht0 niX5 hown hK hP 0 rfl rfl 2 (by decide) (ht0 _ wd266) (fun _ h9 => h9) rfl dX5_readHouse_73 ?_
            refine lv_iload_n hx hb dX5_readHouse_76 rfl (lv_at hl 0 rfl) ?_
            refine va_put (D := D) (ci := 3) (v := .int r54) (ty := .int) (C := RX4) (T := TX4) (N := 20) hx hb ht0 niX4 tyX4 tyX4_ok nmX4 hown hK hP hD hS 2 rfl rfl 1 (by decide) (ht0 _ wd350) (fun _ h9 => h9) rfl (by decide +kernel) rfl rfl (Nat.le_of_ble_eq_true rfl) dX5_readHouse_77 (fun H locs hP hD hS => ?_)
            have hP : va_P D vwCl (wX5_readHouse cy aR qR aH qH vR_j11_54 vR_54 vR_tape (upd (upd vH 0 r31) 1 r54)) H := hP
            have hD : va_D A (wX5_readHouse cy aR qR aH qH vR_j11_54 vR_54 vR_tape (upd (upd vH 0 r31) 1 r54)) := hD
            refine lv_aload_n hx hb dX5_readHouse_80 rfl (lv_at hl 2 rfl) ?_
            refine lv_iconst (v := 1) hx hb dX5_readHouse_81 (by decide) ?_
            refine va_put (D := D) (ci := 4) (v := .int 1) (ty := .boolean) (C := RX5) (T := TX5) (N := 13) hx hb ht0 niX5 tyX5 tyX5_ok nmX5 hown hK hP hD hS 0 rfl rfl 5 (by decide) (ht0 _ wd340) (fun _ h9 => h9) rfl (by decide +kernel) rfl rfl (Nat.le_of_ble_eq_true rfl) dX5_readHouse_82 (fun H locs hP hD hS => ?_)
            have hP : va_P D vwCl (wX5_readHouse cy aR qR aH qH vR_j11_54 (upd vR_54 5 (1 : Int32)) vR_tape (upd (upd vH 0 r31) 1 r54)) H := hP
            have hD : va_D A (wX5_readHouse cy aR qR aH qH vR_j11_54 (upd vR_54 5 (1 : Int32)) vR_tape (upd (upd vH 0 r31) 1 r54)) := hD
            refine lv_iconst (v := 1) hx hb dX5_readHouse_85 (by decide) ?_
            cases hok
            subst hQe; exact W.zret hx hb hr rfl (fun t ht hW => ⟨⟨_, (), rfl, rfl, by rw [ht]; exact hP, va_K.moved hW.alike hK, hD⟩, hS.F ht⟩) hS.2.2 dX5_readHouse_86
          · have hok := k_neg c59 hok
            refine lv_iconst (v := 0) hx hb dX5_readHouse_62 (by decide) ?_
            cases hok
            subst hQe; exact W.zret hx hb hr rfl (fun t ht hW => ⟨⟨_, (), rfl, rfl, by rw [ht]; exact hP, va_K.moved hW.alike hK, hD⟩, hS.F ht⟩) hS.2.2 dX5_readHouse_63
        · have hok := k_pos c45 hok
          exact J48 vR_j11_42 vR_42 H locs ls hP hD hS (lv_sub hl [] rfl) hok
    · have hok := k_pos c23 hok
      refine lv_iconst (v := 0) hx hb dX5_readHouse_26 (by decide) ?_
      cases hok
      subst hQe; exact W.zret hx hb hr rfl (fun t ht hW => ⟨⟨_, (), rfl, rfl, by rw [ht]; exact hP, va_K.moved hW.alike hK, hD⟩, hS.F ht⟩) hS.2.2 dX5_readHouse_27
  · have hok := k_neg c4 hok
    refine lv_aload_n hx hb dX5_readHouse_7 rfl (lv_at hl 0 rfl) ?_
    refine lv_iconst (v := 3) hx hb dX5_readHouse_8 (by decide) ?_
    obtain ⟨⟨r9, vR_9⟩, hc9, hok⟩ := k_bind hok
    try dsimp only at hok
    refine kCi (wc := (wX5_fails cy aR qR aH vR_j11 vR)) (wc2 := (wX5_fails cy aR qR aH vR_j11 vR_9)) (wr := [(qR 0, rB cy 900 vR_tape), (aH, oX4 vH qH)]) (ws2 := (wX5_readHouse cy aR qR aH qH vR_j11 vR_9 vR_tape vH)) (kRunV (As := [.int 3]) (rest := []) ⟨hx, hb, hml, hown, ht0⟩ (kX5_fails l D cy _ aR qR aH vR_j11 vR (3 : Int32) r9 vR_9 hc9 _ rfl) (cwV 1 ht0 (gV wd332 wd333 wd334 wd276 wd335) rfl rfl rfl (by decide +kernel) ⟨Nat.le_of_ble_eq_true rfl, Nat.le_of_ble_eq_true rfl⟩) hK hN hP hD [0] rfl (by decide) 0 4 rfl rfl rfl hl.1 rfl (Nat.le_of_ble_eq_true rfl) dX5_readHouse_9 ⟨Nat.zero_le _, Nat.zero_le _⟩) hP hD hS hA [0] [1, 2] rfl rfl (by decide) (by decide) [2, 0, 1] (by decide) rfl rfl (fun H locs hP hD hS => ?_)
    obtain ⟨g12, hok⟩ := gd_some hok
    cases hok
    subst hQe; exact W.zret hx hb hr (isB_nar g12) (fun t ht hW => ⟨⟨_, (), rfl, rfl, by rw [ht]; exact hP, va_K.moved hW.alike hK, hD⟩, hS.F ht⟩) hS.2.2 dX5_readHouse_12
def wsX5_isName : List Cond := .code yX5_isName cX5_isName 3 (some .boolean) :: W0
abbrev wX5_isName (cy : Nat → ClassId) (aR : Nat) (qR : Nat → Nat) (aH : Nat) (vR_j11 : Int64) (vR : Nat → Int32) (vR_tape : Nat → Int32) : va_W := [(aR, oX5 vR qR vR_j11 aH), (qR 0, rB cy 900 vR_tape)]
set_option maxHeartbeats 4000000 in
set_option maxRecDepth 100000 in
theorem kX5_isName (l : Launch) (D : va_G) (cy : Nat → ClassId) (ad : (Nat → Nat) × (Nat → Nat)) (sz : Nat) (aR : Nat) (qR : Nat → Nat) (aH : Nat) (vR_j11 : Int64) (vR : Nat → Int32) (vR_tape : Nat → Int32) (zr : Int32) (hok : fX5_isName vR_j11 vR vR_tape = some zr) (A : Nat → Prop) (hAe : va_A (wX5_isName cy aR qR aH vR_j11 vR vR_tape) sz = A) : Met l yX5_isName wsX5_isName ({ frames := 5, cells := 0, slots := 0, locals := 108 } : Room) (kPreS D cy ad [.ref aR] (wX5_isName cy aR qR aH vR_j11 vR vR_tape) sz A) (kQi D cy zr A (wX5_isName cy aR qR aH vR_j11 vR vR_tape)) 0 0 A := by
  refine Met.ofW (cc := cX5_isName) (maxL := 3) (ret := (some .boolean)) (by decide) rfl ?_
  intro p e s m args below meth c s₁ B hml hv
  obtain ⟨rfl, ⟨hsz, hP, hK, hD0, hN⟩, hSt⟩ := hv
  have hx := B.exec
  have hb := B.bytes
  have hr := B.returns
  have ht0 : ∀ w ∈ W0, w.before _ s = true := fun w h => atoms_spec (ws := wsX5_isName) B.pre w (List.mem_cons_of_mem _ h)
  have hown : s.vm.findClass RX5 = some m.cls := findClass_of_methodNamed B.named
  have hlocks := B.notSynchronized
  subst hsz
  have hD : va_D A (wX5_isName cy aR qR aH vR_j11 vR vR_tape) := by rw [← hAe]; exact hD0.self
  have hA : ∀ q : Nat, s.heap.size ≤ q → A q := fun q h => by rw [← hAe]; exact Or.inr h
  have hS : va_S A s.heap s.heap [] := va_S.rf
  have hl := lv_entry ([.ref aR]) (n := 3) (Nat.le_of_ble_eq_true rfl)
  rw [lg_entry_eq]
  generalize (lg_sl ([.ref aR]) ++ List.replicate (3 - (lg_sl ([.ref aR])).length) Slot.unset).toArray = ls at hl ⊢
  have hl : lv_has ls 3 [(0, .ref aR)] := hl
  generalize hQe : MQ below (kQi D cy zr A (wX5_isName cy aR qR aH vR_j11 vR vR_tape)) ([.ref aR] : List Value).toArray s 0 0 A = Q
  have J105 : ∀ (t0_105 : Int32), ∀ (H : Heap) (locs : List Loc) (ls : Array Slot), va_P D vwCl (wX5_isName cy aR qR aH vR_j11 vR vR_tape) H → va_D A (wX5_isName cy aR qR aH vR_j11 vR vR_tape) → va_S A s.heap H locs → lv_has ls 3 [] → fX5_isName_J105 t0_105 = some zr → W p l e ({ frames := 5, cells := 0, slots := 0, locals := 108 } : Room) s m ([.ref aR] : List Value).toArray below meth c H locs 0 0 Q (F0 m 105 ls [.int t0_105]) := by
    intro t0_105 H locs ls hP hD hS hl hok
    unfold fX5_isName_J105 at hok
    obtain ⟨g105, hok⟩ := gd_some hok
    cases hok
    subst hQe; exact W.zret hx hb hr (isB_nar g105) (fun t ht hW => ⟨⟨_, (), rfl, rfl, by rw [ht]; exact hP, va_K.moved hW.alike hK, hD⟩, hS.F ht⟩) hS.2.2 dX5_isName_105
  have J104 : ∀ (H : Heap) (locs : List Loc) (ls : Array Slot), va_P D vwCl (wX5_isName cy aR qR aH vR_j11 vR vR_tape) H → va_D A (wX5_isName cy aR qR aH vR_j11 vR vR_tape) → va_S A s.heap H locs → lv_has ls 3 [] → fX5_isName_J104 = some zr → W p l e ({ frames := 5, cells := 0, slots := 0, locals := 108 } : Room) s m ([.ref aR] : List Value).toArray below meth c H locs 0 0 Q (F0 m 104 ls []) := by
    intro  H locs ls hP hD hS hl hok
    unfold fX5_isName_J104 at hok
    refine lv_iconst (v := 0) hx hb dX5_isName_104 (by decide) ?_
    exact J105 (0 : Int32) H locs ls hP hD hS (lv_sub hl [] rfl) hok
  have J83 : ∀ (y1_83 : Int32) (t0_83 : Int32), ∀ (H : Heap) (locs : List Loc) (ls : Array Slot), va_P D vwCl (wX5_isName cy aR qR aH vR_j11 vR vR_tape) H → va_D A (wX5_isName cy aR qR aH vR_j11 vR vR_tape) → va_S A s.heap H locs → lv_has ls 3 [(0, .ref aR), (1, .int y1_83)] → fX5_isName_J83 vR y1_83 t0_83 = some zr → W p l e ({ frames := 5, cells := 0, slots := 0, locals := 108 } : Room) s m ([.ref aR] : List Value).toArray below meth c H locs 0 0 Q (F0 m 83 ls [.int t0_83]) := by
    intro y1_83 t0_83 H locs ls hP hD hS hl hok
    unfold fX5_isName_J83 at hok
    refine lv_istore_n (lv' := [(2, .int t0_83), (0, .ref aR), (1, .int y1_83)]) hx hb dX5_isName_83 rfl hl (by decide) rfl (fun ls hl => ?_)
    refine lv_aload_n hx hb dX5_isName_84 rfl (lv_at hl 1 rfl) ?_
    refine va_get (D := D) (ci := 4) (v := .int (vR 7)) (C := RX5) (T := TX5) (N := 13) hx hb ht0 niX5 hown hK hP 0 rfl rfl 7 (by decide) (ht0 _ wd269) (fun _ h9 => h9) rfl dX5_isName_85 ?_
    refine lv_iconst (v := 1) hx hb dX5_isName_88 (by decide) ?_
    refine lv_icmp_ne (tgt := 104) hx hb dX5_isName_89 (by decide) (fun c89 => ?_) (fun c89 => ?_)
    · have hok := k_neg c89 hok
      exact J104  H locs ls hP hD hS (lv_sub hl [] rfl) hok
    · have hok := k_pos c89 hok
      refine lv_iload_n hx hb dX5_isName_92 rfl (lv_at hl 2 rfl) ?_
      refine lv_if_ne (tgt := 104) hx hb dX5_isName_93 (by decide) (fun c93 => ?_) (fun c93 => ?_)
      · have hok := k_neg c93 hok
        exact J104  H locs ls hP hD hS (lv_sub hl [] rfl) hok
      · have hok := k_pos c93 hok
        refine lv_iload_n hx hb dX5_isName_96 rfl (lv_at hl 0 rfl) ?_
        refine lv_if_ne (tgt := 104) hx hb dX5_isName_97 (by decide) (fun c97 => ?_) (fun c97 => ?_)
        · have hok := k_neg c97 hok
          exact J104  H locs ls hP hD hS (lv_sub hl [] rfl) hok
        · have hok := k_pos c97 hok
          refine lv_iconst (v := 1) hx hb dX5_isName_100 (by decide) ?_
          refine lv_goto (tgt := 105) hx hb dX5_isName_101 (by decide) ?_
          exact J105 (1 : Int32) H locs ls hP hD hS (lv_sub hl [] rfl) hok
  have J78 : ∀ (y1_78 : Int32), ∀ (H : Heap) (locs : List Loc) (ls : Array Slot), va_P D vwCl (wX5_isName cy aR qR aH vR_j11 vR vR_tape) H → va_D A (wX5_isName cy aR qR aH vR_j11 vR vR_tape) → va_S A s.heap H locs → lv_has ls 3 [(0, .ref aR), (1, .int y1_78)] → fX5_isName_J78 vR y1_78 = some zr → W p l e ({ frames := 5, cells := 0, slots := 0, locals := 108 } : Room) s m ([.ref aR] : List Value).toArray below meth c H locs 0 0 Q (F0 m 78 ls []) := by
    intro y1_78 H locs ls hP hD hS hl hok
    unfold fX5_isName_J78 at hok
    refine lv_iconst (v := 1) hx hb dX5_isName_78 (by decide) ?_
    refine lv_goto (tgt := 83) hx hb dX5_isName_79 (by decide) ?_
    exact J83 y1_78 (1 : Int32) H locs ls hP hD hS (lv_sub hl [0, 1] rfl) hok
  have J41 : ∀ (t0_41 : Int32), ∀ (H : Heap) (locs : List Loc) (ls : Array Slot), va_P D vwCl (wX5_isName cy aR qR aH vR_j11 vR vR_tape) H → va_D A (wX5_isName cy aR qR aH vR_j11 vR vR_tape) → va_S A s.heap H locs → lv_has ls 3 [(0, .ref aR)] → fX5_isName_J41 vR_j11 vR vR_tape t0_41 = some zr → W p l e ({ frames := 5, cells := 0, slots := 0, locals := 108 } : Room) s m ([.ref aR] : List Value).toArray below meth c H locs 0 0 Q (F0 m 41 ls [.int t0_41]) := by
    intro t0_41 H locs ls hP hD hS hl hok
    unfold fX5_isName_J41 at hok
    refine lv_istore_n (lv' := [(1, .int t0_41), (0, .ref aR)]) hx hb dX5_isName_41 rfl hl (by decide) rfl (fun ls hl => ?_)
    refine lv_aload_n hx hb dX5_isName_42 rfl (lv_at hl 1 rfl) ?_
    refine va_ldcS hx hb hown (hSt.2.1 _ (List.mem_of_getElem? (i := 4) rfl)) dX5_isName_43 ?_
    obtain ⟨r45, hc45, hok⟩ := k_bind hok
    refine kCi (wc := (wX5_says cy aR qR aH vR_j11 vR vR_tape)) (wc2 := (wX5_says cy aR qR aH vR_j11 vR vR_tape)) (wr := []) (ws2 := (wX5_isName cy aR qR aH vR_j11 vR vR_tape)) (kRunVS (As := [.ref (ad.1 20)]) (rest := []) ⟨hx, hb, hml, hown, ht0⟩ (kX5_says l D cy ad _ aR qR aH vR_j11 vR vR_tape 20 r45 hc45 _ rfl) (cwV 1 ht0 (gV wd324 wd325 wd326 wd276 wd327) rfl rfl rfl (by decide +kernel) ⟨Nat.le_of_ble_eq_true rfl, Nat.le_of_ble_eq_true rfl⟩) hK hN hP hD hSt hS hA [0, 1] rfl (by decide) 0 4 rfl rfl rfl hl.1 rfl (Nat.le_of_ble_eq_true rfl) dX5_isName_45 ⟨Nat.zero_le _, Nat.zero_le _⟩) hP hD hS hA [0, 1] [] rfl rfl (by decide) (by decide) [0, 1] (by decide) rfl rfl (fun H locs hP hD hS => ?_)
    refine lv_if_ne (tgt := 78) hx hb dX5_isName_48 (by decide) (fun c48 => ?_) (fun c48 => ?_)
    · have hok := k_neg c48 hok
      exact J78 t0_41 H locs ls hP hD hS (lv_sub hl [1, 0] rfl) hok
    · have hok := k_pos c48 hok
      refine lv_aload_n hx hb dX5_isName_51 rfl (lv_at hl 1 rfl) ?_
      refine va_ldcS hx hb hown (hSt.2.1 _ (List.mem_of_getElem? (i := 5) rfl)) dX5_isName_52 ?_
      obtain ⟨r54, hc54, hok⟩ := k_bind hok
      refine kCi (wc := (wX5_says cy aR qR aH vR_j11 vR vR_tape)) (wc2 := (wX5_says cy aR qR aH vR_j11 vR vR_tape)) (wr := []) (ws2 := (wX5_isName cy aR qR aH vR_j11 vR vR_tape)) (kRunVS (As := [.ref (ad.1 21)]) (rest := []) ⟨hx, hb, hml, hown, ht0⟩ (kX5_says l D cy ad _ aR qR aH vR_j11 vR vR_tape 21 r54 hc54 _ rfl) (cwV 1 ht0 (gV wd324 wd325 wd326 wd276 wd327) rfl rfl rfl (by decide +kernel) ⟨Nat.le_of_ble_eq_true rfl, Nat.le_of_ble_eq_true rfl⟩) hK hN hP hD hSt hS hA [0, 1] rfl (by decide) 0 4 rfl rfl rfl hl.1 rfl (Nat.le_of_ble_eq_true rfl) dX5_isName_54 ⟨Nat.zero_le _, Nat.zero_le _⟩) hP hD hS hA [0, 1] [] rfl rfl (by decide) (by decide) [0, 1] (by decide) rfl rfl (fun H locs hP hD hS => ?_)
      refine lv_if_ne (tgt := 78) hx hb dX5_isName_57 (by decide) (fun c57 => ?_) (fun c57 => ?_)
      · have hok := k_neg c57 hok
        exact J78 t0_41 H locs ls hP hD hS (lv_sub hl [1, 0] rfl) hok
      · have hok := k_pos c57 hok
        refine lv_aload_n hx hb dX5_isName_60 rfl (lv_at hl 1 rfl) ?_
        refine va_ldcS hx hb hown (hSt.2.1 _ (List.mem_of_getElem? (i := 6) rfl)) dX5_isName_61 ?_
        obtain ⟨r63, hc63, hok⟩ := k_bind hok
        refine kCi (wc := (wX5_says cy aR qR aH vR_j11 vR vR_tape)) (wc2 := (wX5_says cy aR qR aH vR_j11 vR vR_tape)) (wr := []) (ws2 := (wX5_isName cy aR qR aH vR_j11 vR vR_tape)) (kRunVS (As := [.ref (ad.1 7)]) (rest := []) ⟨hx, hb, hml, hown, ht0⟩ (kX5_says l D cy ad _ aR qR aH vR_j11 vR vR_tape 7 r63 hc63 _ rfl) (cwV 1 ht0 (gV wd324 wd325 wd326 wd276 wd327) rfl rfl rfl (by decide +kernel) ⟨Nat.le_of_ble_eq_true rfl, Nat.le_of_ble_eq_true rfl⟩) hK hN hP hD hSt hS hA [0, 1] rfl (by decide) 0 4 rfl rfl rfl hl.1 rfl (Nat.le_of_ble_eq_true rfl) dX5_isName_63 ⟨Nat.zero_le _, Nat.zero_le _⟩) hP hD hS hA [0, 1] [] rfl rfl (by decide) (by decide) [0, 1] (by decide) rfl rfl (fun H locs hP hD hS => ?_)
        refine lv_if_ne (tgt := 78) hx hb dX5_isName_66 (by decide) (fun c66 => ?_) (fun c66 => ?_)
        · have hok := k_neg c66 hok
          exact J78 t0_41 H locs ls hP hD hS (lv_sub hl [1, 0] rfl) hok
        · have hok := k_pos c66 hok
          refine lv_aload_n hx hb dX5_isName_69 rfl (lv_at hl 1 rfl) ?_
          refine va_ldcS hx hb hown (hSt.2.1 _ (List.mem_of_getElem? (i := 7) rfl)) dX5_isName_70 ?_
          obtain ⟨r72, hc72, hok⟩ := k_bind hok
          refine kCi (wc := (wX5_says cy aR qR aH vR_j11 vR vR_tape)) (wc2 := (wX5_says cy aR qR aH vR_j11 vR vR_tape)) (wr := []) (ws2 := (wX5_isName cy aR qR aH vR_j11 vR vR_tape)) (kRunVS (As := [.ref (ad.1 10)]) (rest := []) ⟨hx, hb, hml, hown, ht0⟩ (kX5_says l D cy ad _ aR qR aH vR_j11 vR vR_tape 10 r72 hc72 _ rfl) (cwV 1 ht0 (gV wd324 wd325 wd326 wd276 wd327) rfl rfl rfl (by decide +kernel) ⟨Nat.le_of_ble_eq_true rfl, Nat.le_of_ble_eq_true rfl⟩) hK hN hP hD hSt hS hA [0, 1] rfl (by decide) 0 4 rfl rfl rfl hl.1 rfl (Nat.le_of_ble_eq_true rfl) dX5_isName_72 ⟨Nat.zero_le _, Nat.zero_le _⟩) hP hD hS hA [0, 1] [] rfl rfl (by decide) (by decide) [0, 1] (by decide) rfl rfl (fun H locs hP hD hS => ?_)
          refine lv_if_eq (tgt := 82) hx hb dX5_isName_75 (by decide) (fun c75 => ?_) (fun c75 => ?_)
          · have hok := k_pos c75 hok
            refine lv_iconst (v := 0) hx hb dX5_isName_82 (by decide) ?_
            exact J83 t0_41 (0 : Int32) H locs ls hP hD hS (lv_sub hl [1, 0] rfl) hok
          · have hok := k_neg c75 hok
            exact J78 t0_41 H locs ls hP hD hS (lv_sub hl [1, 0] rfl) hok
  have J36 : ∀ (H : Heap) (locs : List Loc) (ls : Array Slot), va_P D vwCl (wX5_isName cy aR qR aH vR_j11 vR vR_tape) H → va_D A (wX5_isName cy aR qR aH vR_j11 vR vR_tape) → va_S A s.heap H locs → lv_has ls 3 [(0, .ref aR)] → fX5_isName_J36 vR_j11 vR vR_tape = some zr → W p l e ({ frames := 5, cells := 0, slots := 0, locals := 108 } : Room) s m ([.ref aR] : List Value).toArray below meth c H locs 0 0 Q (F0 m 36 ls []) := by
    intro  H locs ls hP hD hS hl hok
    unfold fX5_isName_J36 at hok
    refine lv_iconst (v := 1) hx hb dX5_isName_36 (by decide) ?_
    refine lv_goto (tgt := 41) hx hb dX5_isName_37 (by decide) ?_
    exact J41 (1 : Int32) H locs ls hP hD hS (lv_sub hl [0] rfl) hok
  unfold fX5_isName at hok
  obtain ⟨H, hH⟩ : ∃ H, H = s.heap := ⟨_, rfl⟩
  obtain ⟨locs, hlc⟩ : ∃ x : List Loc, x = [] := ⟨_, rfl⟩
  have hP : va_P D vwCl (wX5_isName cy aR qR aH vR_j11 vR vR_tape) H := by rw [hH]; exact hP
  have hS : va_S A s.heap H locs := by rw [hH, hlc]; exact hS
  rw [show W p l e _ s m _ below meth c s.heap [] = W p l e _ s m _ below meth c H locs from by rw [hH, hlc]]
  refine lv_aload_n hx hb dX5_isName_0 rfl (lv_at hl 0 rfl) ?_
  refine va_ldcS hx hb hown (hSt.2.1 _ (List.mem_of_getElem? (i := 0) rfl)) dX5_isName_1 ?_
  obtain ⟨r3, hc3, hok⟩ := k_bind hok
  refine kCi (wc := (wX5_says cy aR qR aH vR_j11 vR vR_tape)) (wc2 := (wX5_says cy aR qR aH vR_j11 vR vR_tape)) (wr := []) (ws2 := (wX5_isName cy aR qR aH vR_j11 vR vR_tape)) (kRunVS (As := [.ref (ad.1 8)]) (rest := []) ⟨hx, hb, hml, hown, ht0⟩ (kX5_says l D cy ad _ aR qR aH vR_j11 vR vR_tape 8 r3 hc3 _ rfl) (cwV 1 ht0 (gV wd324 wd325 wd326 wd276 wd327) rfl rfl rfl (by decide +kernel) ⟨Nat.le_of_ble_eq_true rfl, Nat.le_of_ble_eq_true rfl⟩) hK hN hP hD hSt hS hA [0, 1] rfl (by decide) 0 4 rfl rfl rfl hl.1 rfl (Nat.le_of_ble_eq_true rfl) dX5_isName_3 ⟨Nat.zero_le _, Nat.zero_le _⟩) hP hD hS hA [0, 1] [] rfl rfl (by decide) (by decide) [0, 1] (by decide) rfl rfl (fun H locs hP hD hS => ?_)
  refine lv_if_ne (tgt := 36) hx hb dX5_isName_6 (by decide) (fun c6 => ?_) (fun c6 => ?_)
  · have hok := k_neg c6 hok
    exact J36  H locs ls hP hD hS (lv_sub hl [0] rfl) hok
  · have hok := k_pos c6 hok
    refine lv_aload_n hx hb dX5_isName_9 rfl (lv_at hl 0 rfl) ?_
    refine va_ldcS hx hb hown (hSt.2.1 _ (List.mem_of_getElem? (i := 1) rfl)) dX5_isName_10 ?_
    obtain ⟨r12, hc12, hok⟩ := k_bind hok
    refine kCi (wc := (wX5_says cy aR qR aH vR_j11 vR vR_tape)) (wc2 := (wX5_says cy aR qR aH vR_j11 vR vR_tape)) (wr := []) (ws2 := (wX5_isName cy aR qR aH vR_j11 vR vR_tape)) (kRunVS (As := [.ref (ad.1 18)]) (rest := []) ⟨hx, hb, hml, hown, ht0⟩ (kX5_says l D cy ad _ aR qR aH vR_j11 vR vR_tape 18 r12 hc12 _ rfl) (cwV 1 ht0 (gV wd324 wd325 wd326 wd276 wd327) rfl rfl rfl (by decide +kernel) ⟨Nat.le_of_ble_eq_true rfl, Nat.le_of_ble_eq_true rfl⟩) hK hN hP hD hSt hS hA [0, 1] rfl (by decide) 0 4 rfl rfl rfl hl.1 rfl (Nat.le_of_ble_eq_true rfl) dX5_isName_12 ⟨Nat.zero_le _, Nat.zero_le _⟩) hP hD hS hA [0, 1] [] rfl rfl (by decide) (by decide) [0, 1] (by decide) rfl rfl (fun H locs hP hD hS => ?_)
    refine lv_if_ne (tgt := 36) hx hb dX5_isName_15 (by decide) (fun c15 => ?_) (fun c15 => ?_)
    · have hok := k_neg c15 hok
      exact J36  H locs ls hP hD hS (lv_sub hl [0] rfl) hok
    · have hok := k_pos c15 hok
      refine lv_aload_n hx hb dX5_isName_18 rfl (lv_at hl 0 rfl) ?_
      refine va_ldcS hx hb hown (hSt.2.1 _ (List.mem_of_getElem? (i := 2) rfl)) dX5_isName_19 ?_
      obtain ⟨r21, hc21, hok⟩ := k_bind hok
      refine kCi (wc := (wX5_says cy aR qR aH vR_j11 vR vR_tape)) (wc2 := (wX5_says cy aR qR aH vR_j11 vR vR_tape)) (wr := []) (ws2 := (wX5_isName cy aR qR aH vR_j11 vR vR_tape)) (kRunVS (As := [.ref (ad.1 11)]) (rest := []) ⟨hx, hb, hml, hown, ht0⟩ (kX5_says l D cy ad _ aR qR aH vR_j11 vR vR_tape 11 r21 hc21 _ rfl) (cwV 1 ht0 (gV wd324 wd325 wd326 wd276 wd327) rfl rfl rfl (by decide +kernel) ⟨Nat.le_of_ble_eq_true rfl, Nat.le_of_ble_eq_true rfl⟩) hK hN hP hD hSt hS hA [0, 1] rfl (by decide) 0 4 rfl rfl rfl hl.1 rfl (Nat.le_of_ble_eq_true rfl) dX5_isName_21 ⟨Nat.zero_le _, Nat.zero_le _⟩) hP hD hS hA [0, 1] [] rfl rfl (by decide) (by decide) [0, 1] (by decide) rfl rfl (fun H locs hP hD hS => ?_)
      refine lv_if_ne (tgt := 36) hx hb dX5_isName_24 (by decide) (fun c24 => ?_) (fun c24 => ?_)
      · have hok := k_neg c24 hok
        exact J36  H locs ls hP hD hS (lv_sub hl [0] rfl) hok
      · have hok := k_pos c24 hok
        refine lv_aload_n hx hb dX5_isName_27 rfl (lv_at hl 0 rfl) ?_
        refine va_ldcS hx hb hown (hSt.2.1 _ (List.mem_of_getElem? (i := 3) rfl)) dX5_isName_28 ?_
        obtain ⟨r30, hc30, hok⟩ := k_bind hok
        refine kCi (wc := (wX5_says cy aR qR aH vR_j11 vR vR_tape)) (wc2 := (wX5_says cy aR qR aH vR_j11 vR vR_tape)) (wr := []) (ws2 := (wX5_isName cy aR qR aH vR_j11 vR vR_tape)) (kRunVS (As := [.ref (ad.1 6)]) (rest := []) ⟨hx, hb, hml, hown, ht0⟩ (kX5_says l D cy ad _ aR qR aH vR_j11 vR vR_tape 6 r30 hc30 _ rfl) (cwV 1 ht0 (gV wd324 wd325 wd326 wd276 wd327) rfl rfl rfl (by decide +kernel) ⟨Nat.le_of_ble_eq_true rfl, Nat.le_of_ble_eq_true rfl⟩) hK hN hP hD hSt hS hA [0, 1] rfl (by decide) 0 4 rfl rfl rfl hl.1 rfl (Nat.le_of_ble_eq_true rfl) dX5_isName_30 ⟨Nat.zero_le _, Nat.zero_le _⟩) hP hD hS hA [0, 1] [] rfl rfl (by decide) (by decide) [0, 1] (by decide) rfl rfl (fun H locs hP hD hS => ?_)
        refine lv_if_eq (tgt := 40) hx hb dX5_isName_33 (by decide) (fun c33 => ?_) (fun c33 => ?_)
        · have hok := k_pos c33 hok
          refine lv_iconst (v := 0) hx hb dX5_isName_40 (by decide) ?_
          exact J41 (0 : Int32) H locs ls hP hD hS (lv_sub hl [0] rfl) hok
        · have hok := k_neg c33 hok
          exact J36  H locs ls hP hD hS (lv_sub hl [0] rfl) hok
def wsX7_count : List Cond := .code yX7_count cX7_count 1 (some .int) :: W0
abbrev wX7_count (cy : Nat → ClassId) (aU : Nat) (qU : Nat → Nat) (vU : Nat → Int32) : va_W := [(aU, oX7 vU qU)]
set_option maxHeartbeats 4000000 in
set_option maxRecDepth 100000 in
theorem kX7_count (l : Launch) (D : va_G) (cy : Nat → ClassId) (sz : Nat) (aU : Nat) (qU : Nat → Nat) (vU : Nat → Int32) (zr : Int32) (hok : fX7_count vU = some zr) (A : Nat → Prop) (hAe : va_A (wX7_count cy aU qU vU) sz = A) : Met l yX7_count wsX7_count ({ frames := 0, cells := 0, slots := 0, locals := 0 } : Room) (kPre D cy [.ref aU] (wX7_count cy aU qU vU) sz) (kQi D cy zr A (wX7_count cy aU qU vU)) 0 0 A := by
  refine Met.ofW (cc := cX7_count) (maxL := 1) (ret := (some .int)) (by decide) rfl ?_
  intro p e s m args below meth c s₁ B hml hv
  obtain ⟨rfl, hsz, hP, hK, hD0, hN⟩ := hv
  have hx := B.exec
  have hb := B.bytes
  have hr := B.returns
  have ht0 : ∀ w ∈ W0, w.before _ s = true := fun w h => atoms_spec (ws := wsX7_count) B.pre w (List.mem_cons_of_mem _ h)
  have hown : s.vm.findClass RX7 = some m.cls := findClass_of_methodNamed B.named
  have hlocks := B.notSynchronized
  subst hsz
  have hD : va_D A (wX7_count cy aU qU vU) := by rw [← hAe]; exact hD0.self
  have hA : ∀ q : Nat, s.heap.size ≤ q → A q := fun q h => by rw [← hAe]; exact Or.inr h
  have hS : va_S A s.heap s.heap [] := va_S.rf
  have hl := lv_entry ([.ref aU]) (n := 1) (Nat.le_of_ble_eq_true rfl)
  rw [lg_entry_eq]
  generalize (lg_sl ([.ref aU]) ++ List.replicate (1 - (lg_sl ([.ref aU])).length) Slot.unset).toArray = ls at hl ⊢
  have hl : lv_has ls 1 [(0, .ref aU)] := hl
  unfold fX7_count at hok
  obtain ⟨H, hH⟩ : ∃ H, H = s.heap := ⟨_, rfl⟩
  obtain ⟨locs, hlc⟩ : ∃ x : List Loc, x = [] := ⟨_, rfl⟩
  have hP : va_P D vwCl (wX7_count cy aU qU vU) H := by rw [hH]; exact hP
  have hS : va_S A s.heap H locs := by rw [hH, hlc]; exact hS
  rw [show W p l e _ s m _ below meth c s.heap [] = W p l e _ s m _ below meth c H locs from by rw [hH, hlc]]
  refine lv_aload_n hx hb dX7_count_0 rfl (lv_at hl 0 rfl) ?_
  refine va_get (D := D) (ci := 6) (v := .int (vU 0)) (C := RX7) (T := TX7) (N := 5) hx hb ht0 niX7 hown hK hP 0 rfl rfl 0 (by decide) (ht0 _ wd202) (fun _ h9 => h9) rfl dX7_count_1 ?_
  cases hok
  exact W.iret hx hb hr (fun t ht hW => ⟨⟨_, (), rfl, rfl, by rw [ht]; exact hP, va_K.moved hW.alike hK, hD⟩, hS.F ht⟩) hS.2.2 dX7_count_4
def wsX5_isMany : List Cond := .code yX5_isMany cX5_isMany 1 (some .boolean) :: W0
abbrev wX5_isMany (cy : Nat → ClassId) (aR : Nat) (qR : Nat → Nat) (aH : Nat) (qH : Nat → Nat) (qU : Nat → Nat) (vR_j11 : Int64) (vR : Nat → Int32) (vR_tape : Nat → Int32) (vH : Nat → Int32) (vU : Nat → Int32) : va_W := [(aR, oX5 vR qR vR_j11 aH), (qR 0, rB cy 900 vR_tape), (aH, oX4 vH qH), (qH 7, oX7 vU qU)]
set_option maxHeartbeats 4000000 in
set_option maxRecDepth 100000 in
theorem kX5_isMany (l : Launch) (D : va_G) (cy : Nat → ClassId) (ad : (Nat → Nat) × (Nat → Nat)) (sz : Nat) (aR : Nat) (qR : Nat → Nat) (aH : Nat) (qH : Nat → Nat) (qU : Nat → Nat) (vR_j11 : Int64) (vR : Nat → Int32) (vR_tape : Nat → Int32) (vH : Nat → Int32) (vU : Nat → Int32) (zr : Int32) (hok : fX5_isMany vR_j11 vR vR_tape vH vU = some zr) (A : Nat → Prop) (hAe : va_A (wX5_isMany cy aR qR aH qH qU vR_j11 vR vR_tape vH vU) sz = A) : Met l yX5_isMany wsX5_isMany ({ frames := 5, cells := 0, slots := 0, locals := 108 } : Room) (kPreS D cy ad [.ref aR] (wX5_isMany cy aR qR aH qH qU vR_j11 vR vR_tape vH vU) sz A) (kQi D cy zr A (wX5_isMany cy aR qR aH qH qU vR_j11 vR vR_tape vH vU)) 0 0 A := by
  refine Met.ofW (cc := cX5_isMany) (maxL := 1) (ret := (some .boolean)) (by decide) rfl ?_
  intro p e s m args below meth c s₁ B hml hv
  obtain ⟨rfl, ⟨hsz, hP, hK, hD0, hN⟩, hSt⟩ := hv
  have hx := B.exec
  have hb := B.bytes
  have hr := B.returns
  have ht0 : ∀ w ∈ W0, w.before _ s = true := fun w h => atoms_spec (ws := wsX5_isMany) B.pre w (List.mem_cons_of_mem _ h)
  have hown : s.vm.findClass RX5 = some m.cls := findClass_of_methodNamed B.named
  have hlocks := B.notSynchronized
  subst hsz
  have hD : va_D A (wX5_isMany cy aR qR aH qH qU vR_j11 vR vR_tape vH vU) := by rw [← hAe]; exact hD0.self
  have hA : ∀ q : Nat, s.heap.size ≤ q → A q := fun q h => by rw [← hAe]; exact Or.inr h
  have hS : va_S A s.heap s.heap [] := va_S.rf
  have hl := lv_entry ([.ref aR]) (n := 1) (Nat.le_of_ble_eq_true rfl)
  rw [lg_entry_eq]
  generalize (lg_sl ([.ref aR]) ++ List.replicate (1 - (lg_sl ([.ref aR])).length) Slot.unset).toArray = ls at hl ⊢
  have hl : lv_has ls 1 [(0, .ref aR)] := hl
  generalize hQe : MQ below (kQi D cy zr A (wX5_isMany cy aR qR aH qH qU vR_j11 vR vR_tape vH vU)) ([.ref aR] : List Value).toArray s 0 0 A = Q
  have J155 : ∀ (t0_155 : Int32), ∀ (H : Heap) (locs : List Loc) (ls : Array Slot), va_P D vwCl (wX5_isMany cy aR qR aH qH qU vR_j11 vR vR_tape vH vU) H → va_D A (wX5_isMany cy aR qR aH qH qU vR_j11 vR vR_tape vH vU) → va_S A s.heap H locs → lv_has ls 1 [] → fX5_isMany_J155 t0_155 = some zr → W p l e ({ frames := 5, cells := 0, slots := 0, locals := 108 } : Room) s m ([.ref aR] : List Value).toArray below meth c H locs 0 0 Q (F0 m 155 ls [.int t0_155]) := by
    intro t0_155 H locs ls hP hD hS hl hok
    unfold fX5_isMany_J155 at hok
    obtain ⟨g155, hok⟩ := gd_some hok
    cases hok
    subst hQe; exact W.zret hx hb hr (isB_nar g155) (fun t ht hW => ⟨⟨_, (), rfl, rfl, by rw [ht]; exact hP, va_K.moved hW.alike hK, hD⟩, hS.F ht⟩) hS.2.2 dX5_isMany_155
  have J105 : ∀ (t0_105 : Int32), ∀ (H : Heap) (locs : List Loc) (ls : Array Slot), va_P D vwCl (wX5_isMany cy aR qR aH qH qU vR_j11 vR vR_tape vH vU) H → va_D A (wX5_isMany cy aR qR aH qH qU vR_j11 vR vR_tape vH vU) → va_S A s.heap H locs → lv_has ls 1 [] → fX5_isMany_J105 t0_105 = some zr → W p l e ({ frames := 5, cells := 0, slots := 0, locals := 108 } : Room) s m ([.ref aR] : List Value).toArray below meth c H locs 0 0 Q (F0 m 105 ls [.int t0_105]) := by
    intro t0_105 H locs ls hP hD hS hl hok
    unfold fX5_isMany_J105 at hok
    obtain ⟨g105, hok⟩ := gd_some hok
    cases hok
    subst hQe; exact W.zret hx hb hr (isB_nar g105) (fun t ht hW => ⟨⟨_, (), rfl, rfl, by rw [ht]; exact hP, va_K.moved hW.alike hK, hD⟩, hS.F ht⟩) hS.2.2 dX5_isMany_105
  have J78 : ∀ (t0_78 : Int32), ∀ (H : Heap) (locs : List Loc) (ls : Array Slot), va_P D vwCl (wX5_isMany cy aR qR aH qH qU vR_j11 vR vR_tape vH vU) H → va_D A (wX5_isMany cy aR qR aH qH qU vR_j11 vR vR_tape vH vU) → va_S A s.heap H locs → lv_has ls 1 [] → fX5_isMany_J78 t0_78 = some zr → W p l e ({ frames := 5, cells := 0, slots := 0, locals := 108 } : Room) s m ([.ref aR] : List Value).toArray below meth c H locs 0 0 Q (F0 m 78 ls [.int t0_78]) := by
    intro t0_78 H locs ls hP hD hS hl hok
    unfold fX5_isMany_J78 at hok
    obtain ⟨g78, hok⟩ := gd_some hok
    cases hok
    subst hQe; exact W.zret hx hb hr (isB_nar g78) (fun t ht hW => ⟨⟨_, (), rfl, rfl, by rw [ht]; exact hP, va_K.moved hW.alike hK, hD⟩, hS.F ht⟩) hS.2.2 dX5_isMany_78
  have J52 : ∀ (t0_52 : Int32), ∀ (H : Heap) (locs : List Loc) (ls : Array Slot), va_P D vwCl (wX5_isMany cy aR qR aH qH qU vR_j11 vR vR_tape vH vU) H → va_D A (wX5_isMany cy aR qR aH qH qU vR_j11 vR vR_tape vH vU) → va_S A s.heap H locs → lv_has ls 1 [] → fX5_isMany_J52 t0_52 = some zr → W p l e ({ frames := 5, cells := 0, slots := 0, locals := 108 } : Room) s m ([.ref aR] : List Value).toArray below meth c H locs 0 0 Q (F0 m 52 ls [.int t0_52]) := by
    intro t0_52 H locs ls hP hD hS hl hok
    unfold fX5_isMany_J52 at hok
    obtain ⟨g52, hok⟩ := gd_some hok
    cases hok
    subst hQe; exact W.zret hx hb hr (isB_nar g52) (fun t ht hW => ⟨⟨_, (), rfl, rfl, by rw [ht]; exact hP, va_K.moved hW.alike hK, hD⟩, hS.F ht⟩) hS.2.2 dX5_isMany_52
  have J25 : ∀ (t0_25 : Int32), ∀ (H : Heap) (locs : List Loc) (ls : Array Slot), va_P D vwCl (wX5_isMany cy aR qR aH qH qU vR_j11 vR vR_tape vH vU) H → va_D A (wX5_isMany cy aR qR aH qH qU vR_j11 vR vR_tape vH vU) → va_S A s.heap H locs → lv_has ls 1 [] → fX5_isMany_J25 t0_25 = some zr → W p l e ({ frames := 5, cells := 0, slots := 0, locals := 108 } : Room) s m ([.ref aR] : List Value).toArray below meth c H locs 0 0 Q (F0 m 25 ls [.int t0_25]) := by
    intro t0_25 H locs ls hP hD hS hl hok
    unfold fX5_isMany_J25 at hok
    obtain ⟨g25, hok⟩ := gd_some hok
    cases hok
    subst hQe; exact W.zret hx hb hr (isB_nar g25) (fun t ht hW => ⟨⟨_, (), rfl, rfl, by rw [ht]; exact hP, va_K.moved hW.alike hK, hD⟩, hS.F ht⟩) hS.2.2 dX5_isMany_25
  unfold fX5_isMany at hok
  obtain ⟨H, hH⟩ : ∃ H, H = s.heap := ⟨_, rfl⟩
  obtain ⟨locs, hlc⟩ : ∃ x : List Loc, x = [] := ⟨_, rfl⟩
  have hP : va_P D vwCl (wX5_isMany cy aR qR aH qH qU vR_j11 vR vR_tape vH vU) H := by rw [hH]; exact hP
  have hS : va_S A s.heap H locs := by rw [hH, hlc]; exact hS
  rw [show W p l e _ s m _ below meth c s.heap [] = W p l e _ s m _ below meth c H locs from by rw [hH, hlc]]
  refine lv_aload_n hx hb dX5_isMany_0 rfl (lv_at hl 0 rfl) ?_
  refine va_ldcS hx hb hown (hSt.2.1 _ (List.mem_of_getElem? (i := 1) rfl)) dX5_isMany_1 ?_
  obtain ⟨r3, hc3, hok⟩ := k_bind hok
  refine kCi (wc := (wX5_says cy aR qR aH vR_j11 vR vR_tape)) (wc2 := (wX5_says cy aR qR aH vR_j11 vR vR_tape)) (wr := [(aH, oX4 vH qH), (qH 7, oX7 vU qU)]) (ws2 := (wX5_isMany cy aR qR aH qH qU vR_j11 vR vR_tape vH vU)) (kRunVS (As := [.ref (ad.1 18)]) (rest := []) ⟨hx, hb, hml, hown, ht0⟩ (kX5_says l D cy ad _ aR qR aH vR_j11 vR vR_tape 18 r3 hc3 _ rfl) (cwV 1 ht0 (gV wd324 wd325 wd326 wd276 wd327) rfl rfl rfl (by decide +kernel) ⟨Nat.le_of_ble_eq_true rfl, Nat.le_of_ble_eq_true rfl⟩) hK hN hP hD hSt hS hA [0, 1] rfl (by decide) 0 4 rfl rfl rfl hl.1 rfl (Nat.le_of_ble_eq_true rfl) dX5_isMany_3 ⟨Nat.zero_le _, Nat.zero_le _⟩) hP hD hS hA [0, 1] [2, 3] rfl rfl (by decide) (by decide) [2, 3, 0, 1] (by decide) rfl rfl (fun H locs hP hD hS => ?_)
  refine lv_if_eq (tgt := 26) hx hb dX5_isMany_6 (by decide) (fun c6 => ?_) (fun c6 => ?_)
  · have hok := k_pos c6 hok
    refine lv_aload_n hx hb dX5_isMany_26 rfl (lv_at hl 0 rfl) ?_
    refine va_ldcS hx hb hown (hSt.2.1 _ (List.mem_of_getElem? (i := 2) rfl)) dX5_isMany_27 ?_
    obtain ⟨r29, hc29, hok⟩ := k_bind hok
    refine kCi (wc := (wX5_says cy aR qR aH vR_j11 vR vR_tape)) (wc2 := (wX5_says cy aR qR aH vR_j11 vR vR_tape)) (wr := [(aH, oX4 vH qH), (qH 7, oX7 vU qU)]) (ws2 := (wX5_isMany cy aR qR aH qH qU vR_j11 vR vR_tape vH vU)) (kRunVS (As := [.ref (ad.1 11)]) (rest := []) ⟨hx, hb, hml, hown, ht0⟩ (kX5_says l D cy ad _ aR qR aH vR_j11 vR vR_tape 11 r29 hc29 _ rfl) (cwV 1 ht0 (gV wd324 wd325 wd326 wd276 wd327) rfl rfl rfl (by decide +kernel) ⟨Nat.le_of_ble_eq_true rfl, Nat.le_of_ble_eq_true rfl⟩) hK hN hP hD hSt hS hA [0, 1] rfl (by decide) 0 4 rfl rfl rfl hl.1 rfl (Nat.le_of_ble_eq_true rfl) dX5_isMany_29 ⟨Nat.zero_le _, Nat.zero_le _⟩) hP hD hS hA [0, 1] [2, 3] rfl rfl (by decide) (by decide) [2, 3, 0, 1] (by decide) rfl rfl (fun H locs hP hD hS => ?_)
    refine lv_if_eq (tgt := 53) hx hb dX5_isMany_32 (by decide) (fun c32 => ?_) (fun c32 => ?_)
    · have hok := k_pos c32 hok
      refine lv_aload_n hx hb dX5_isMany_53 rfl (lv_at hl 0 rfl) ?_
      refine va_ldcS hx hb hown (hSt.2.1 _ (List.mem_of_getElem? (i := 3) rfl)) dX5_isMany_54 ?_
      obtain ⟨r56, hc56, hok⟩ := k_bind hok
      refine kCi (wc := (wX5_says cy aR qR aH vR_j11 vR vR_tape)) (wc2 := (wX5_says cy aR qR aH vR_j11 vR vR_tape)) (wr := [(aH, oX4 vH qH), (qH 7, oX7 vU qU)]) (ws2 := (wX5_isMany cy aR qR aH qH qU vR_j11 vR vR_tape vH vU)) (kRunVS (As := [.ref (ad.1 6)]) (rest := []) ⟨hx, hb, hml, hown, ht0⟩ (kX5_says l D cy ad _ aR qR aH vR_j11 vR vR_tape 6 r56 hc56 _ rfl) (cwV 1 ht0 (gV wd324 wd325 wd326 wd276 wd327) rfl rfl rfl (by decide +kernel) ⟨Nat.le_of_ble_eq_true rfl, Nat.le_of_ble_eq_true rfl⟩) hK hN hP hD hSt hS hA [0, 1] rfl (by decide) 0 4 rfl rfl rfl hl.1 rfl (Nat.le_of_ble_eq_true rfl) dX5_isMany_56 ⟨Nat.zero_le _, Nat.zero_le _⟩) hP hD hS hA [0, 1] [2, 3] rfl rfl (by decide) (by decide) [2, 3, 0, 1] (by decide) rfl rfl (fun H locs hP hD hS => ?_)
      refine lv_if_eq (tgt := 79) hx hb dX5_isMany_59 (by decide) (fun c59 => ?_) (fun c59 => ?_)
      · have hok := k_pos c59 hok
        refine lv_aload_n hx hb dX5_isMany_79 rfl (lv_at hl 0 rfl) ?_
        refine va_ldcS hx hb hown (hSt.2.1 _ (List.mem_of_getElem? (i := 4) rfl)) dX5_isMany_80 ?_
        obtain ⟨r82, hc82, hok⟩ := k_bind hok
        refine kCi (wc := (wX5_says cy aR qR aH vR_j11 vR vR_tape)) (wc2 := (wX5_says cy aR qR aH vR_j11 vR vR_tape)) (wr := [(aH, oX4 vH qH), (qH 7, oX7 vU qU)]) (ws2 := (wX5_isMany cy aR qR aH qH qU vR_j11 vR vR_tape vH vU)) (kRunVS (As := [.ref (ad.1 20)]) (rest := []) ⟨hx, hb, hml, hown, ht0⟩ (kX5_says l D cy ad _ aR qR aH vR_j11 vR vR_tape 20 r82 hc82 _ rfl) (cwV 1 ht0 (gV wd324 wd325 wd326 wd276 wd327) rfl rfl rfl (by decide +kernel) ⟨Nat.le_of_ble_eq_true rfl, Nat.le_of_ble_eq_true rfl⟩) hK hN hP hD hSt hS hA [0, 1] rfl (by decide) 0 4 rfl rfl rfl hl.1 rfl (Nat.le_of_ble_eq_true rfl) dX5_isMany_82 ⟨Nat.zero_le _, Nat.zero_le _⟩) hP hD hS hA [0, 1] [2, 3] rfl rfl (by decide) (by decide) [2, 3, 0, 1] (by decide) rfl rfl (fun H locs hP hD hS => ?_)
        refine lv_if_eq (tgt := 106) hx hb dX5_isMany_85 (by decide) (fun c85 => ?_) (fun c85 => ?_)
        · have hok := k_pos c85 hok
          refine lv_aload_n hx hb dX5_isMany_106 rfl (lv_at hl 0 rfl) ?_
          refine va_ldcS hx hb hown (hSt.2.1 _ (List.mem_of_getElem? (i := 5) rfl)) dX5_isMany_107 ?_
          obtain ⟨r109, hc109, hok⟩ := k_bind hok
          refine kCi (wc := (wX5_says cy aR qR aH vR_j11 vR vR_tape)) (wc2 := (wX5_says cy aR qR aH vR_j11 vR vR_tape)) (wr := [(aH, oX4 vH qH), (qH 7, oX7 vU qU)]) (ws2 := (wX5_isMany cy aR qR aH qH qU vR_j11 vR vR_tape vH vU)) (kRunVS (As := [.ref (ad.1 21)]) (rest := []) ⟨hx, hb, hml, hown, ht0⟩ (kX5_says l D cy ad _ aR qR aH vR_j11 vR vR_tape 21 r109 hc109 _ rfl) (cwV 1 ht0 (gV wd324 wd325 wd326 wd276 wd327) rfl rfl rfl (by decide +kernel) ⟨Nat.le_of_ble_eq_true rfl, Nat.le_of_ble_eq_true rfl⟩) hK hN hP hD hSt hS hA [0, 1] rfl (by decide) 0 4 rfl rfl rfl hl.1 rfl (Nat.le_of_ble_eq_true rfl) dX5_isMany_109 ⟨Nat.zero_le _, Nat.zero_le _⟩) hP hD hS hA [0, 1] [2, 3] rfl rfl (by decide) (by decide) [2, 3, 0, 1] (by decide) rfl rfl (fun H locs hP hD hS => ?_)
          refine lv_if_eq (tgt := 138) hx hb dX5_isMany_112 (by decide) (fun c112 => ?_) (fun c112 => ?_)
          · have hok := k_pos c112 hok
            refine lv_aload_n hx hb dX5_isMany_138 rfl (lv_at hl 0 rfl) ?_
            refine va_get (D := D) (ci := 4) (v := .ref aH) (C := RX5) (T := TX5) (N := 13) hx hb ht0 niX5 hown hK hP 0 rfl rfl 2 (by decide) (ht0 _ wd266) (fun _ h9 => h9) rfl dX5_isMany_139 ?_
            refine va_get (D := D) (ci := 3) (v := .int (vH 6)) (C := RX4) (T := TX4) (N := 20) hx hb ht0 niX4 hown hK hP 2 rfl rfl 6 (by decide) (ht0 _ wd351) (fun _ h9 => h9) rfl dX5_isMany_142 ?_
            refine lv_bipush (v := 6) hx hb dX5_isMany_145 (by decide) ?_
            refine lv_icmp_lt (tgt := 154) hx hb dX5_isMany_147 (by decide) (fun c147 => ?_) (fun c147 => ?_)
            · have hok := k_pos c147 hok
              refine lv_iconst (v := 0) hx hb dX5_isMany_154 (by decide) ?_
              exact J155 (0 : Int32) H locs ls hP hD hS (lv_sub hl [] rfl) hok
            · have hok := k_neg c147 hok
              refine lv_iconst (v := 1) hx hb dX5_isMany_150 (by decide) ?_
              refine lv_goto (tgt := 155) hx hb dX5_isMany_151 (by decide) ?_
              exact J155 (1 : Int32) H locs ls hP hD hS (lv_sub hl [] rfl) hok
          · have hok := k_neg c112 hok
            refine lv_aload_n hx hb dX5_isMany_115 rfl (lv_at hl 0 rfl) ?_
            refine va_get (D := D) (ci := 4) (v := .ref aH) (C := RX5) (T := TX5) (N := 13) hx hb ht0 niX5 hown hK hP 0 rfl rfl 2 (by decide) (ht0 _ wd266) (fun _ h9 => h9) rfl dX5_isMany_116 ?_
            refine va_get (D := D) (ci := 3) (v := .ref (qH 7)) (C := RX4) (T := TX4) (N := 20) hx hb ht0 niX4 hown hK hP 2 rfl rfl 7 (by decide) (ht0 _ wd352) (fun _ h9 => h9) rfl dX5_isMany_119 ?_
            obtain ⟨r122, hc122, hok⟩ := k_bind hok
            refine kCi (wc := (wX7_count cy (qH 7) qU vU)) (wc2 := (wX7_count cy (qH 7) qU vU)) (wr := [(aR, oX5 vR qR vR_j11 aH), (qR 0, rB cy 900 vR_tape), (aH, oX4 vH qH)]) (ws2 := (wX5_isMany cy aR qR aH qH qU vR_j11 vR vR_tape vH vU)) (kRunV (As := []) (rest := []) ⟨hx, hb, hml, hown, ht0⟩ (kX7_count l D cy _ (qH 7) qU vU r122 hc122 _ rfl) (cwV 0 ht0 (gV wd353 wd354 wd355 wd218 wd356) rfl rfl rfl (by decide +kernel) ⟨Nat.le_of_ble_eq_true rfl, Nat.le_of_ble_eq_true rfl⟩) hK hN hP hD [3] rfl (by decide) 3 6 rfl rfl rfl hl.1 rfl (Nat.le_of_ble_eq_true rfl) dX5_isMany_122 ⟨Nat.zero_le _, Nat.zero_le _⟩) hP hD hS hA [3] [0, 1, 2] rfl rfl (by decide) (by decide) [0, 1, 2, 3] (by decide) rfl rfl (fun H locs hP hD hS => ?_)
            refine lv_bipush (v := 6) hx hb dX5_isMany_125 (by decide) ?_
            refine lv_icmp_lt (tgt := 134) hx hb dX5_isMany_127 (by decide) (fun c127 => ?_) (fun c127 => ?_)
            · have hok := k_pos c127 hok
              refine lv_iconst (v := 0) hx hb dX5_isMany_134 (by decide) ?_
              refine lv_goto (tgt := 155) hx hb dX5_isMany_135 (by decide) ?_
              exact J155 (0 : Int32) H locs ls hP hD hS (lv_sub hl [] rfl) hok
            · have hok := k_neg c127 hok
              refine lv_iconst (v := 1) hx hb dX5_isMany_130 (by decide) ?_
              refine lv_goto (tgt := 155) hx hb dX5_isMany_131 (by decide) ?_
              exact J155 (1 : Int32) H locs ls hP hD hS (lv_sub hl [] rfl) hok
        · have hok := k_neg c85 hok
          refine lv_aload_n hx hb dX5_isMany_88 rfl (lv_at hl 0 rfl) ?_
          refine va_get (D := D) (ci := 4) (v := .ref aH) (C := RX5) (T := TX5) (N := 13) hx hb ht0 niX5 hown hK hP 0 rfl rfl 2 (by decide) (ht0 _ wd266) (fun _ h9 => h9) rfl dX5_isMany_89 ?_
          refine va_get (D := D) (ci := 3) (v := .int (vH 5)) (C := RX4) (T := TX4) (N := 20) hx hb ht0 niX4 hown hK hP 2 rfl rfl 5 (by decide) (ht0 _ wd357) (fun _ h9 => h9) rfl dX5_isMany_92 ?_
          refine lv_bipush (v := 7) hx hb dX5_isMany_95 (by decide) ?_
          refine lv_icmp_lt (tgt := 104) hx hb dX5_isMany_97 (by decide) (fun c97 => ?_) (fun c97 => ?_)
          · have hok := k_pos c97 hok
            refine lv_iconst (v := 0) hx hb dX5_isMany_104 (by decide) ?_
            exact J105 (0 : Int32) H locs ls hP hD hS (lv_sub hl [] rfl) hok
          · have hok := k_neg c97 hok
            refine lv_iconst (v := 1) hx hb dX5_isMany_100 (by decide) ?_
            refine lv_goto (tgt := 105) hx hb dX5_isMany_101 (by decide) ?_
            exact J105 (1 : Int32) H locs ls hP hD hS (lv_sub hl [] rfl) hok
      · have hok := k_neg c59 hok
        refine lv_aload_n hx hb dX5_isMany_62 rfl (lv_at hl 0 rfl) ?_
        refine va_get (D := D) (ci := 4) (v := .ref aH) (C := RX5) (T := TX5) (N := 13) hx hb ht0 niX5 hown hK hP 0 rfl rfl 2 (by decide) (ht0 _ wd266) (fun _ h9 => h9) rfl dX5_isMany_63 ?_
        refine va_get (D := D) (ci := 3) (v := .int (vH 4)) (C := RX4) (T := TX4) (N := 20) hx hb ht0 niX4 hown hK hP 2 rfl rfl 4 (by decide) (ht0 _ wd358) (fun _ h9 => h9) rfl dX5_isMany_66 ?_
        refine lv_iconst (v := 5) hx hb dX5_isMany_69 (by decide) ?_
        refine lv_icmp_lt (tgt := 77) hx hb dX5_isMany_70 (by decide) (fun c70 => ?_) (fun c70 => ?_)
        · have hok := k_pos c70 hok
          refine lv_iconst (v := 0) hx hb dX5_isMany_77 (by decide) ?_
          exact J78 (0 : Int32) H locs ls hP hD hS (lv_sub hl [] rfl) hok
        · have hok := k_neg c70 hok
          refine lv_iconst (v := 1) hx hb dX5_isMany_73 (by decide) ?_
          refine lv_goto (tgt := 78) hx hb dX5_isMany_74 (by decide) ?_
          exact J78 (1 : Int32) H locs ls hP hD hS (lv_sub hl [] rfl) hok
    · have hok := k_neg c32 hok
      refine lv_aload_n hx hb dX5_isMany_35 rfl (lv_at hl 0 rfl) ?_
      refine va_get (D := D) (ci := 4) (v := .ref aH) (C := RX5) (T := TX5) (N := 13) hx hb ht0 niX5 hown hK hP 0 rfl rfl 2 (by decide) (ht0 _ wd266) (fun _ h9 => h9) rfl dX5_isMany_36 ?_
      refine va_get (D := D) (ci := 3) (v := .int (vH 3)) (C := RX4) (T := TX4) (N := 20) hx hb ht0 niX4 hown hK hP 2 rfl rfl 3 (by decide) (ht0 _ wd359) (fun _ h9 => h9) rfl dX5_isMany_39 ?_
      refine lv_bipush (v := 6) hx hb dX5_isMany_42 (by decide) ?_
      refine lv_icmp_lt (tgt := 51) hx hb dX5_isMany_44 (by decide) (fun c44 => ?_) (fun c44 => ?_)
      · have hok := k_pos c44 hok
        refine lv_iconst (v := 0) hx hb dX5_isMany_51 (by decide) ?_
        exact J52 (0 : Int32) H locs ls hP hD hS (lv_sub hl [] rfl) hok
      · have hok := k_neg c44 hok
        refine lv_iconst (v := 1) hx hb dX5_isMany_47 (by decide) ?_
        refine lv_goto (tgt := 52) hx hb dX5_isMany_48 (by decide) ?_
        exact J52 (1 : Int32) H locs ls hP hD hS (lv_sub hl [] rfl) hok
  · have hok := k_neg c6 hok
    refine lv_aload_n hx hb dX5_isMany_9 rfl (lv_at hl 0 rfl) ?_
    refine va_get (D := D) (ci := 4) (v := .ref aH) (C := RX5) (T := TX5) (N := 13) hx hb ht0 niX5 hown hK hP 0 rfl rfl 2 (by decide) (ht0 _ wd266) (fun _ h9 => h9) rfl dX5_isMany_10 ?_
    refine va_get (D := D) (ci := 3) (v := .int (vH 2)) (C := RX4) (T := TX4) (N := 20) hx hb ht0 niX4 hown hK hP 2 rfl rfl 2 (by decide) (ht0 _ wd360) (fun _ h9 => h9) rfl dX5_isMany_13 ?_
    refine lv_iconst (v := 4) hx hb dX5_isMany_16 (by decide) ?_
    refine lv_icmp_lt (tgt := 24) hx hb dX5_isMany_17 (by decide) (fun c17 => ?_) (fun c17 => ?_)
    · have hok := k_pos c17 hok
      refine lv_iconst (v := 0) hx hb dX5_isMany_24 (by decide) ?_
      exact J25 (0 : Int32) H locs ls hP hD hS (lv_sub hl [] rfl) hok
    · have hok := k_neg c17 hok
      refine lv_iconst (v := 1) hx hb dX5_isMany_20 (by decide) ?_
      refine lv_goto (tgt := 25) hx hb dX5_isMany_21 (by decide) ?_
      exact J25 (1 : Int32) H locs ls hP hD hS (lv_sub hl [] rfl) hok
def wsX5_placeOfName : List Cond := .code yX5_placeOfName cX5_placeOfName 5 (some .int) :: W0
abbrev wX5_placeOfName (cy : Nat → ClassId) (ap2 : Nat) (n2 : Nat) (p2 : Nat → Int64) : va_W := [(ap2, rJ cy n2 p2)]
set_option maxHeartbeats 4000000 in
set_option maxRecDepth 100000 in
theorem kX5_placeOfName (l : Launch) (D : va_G) (cy : Nat → ClassId) (sz : Nat) (ap2 : Nat) (n2 : Nat) (p2 : Nat → Int64) (x0 : Int64) (x3 : Int32) (zr : Int32) (hok : fX5_placeOfName n2 p2 x0 x3 = some zr) (A : Nat → Prop) (hAe : va_A (wX5_placeOfName cy ap2 n2 p2) sz = A) : Met l yX5_placeOfName wsX5_placeOfName ({ frames := 0, cells := 0, slots := 0, locals := 0 } : Room) (kPre D cy [.long x0, .ref ap2, .int x3] (wX5_placeOfName cy ap2 n2 p2) sz) (kQi D cy zr A (wX5_placeOfName cy ap2 n2 p2)) 0 0 A := by
  refine Met.ofW (cc := cX5_placeOfName) (maxL := 5) (ret := (some .int)) (by decide) rfl ?_
  intro p e s m args below meth c s₁ B hml hv
  obtain ⟨rfl, hsz, hP, hK, hD0, hN⟩ := hv
  have hx := B.exec
  have hb := B.bytes
  have hr := B.returns
  have ht0 : ∀ w ∈ W0, w.before _ s = true := fun w h => atoms_spec (ws := wsX5_placeOfName) B.pre w (List.mem_cons_of_mem _ h)
  have hown : s.vm.findClass RX5 = some m.cls := findClass_of_methodNamed B.named
  have hlocks := B.notSynchronized
  subst hsz
  have hD : va_D A (wX5_placeOfName cy ap2 n2 p2) := by rw [← hAe]; exact hD0.self
  have hA : ∀ q : Nat, s.heap.size ≤ q → A q := fun q h => by rw [← hAe]; exact Or.inr h
  have hS : va_S A s.heap s.heap [] := va_S.rf
  have hl := lv_entry ([.long x0, .ref ap2, .int x3]) (n := 5) (Nat.le_of_ble_eq_true rfl)
  rw [lg_entry_eq]
  generalize (lg_sl ([.long x0, .ref ap2, .int x3]) ++ List.replicate (5 - (lg_sl ([.long x0, .ref ap2, .int x3])).length) Slot.unset).toArray = ls at hl ⊢
  have hl : lv_has ls 5 [(0, .long x0), (2, .ref ap2), (3, .int x3)] := hl
  generalize hQe : MQ below (kQi D cy zr A (wX5_placeOfName cy ap2 n2 p2)) ([.long x0, .ref ap2, .int x3] : List Value).toArray s 0 0 A = Q
  have J34 : ∀ (H : Heap) (locs : List Loc) (ls : Array Slot), va_P D vwCl (wX5_placeOfName cy ap2 n2 p2) H → va_D A (wX5_placeOfName cy ap2 n2 p2) → va_S A s.heap H locs → lv_has ls 5 [] → fX5_placeOfName_J34 = some zr → W p l e ({ frames := 0, cells := 0, slots := 0, locals := 0 } : Room) s m ([.long x0, .ref ap2, .int x3] : List Value).toArray below meth c H locs 0 0 Q (F0 m 34 ls []) := by
    intro  H locs ls hP hD hS hl hok
    unfold fX5_placeOfName_J34 at hok
    refine lv_iconst (v := -1) hx hb dX5_placeOfName_34 (by decide) ?_
    cases hok
    subst hQe; exact W.iret hx hb hr (fun t ht hW => ⟨⟨_, (), rfl, rfl, by rw [ht]; exact hP, va_K.moved hW.alike hK, hD⟩, hS.F ht⟩) hS.2.2 dX5_placeOfName_35
  have L3 : ∀ (fuel : Nat) (y4_3 : Int32), ∀ (H : Heap) (locs : List Loc) (ls : Array Slot), va_P D vwCl (wX5_placeOfName cy ap2 n2 p2) H → va_D A (wX5_placeOfName cy ap2 n2 p2) → va_S A s.heap H locs → lv_has ls 5 [(0, .long x0), (2, .ref ap2), (3, .int x3), (4, .int y4_3)] → lp (fX5_placeOfName_B3 n2 p2 x0 x3) fuel y4_3 = some zr → W p l e ({ frames := 0, cells := 0, slots := 0, locals := 0 } : Room) s m ([.long x0, .ref ap2, .int x3] : List Value).toArray below meth c H locs 0 0 Q (F0 m 3 ls []) := by
    intro fuel
    induction fuel with
    | zero => intro y4_3 H locs ls hP hD hS hl hok; exact (lp_0 hok).elim
    | succ fuel ih3 =>
      intro y4_3 H locs ls hP hD hS hl hok
      obtain ⟨y3, hok, hL3, hR3⟩ := lp_step hok
      unfold fX5_placeOfName_B3 at hok
      refine lv_iload hx hb dX5_placeOfName_3 (lv_at hl 3 rfl) ?_
      refine lv_iload_n hx hb dX5_placeOfName_5 rfl (lv_at hl 2 rfl) ?_
      refine lv_icmp_ge (tgt := 34) hx hb dX5_placeOfName_6 (by decide) (fun c6 => ?_) (fun c6 => ?_)
      · have hok := k_pos c6 hok
        obtain ⟨e3, hok, he3⟩ := ex_some hok
        have hok := hok.trans (congrArg some (hL3 _ he3))
        exact J34  H locs ls hP hD hS (lv_sub hl [] rfl) hok
      · have hok := k_neg c6 hok
        refine lv_iload hx hb dX5_placeOfName_9 (lv_at hl 3 rfl) ?_
        refine lv_aload_n hx hb dX5_placeOfName_11 rfl (lv_at hl 1 rfl) ?_
        refine va_alen hx hb hK hP 0 2 rfl rfl (v := (nI n2)) rfl dX5_placeOfName_12 ?_
        refine lv_icmp_ge (tgt := 34) hx hb dX5_placeOfName_13 (by decide) (fun c13 => ?_) (fun c13 => ?_)
        · have hok := k_pos c13 hok
          obtain ⟨e3, hok, he3⟩ := ex_some hok
          have hok := hok.trans (congrArg some (hL3 _ he3))
          exact J34  H locs ls hP hD hS (lv_sub hl [] rfl) hok
        · have hok := k_neg c13 hok
          refine lv_aload_n hx hb dX5_placeOfName_16 rfl (lv_at hl 1 rfl) ?_
          refine lv_iload hx hb dX5_placeOfName_17 (lv_at hl 3 rfl) ?_
          obtain ⟨g19, hok⟩ := gd_some hok
          refine va_lald hx hb hK hP 0 2 rfl rfl (okI_in g19) dX5_placeOfName_19 ?_
          refine lv_lload_n hx hb dX5_placeOfName_20 rfl (lv_at hl 0 rfl) ?_
          refine W.lcmp hx hb dX5_placeOfName_21 ?_
          refine lv_if_ne (tgt := 28) hx hb dX5_placeOfName_22 (by decide) (fun c22 => ?_) (fun c22 => ?_)
          · have hok := k_neg c22 hok
            refine lv_iinc (v := (y4_3 + 1)) (lv' := [(4, .int (y4_3 + 1)), (0, .long x0), (2, .ref ap2), (3, .int x3)]) hx hb dX5_placeOfName_28 hl (k := 3) rfl (by first | rfl | decide) (by decide) rfl (fun ls hl => ?_)
            refine lv_goto (tgt := 3) hx hb dX5_placeOfName_31 (by decide) ?_
            exact ih3 (y4_3 + 1) H locs ls hP hD hS (lv_sub hl [1, 2, 3, 0] rfl) (hR3 _ (Option.some.inj hok).symm)
          · have hok := k_pos c22 hok
            obtain ⟨e3, hok, he3⟩ := ex_some hok
            have hok := hok.trans (congrArg some (hL3 _ he3))
            refine lv_iload hx hb dX5_placeOfName_25 (lv_at hl 3 rfl) ?_
            cases hok
            subst hQe; exact W.iret hx hb hr (fun t ht hW => ⟨⟨_, (), rfl, rfl, by rw [ht]; exact hP, va_K.moved hW.alike hK, hD⟩, hS.F ht⟩) hS.2.2 dX5_placeOfName_27
  unfold fX5_placeOfName at hok
  obtain ⟨H, hH⟩ : ∃ H, H = s.heap := ⟨_, rfl⟩
  obtain ⟨locs, hlc⟩ : ∃ x : List Loc, x = [] := ⟨_, rfl⟩
  have hP : va_P D vwCl (wX5_placeOfName cy ap2 n2 p2) H := by rw [hH]; exact hP
  have hS : va_S A s.heap H locs := by rw [hH, hlc]; exact hS
  rw [show W p l e _ s m _ below meth c s.heap [] = W p l e _ s m _ below meth c H locs from by rw [hH, hlc]]
  refine lv_iconst (v := 0) hx hb dX5_placeOfName_0 (by decide) ?_
  refine lv_istore (lv' := [(4, .int 0), (0, .long x0), (2, .ref ap2), (3, .int x3)]) hx hb dX5_placeOfName_1 hl (by decide) rfl (fun ls hl => ?_)
  exact L3 5000 (0 : Int32) H locs ls hP hD hS (lv_sub hl [1, 2, 3, 0] rfl) hok
def wsX5_takeNewName : List Cond := .code yX5_takeNewName cX5_takeNewName 4 (some .long) :: W0
abbrev wX5_takeNewName (cy : Nat → ClassId) (aR : Nat) (qR : Nat → Nat) (aH : Nat) (qH : Nat → Nat) (vR_j11 : Int64) (vR : Nat → Int32) (vR_tape : Nat → Int32) (vH : Nat → Int32) (vR_ringNames : Nat → Int64) (vR_thingNames : Nat → Int64) : va_W := [(aR, oX5 vR qR vR_j11 aH), (qR 0, rB cy 900 vR_tape), (aH, oX4 vH qH), (qR 3, rJ cy 4 vR_ringNames), (qR 4, rJ cy 7 vR_thingNames)]
set_option maxHeartbeats 4000000 in
set_option maxRecDepth 100000 in
theorem kX5_takeNewName (l : Launch) (D : va_G) (cy : Nat → ClassId) (ad : (Nat → Nat) × (Nat → Nat)) (sz : Nat) (aR : Nat) (qR : Nat → Nat) (aH : Nat) (qH : Nat → Nat) (vR_j11 : Int64) (vR : Nat → Int32) (vR_tape : Nat → Int32) (vH : Nat → Int32) (vR_ringNames : Nat → Int64) (vR_thingNames : Nat → Int64) (zr : Int64) (z_vR_j11 : Int64) (z_vR : Nat → Int32) (hok : fX5_takeNewName vR_j11 vR vR_tape vH vR_ringNames vR_thingNames = some (zr, z_vR_j11, z_vR)) (A : Nat → Prop) (hAe : va_A (wX5_takeNewName cy aR qR aH qH vR_j11 vR vR_tape vH vR_ringNames vR_thingNames) sz = A) : Met l yX5_takeNewName wsX5_takeNewName ({ frames := 6, cells := 0, slots := 0, locals := 130 } : Room) (kPreS D cy ad [.ref aR] (wX5_takeNewName cy aR qR aH qH vR_j11 vR vR_tape vH vR_ringNames vR_thingNames) sz A) (kQl D cy zr A (wX5_takeNewName cy aR qR aH qH z_vR_j11 z_vR vR_tape vH vR_ringNames vR_thingNames)) 0 0 A := by
  refine Met.ofW (cc := cX5_takeNewName) (maxL := 4) (ret := (some .long)) (by decide) rfl ?_
  intro p e s m args below meth c s₁ B hml hv
  obtain ⟨rfl, ⟨hsz, hP, hK, hD0, hN⟩, hSt⟩ := hv
  have hx := B.exec
  have hb := B.bytes
  have hr := B.returns
  have ht0 : ∀ w ∈ W0, w.before _ s = true := fun w h => atoms_spec (ws := wsX5_takeNewName) B.pre w (List.mem_cons_of_mem _ h)
  have hown : s.vm.findClass RX5 = some m.cls := findClass_of_methodNamed B.named
  have hlocks := B.notSynchronized
  subst hsz
  have hD : va_D A (wX5_takeNewName cy aR qR aH qH vR_j11 vR vR_tape vH vR_ringNames vR_thingNames) := by rw [← hAe]; exact hD0.self
  have hA : ∀ q : Nat, s.heap.size ≤ q → A q := fun q h => by rw [← hAe]; exact Or.inr h
  have hS : va_S A s.heap s.heap [] := va_S.rf
  have hl := lv_entry ([.ref aR]) (n := 4) (Nat.le_of_ble_eq_true rfl)
  rw [lg_entry_eq]
  generalize (lg_sl ([.ref aR]) ++ List.replicate (4 - (lg_sl ([.ref aR])).length) Slot.unset).toArray = ls at hl ⊢
  have hl : lv_has ls 4 [(0, .ref aR)] := hl
  generalize hQe : MQ below (kQl D cy zr A (wX5_takeNewName cy aR qR aH qH z_vR_j11 z_vR vR_tape vH vR_ringNames vR_thingNames)) ([.ref aR] : List Value).toArray s 0 0 A = Q
  have J69 : ∀ (H : Heap) (locs : List Loc) (ls : Array Slot), va_P D vwCl (wX5_takeNewName cy aR qR aH qH vR_j11 vR vR_tape vH vR_ringNames vR_thingNames) H → va_D A (wX5_takeNewName cy aR qR aH qH vR_j11 vR vR_tape vH vR_ringNames vR_thingNames) → va_S A s.heap H locs → lv_has ls 4 [(0, .ref aR)] → fX5_takeNewName_J69 vR_j11 vR = some (zr, z_vR_j11, z_vR) → W p l e ({ frames := 6, cells := 0, slots := 0, locals := 130 } : Room) s m ([.ref aR] : List Value).toArray below meth c H locs 0 0 Q (F0 m 69 ls []) := by
    intro  H locs ls hP hD hS hl hok
    unfold fX5_takeNewName_J69 at hok
    refine lv_aload_n hx hb dX5_takeNewName_69 rfl (lv_at hl 0 rfl) ?_
    refine lv_iconst (v := 3) hx hb dX5_takeNewName_70 (by decide) ?_
    obtain ⟨⟨r71, vR_71⟩, hc71, hok⟩ := k_bind hok
    try dsimp only at hok
    refine kCi (wc := (wX5_fails cy aR qR aH vR_j11 vR)) (wc2 := (wX5_fails cy aR qR aH vR_j11 vR_71)) (wr := [(qR 0, rB cy 900 vR_tape), (aH, oX4 vH qH), (qR 3, rJ cy 4 vR_ringNames), (qR 4, rJ cy 7 vR_thingNames)]) (ws2 := (wX5_takeNewName cy aR qR aH qH vR_j11 vR_71 vR_tape vH vR_ringNames vR_thingNames)) (kRunV (As := [.int 3]) (rest := []) ⟨hx, hb, hml, hown, ht0⟩ (kX5_fails l D cy _ aR qR aH vR_j11 vR (3 : Int32) r71 vR_71 hc71 _ rfl) (cwV 1 ht0 (gV wd332 wd333 wd334 wd276 wd335) rfl rfl rfl (by decide +kernel) ⟨Nat.le_of_ble_eq_true rfl, Nat.le_of_ble_eq_true rfl⟩) hK hN hP hD [0] rfl (by decide) 0 4 rfl rfl rfl hl.1 rfl (Nat.le_of_ble_eq_true rfl) dX5_takeNewName_71 ⟨Nat.zero_le _, Nat.zero_le _⟩) hP hD hS hA [0] [1, 2, 3, 4] rfl rfl (by decide) (by decide) [4, 0, 1, 2, 3] (by decide) rfl rfl (fun H locs hP hD hS => ?_)
    refine lv_pop hx hb dX5_takeNewName_74 rfl ?_
    refine lv_ldc2 (v := -1) hx hb hown (ht0 _ wd361) dX5_takeNewName_75 ?_
    cases hok
    subst hQe; exact W.lret hx hb hr (fun t ht hW => ⟨⟨_, (), rfl, rfl, by rw [ht]; exact hP, va_K.moved hW.alike hK, hD⟩, hS.F ht⟩) hS.2.2 dX5_takeNewName_78
  have J43 : ∀ (t0_43 : Int32), ∀ (H : Heap) (locs : List Loc) (ls : Array Slot), va_P D vwCl (wX5_takeNewName cy aR qR aH qH vR_j11 vR vR_tape vH vR_ringNames vR_thingNames) H → va_D A (wX5_takeNewName cy aR qR aH qH vR_j11 vR vR_tape vH vR_ringNames vR_thingNames) → va_S A s.heap H locs → lv_has ls 4 [(0, .ref aR)] → fX5_takeNewName_J43 vR_j11 vR vR_tape vH vR_thingNames t0_43 = some (zr, z_vR_j11, z_vR) → W p l e ({ frames := 6, cells := 0, slots := 0, locals := 130 } : Room) s m ([.ref aR] : List Value).toArray below meth c H locs 0 0 Q (F0 m 43 ls [.int t0_43]) := by
    intro t0_43 H locs ls hP hD hS hl hok
    unfold fX5_takeNewName_J43 at hok
    refine lv_istore_n (lv' := [(1, .int t0_43), (0, .ref aR)]) hx hb dX5_takeNewName_43 rfl hl (by decide) rfl (fun ls hl => ?_)
    refine lv_iload_n hx hb dX5_takeNewName_44 rfl (lv_at hl 0 rfl) ?_
    refine lv_if_ne (tgt := 69) hx hb dX5_takeNewName_45 (by decide) (fun c45 => ?_) (fun c45 => ?_)
    · have hok := k_neg c45 hok
      exact J69  H locs ls hP hD hS (lv_sub hl [1] rfl) hok
    · have hok := k_pos c45 hok
      refine lv_aload_n hx hb dX5_takeNewName_48 rfl (lv_at hl 1 rfl) ?_
      refine va_get (D := D) (ci := 4) (v := .long vR_j11) (C := RX5) (T := TX5) (N := 13) hx hb ht0 niX5 hown hK hP 0 rfl rfl 11 (by decide) (ht0 _ wd271) (fun _ h9 => h9) rfl dX5_takeNewName_49 ?_
      refine lv_aload_n hx hb dX5_takeNewName_52 rfl (lv_at hl 1 rfl) ?_
      refine va_get (D := D) (ci := 4) (v := .ref (qR 4)) (C := RX5) (T := TX5) (N := 13) hx hb ht0 niX5 hown hK hP 0 rfl rfl 4 (by decide) (ht0 _ wd362) (fun _ h9 => h9) rfl dX5_takeNewName_53 ?_
      refine lv_aload_n hx hb dX5_takeNewName_56 rfl (lv_at hl 1 rfl) ?_
      refine va_get (D := D) (ci := 4) (v := .ref aH) (C := RX5) (T := TX5) (N := 13) hx hb ht0 niX5 hown hK hP 0 rfl rfl 2 (by decide) (ht0 _ wd266) (fun _ h9 => h9) rfl dX5_takeNewName_57 ?_
      refine va_get (D := D) (ci := 3) (v := .int (vH 5)) (C := RX4) (T := TX4) (N := 20) hx hb ht0 niX4 hown hK hP 2 rfl rfl 5 (by decide) (ht0 _ wd357) (fun _ h9 => h9) rfl dX5_takeNewName_60 ?_
      obtain ⟨r63, hc63, hok⟩ := k_bind hok
      refine kCi (wc := (wX5_placeOfName cy (qR 4) 7 vR_thingNames)) (wc2 := (wX5_placeOfName cy (qR 4) 7 vR_thingNames)) (wr := [(aR, oX5 vR qR vR_j11 aH), (qR 0, rB cy 900 vR_tape), (aH, oX4 vH qH), (qR 3, rJ cy 4 vR_ringNames)]) (ws2 := (wX5_takeNewName cy aR qR aH qH vR_j11 vR vR_tape vH vR_ringNames vR_thingNames)) (kRunS (As := [.long vR_j11, .ref (qR 4), .int (vH 5)]) (rest := []) ⟨hx, hb, hml, hown, ht0⟩ (kX5_placeOfName l D cy _ (qR 4) 7 vR_thingNames vR_j11 (vH 5) r63 hc63 _ rfl) (va_cwS 3 ht0 (gS wd363 wd364 wd276 wd365) rfl rfl rfl (by decide +kernel) ⟨Nat.le_of_ble_eq_true rfl, Nat.le_of_ble_eq_true rfl⟩) hK hN hP hD [4] rfl (by decide) rfl hl.1 rfl (Nat.le_of_ble_eq_true rfl) dX5_takeNewName_63 ⟨Nat.zero_le _, Nat.zero_le _⟩) hP hD hS hA [4] [0, 1, 2, 3] rfl rfl (by decide) (by decide) [0, 1, 2, 3, 4] (by decide) rfl rfl (fun H locs hP hD hS => ?_)
      refine lv_if_lt (tgt := 79) hx hb dX5_takeNewName_66 (by decide) (fun c66 => ?_) (fun c66 => ?_)
      · have hok := k_pos c66 hok
        refine lv_aload_n hx hb dX5_takeNewName_79 rfl (lv_at hl 1 rfl) ?_
        refine va_get (D := D) (ci := 4) (v := .long vR_j11) (C := RX5) (T := TX5) (N := 13) hx hb ht0 niX5 hown hK hP 0 rfl rfl 11 (by decide) (ht0 _ wd271) (fun _ h9 => h9) rfl dX5_takeNewName_80 ?_
        refine lv_lstore_n (lv' := [(2, .long vR_j11), (1, .int t0_43), (0, .ref aR)]) hx hb dX5_takeNewName_83 rfl hl (by decide) rfl (fun ls hl => ?_)
        refine lv_aload_n hx hb dX5_takeNewName_84 rfl (lv_at hl 2 rfl) ?_
        obtain ⟨⟨vR_j11_85, vR_85⟩, hc85, hok⟩ := k_bind hok
        try dsimp only at hok
        refine kCv (wc := (wX5_step cy aR qR aH vR_j11 vR vR_tape)) (wc2 := (wX5_step cy aR qR aH vR_j11_85 vR_85 vR_tape)) (wr := [(aH, oX4 vH qH), (qR 3, rJ cy 4 vR_ringNames), (qR 4, rJ cy 7 vR_thingNames)]) (ws2 := (wX5_takeNewName cy aR qR aH qH vR_j11_85 vR_85 vR_tape vH vR_ringNames vR_thingNames)) (kRunV (As := []) (rest := []) ⟨hx, hb, hml, hown, ht0⟩ (kX5_step l D cy _ aR qR aH vR_j11 vR vR_tape vR_j11_85 vR_85 hc85 _ rfl) (cwV 0 ht0 (gV wd328 wd329 wd330 wd276 wd331) rfl rfl rfl (by decide +kernel) ⟨Nat.le_of_ble_eq_true rfl, Nat.le_of_ble_eq_true rfl⟩) hK hN hP hD [0, 1] rfl (by decide) 0 4 rfl rfl rfl hl.1 rfl (Nat.le_of_ble_eq_true rfl) dX5_takeNewName_85 ⟨Nat.zero_le _, Nat.zero_le _⟩) hP hD hS hA [0, 1] [2, 3, 4] rfl rfl (by decide) (by decide) [3, 4, 0, 1, 2] (by decide) rfl rfl (fun H locs hP hD hS => ?_)
        refine lv_lload_n hx hb dX5_takeNewName_88 rfl (lv_at hl 0 rfl) ?_
        cases hok
        subst hQe; exact W.lret hx hb hr (fun t ht hW => ⟨⟨_, (), rfl, rfl, by rw [ht]; exact hP, va_K.moved hW.alike hK, hD⟩, hS.F ht⟩) hS.2.2 dX5_takeNewName_89
      · have hok := k_neg c66 hok
        exact J69  H locs ls hP hD hS (lv_sub hl [1] rfl) hok
  unfold fX5_takeNewName at hok
  obtain ⟨H, hH⟩ : ∃ H, H = s.heap := ⟨_, rfl⟩
  obtain ⟨locs, hlc⟩ : ∃ x : List Loc, x = [] := ⟨_, rfl⟩
  have hP : va_P D vwCl (wX5_takeNewName cy aR qR aH qH vR_j11 vR vR_tape vH vR_ringNames vR_thingNames) H := by rw [hH]; exact hP
  have hS : va_S A s.heap H locs := by rw [hH, hlc]; exact hS
  rw [show W p l e _ s m _ below meth c s.heap [] = W p l e _ s m _ below meth c H locs from by rw [hH, hlc]]
  refine lv_aload_n hx hb dX5_takeNewName_0 rfl (lv_at hl 0 rfl) ?_
  obtain ⟨r1, hc1, hok⟩ := k_bind hok
  refine kCi (wc := (wX5_isName cy aR qR aH vR_j11 vR vR_tape)) (wc2 := (wX5_isName cy aR qR aH vR_j11 vR vR_tape)) (wr := [(aH, oX4 vH qH), (qR 3, rJ cy 4 vR_ringNames), (qR 4, rJ cy 7 vR_thingNames)]) (ws2 := (wX5_takeNewName cy aR qR aH qH vR_j11 vR vR_tape vH vR_ringNames vR_thingNames)) (kRunVS (As := []) (rest := []) ⟨hx, hb, hml, hown, ht0⟩ (kX5_isName l D cy ad _ aR qR aH vR_j11 vR vR_tape r1 hc1 _ rfl) (cwV 0 ht0 (gV wd366 wd367 wd368 wd276 wd369) rfl rfl rfl (by decide +kernel) ⟨Nat.le_of_ble_eq_true rfl, Nat.le_of_ble_eq_true rfl⟩) hK hN hP hD hSt hS hA [0, 1] rfl (by decide) 0 4 rfl rfl rfl hl.1 rfl (Nat.le_of_ble_eq_true rfl) dX5_takeNewName_1 ⟨Nat.zero_le _, Nat.zero_le _⟩) hP hD hS hA [0, 1] [2, 3, 4] rfl rfl (by decide) (by decide) [3, 4, 0, 1, 2] (by decide) rfl rfl (fun H locs hP hD hS => ?_)
  refine lv_if_ne (tgt := 17) hx hb dX5_takeNewName_4 (by decide) (fun c4 => ?_) (fun c4 => ?_)
  · have hok := k_neg c4 hok
    refine lv_aload_n hx hb dX5_takeNewName_17 rfl (lv_at hl 0 rfl) ?_
    refine va_get (D := D) (ci := 4) (v := .long vR_j11) (C := RX5) (T := TX5) (N := 13) hx hb ht0 niX5 hown hK hP 0 rfl rfl 11 (by decide) (ht0 _ wd271) (fun _ h9 => h9) rfl dX5_takeNewName_18 ?_
    refine lv_aload_n hx hb dX5_takeNewName_21 rfl (lv_at hl 0 rfl) ?_
    refine va_get (D := D) (ci := 4) (v := .ref (qR 3)) (C := RX5) (T := TX5) (N := 13) hx hb ht0 niX5 hown hK hP 0 rfl rfl 3 (by decide) (ht0 _ wd370) (fun _ h9 => h9) rfl dX5_takeNewName_22 ?_
    refine lv_aload_n hx hb dX5_takeNewName_25 rfl (lv_at hl 0 rfl) ?_
    refine va_get (D := D) (ci := 4) (v := .ref aH) (C := RX5) (T := TX5) (N := 13) hx hb ht0 niX5 hown hK hP 0 rfl rfl 2 (by decide) (ht0 _ wd266) (fun _ h9 => h9) rfl dX5_takeNewName_26 ?_
    refine va_get (D := D) (ci := 3) (v := .int (vH 2)) (C := RX4) (T := TX4) (N := 20) hx hb ht0 niX4 hown hK hP 2 rfl rfl 2 (by decide) (ht0 _ wd360) (fun _ h9 => h9) rfl dX5_takeNewName_29 ?_
    obtain ⟨r32, hc32, hok⟩ := k_bind hok
    refine kCi (wc := (wX5_placeOfName cy (qR 3) 4 vR_ringNames)) (wc2 := (wX5_placeOfName cy (qR 3) 4 vR_ringNames)) (wr := [(aR, oX5 vR qR vR_j11 aH), (qR 0, rB cy 900 vR_tape), (aH, oX4 vH qH), (qR 4, rJ cy 7 vR_thingNames)]) (ws2 := (wX5_takeNewName cy aR qR aH qH vR_j11 vR vR_tape vH vR_ringNames vR_thingNames)) (kRunS (As := [.long vR_j11, .ref (qR 3), .int (vH 2)]) (rest := []) ⟨hx, hb, hml, hown, ht0⟩ (kX5_placeOfName l D cy _ (qR 3) 4 vR_ringNames vR_j11 (vH 2) r32 hc32 _ rfl) (va_cwS 3 ht0 (gS wd363 wd364 wd276 wd365) rfl rfl rfl (by decide +kernel) ⟨Nat.le_of_ble_eq_true rfl, Nat.le_of_ble_eq_true rfl⟩) hK hN hP hD [3] rfl (by decide) rfl hl.1 rfl (Nat.le_of_ble_eq_true rfl) dX5_takeNewName_32 ⟨Nat.zero_le _, Nat.zero_le _⟩) hP hD hS hA [3] [0, 1, 2, 4] rfl rfl (by decide) (by decide) [0, 1, 2, 4, 3] (by decide) rfl rfl (fun H locs hP hD hS => ?_)
    refine lv_if_lt (tgt := 42) hx hb dX5_takeNewName_35 (by decide) (fun c35 => ?_) (fun c35 => ?_)
    · have hok := k_pos c35 hok
      refine lv_iconst (v := 0) hx hb dX5_takeNewName_42 (by decide) ?_
      exact J43 (0 : Int32) H locs ls hP hD hS (lv_sub hl [0] rfl) hok
    · have hok := k_neg c35 hok
      refine lv_iconst (v := 1) hx hb dX5_takeNewName_38 (by decide) ?_
      refine lv_goto (tgt := 43) hx hb dX5_takeNewName_39 (by decide) ?_
      exact J43 (1 : Int32) H locs ls hP hD hS (lv_sub hl [0] rfl) hok
  · have hok := k_pos c4 hok
    refine lv_aload_n hx hb dX5_takeNewName_7 rfl (lv_at hl 0 rfl) ?_
    refine lv_iconst (v := 1) hx hb dX5_takeNewName_8 (by decide) ?_
    obtain ⟨⟨r9, vR_9⟩, hc9, hok⟩ := k_bind hok
    try dsimp only at hok
    refine kCi (wc := (wX5_fails cy aR qR aH vR_j11 vR)) (wc2 := (wX5_fails cy aR qR aH vR_j11 vR_9)) (wr := [(qR 0, rB cy 900 vR_tape), (aH, oX4 vH qH), (qR 3, rJ cy 4 vR_ringNames), (qR 4, rJ cy 7 vR_thingNames)]) (ws2 := (wX5_takeNewName cy aR qR aH qH vR_j11 vR_9 vR_tape vH vR_ringNames vR_thingNames)) (kRunV (As := [.int 1]) (rest := []) ⟨hx, hb, hml, hown, ht0⟩ (kX5_fails l D cy _ aR qR aH vR_j11 vR (1 : Int32) r9 vR_9 hc9 _ rfl) (cwV 1 ht0 (gV wd332 wd333 wd334 wd276 wd335) rfl rfl rfl (by decide +kernel) ⟨Nat.le_of_ble_eq_true rfl, Nat.le_of_ble_eq_true rfl⟩) hK hN hP hD [0] rfl (by decide) 0 4 rfl rfl rfl hl.1 rfl (Nat.le_of_ble_eq_true rfl) dX5_takeNewName_9 ⟨Nat.zero_le _, Nat.zero_le _⟩) hP hD hS hA [0] [1, 2, 3, 4] rfl rfl (by decide) (by decide) [4, 0, 1, 2, 3] (by decide) rfl rfl (fun H locs hP hD hS => ?_)
    refine lv_pop hx hb dX5_takeNewName_12 rfl ?_
    refine lv_ldc2 (v := -1) hx hb hown (ht0 _ wd361) dX5_takeNewName_13 ?_
    cases hok
    subst hQe; exact W.lret hx hb hr (fun t ht hW => ⟨⟨_, (), rfl, rfl, by rw [ht]; exact hP, va_K.moved hW.alike hK, hD⟩, hS.F ht⟩) hS.2.2 dX5_takeNewName_16
def wsX5_sortSaid : List Cond := .code yX5_sortSaid cX5_sortSaid 1 (some .int) :: W0
abbrev wX5_sortSaid (cy : Nat → ClassId) (aR : Nat) (qR : Nat → Nat) (aH : Nat) (vR_j11 : Int64) (vR : Nat → Int32) (vR_tape : Nat → Int32) : va_W := [(aR, oX5 vR qR vR_j11 aH), (qR 0, rB cy 900 vR_tape)]
set_option maxHeartbeats 4000000 in
set_option maxRecDepth 100000 in
theorem kX5_sortSaid (l : Launch) (D : va_G) (cy : Nat → ClassId) (ad : (Nat → Nat) × (Nat → Nat)) (sz : Nat) (aR : Nat) (qR : Nat → Nat) (aH : Nat) (vR_j11 : Int64) (vR : Nat → Int32) (vR_tape : Nat → Int32) (zr : Int32) (hok : fX5_sortSaid vR_j11 vR vR_tape = some zr) (A : Nat → Prop) (hAe : va_A (wX5_sortSaid cy aR qR aH vR_j11 vR vR_tape) sz = A) : Met l yX5_sortSaid wsX5_sortSaid ({ frames := 5, cells := 0, slots := 0, locals := 108 } : Room) (kPreS D cy ad [.ref aR] (wX5_sortSaid cy aR qR aH vR_j11 vR vR_tape) sz A) (kQi D cy zr A (wX5_sortSaid cy aR qR aH vR_j11 vR vR_tape)) 0 0 A := by
  refine Met.ofW (cc := cX5_sortSaid) (maxL := 1) (ret := (some .int)) (by decide) rfl ?_
  intro p e s m args below meth c s₁ B hml hv
  obtain ⟨rfl, ⟨hsz, hP, hK, hD0, hN⟩, hSt⟩ := hv
  have hx := B.exec
  have hb := B.bytes
  have hr := B.returns
  have ht0 : ∀ w ∈ W0, w.before _ s = true := fun w h => atoms_spec (ws := wsX5_sortSaid) B.pre w (List.mem_cons_of_mem _ h)
  have hown : s.vm.findClass RX5 = some m.cls := findClass_of_methodNamed B.named
  have hlocks := B.notSynchronized
  subst hsz
  have hD : va_D A (wX5_sortSaid cy aR qR aH vR_j11 vR vR_tape) := by rw [← hAe]; exact hD0.self
  have hA : ∀ q : Nat, s.heap.size ≤ q → A q := fun q h => by rw [← hAe]; exact Or.inr h
  have hS : va_S A s.heap s.heap [] := va_S.rf
  have hl := lv_entry ([.ref aR]) (n := 1) (Nat.le_of_ble_eq_true rfl)
  rw [lg_entry_eq]
  generalize (lg_sl ([.ref aR]) ++ List.replicate (1 - (lg_sl ([.ref aR])).length) Slot.unset).toArray = ls at hl ⊢
  have hl : lv_has ls 1 [(0, .ref aR)] := hl
  generalize hQe : MQ below (kQi D cy zr A (wX5_sortSaid cy aR qR aH vR_j11 vR vR_tape)) ([.ref aR] : List Value).toArray s 0 0 A = Q
  have J36 : ∀ (t0_36 : Int32), ∀ (H : Heap) (locs : List Loc) (ls : Array Slot), va_P D vwCl (wX5_sortSaid cy aR qR aH vR_j11 vR vR_tape) H → va_D A (wX5_sortSaid cy aR qR aH vR_j11 vR vR_tape) → va_S A s.heap H locs → lv_has ls 1 [] → fX5_sortSaid_J36 t0_36 = some zr → W p l e ({ frames := 5, cells := 0, slots := 0, locals := 108 } : Room) s m ([.ref aR] : List Value).toArray below meth c H locs 0 0 Q (F0 m 36 ls [.int t0_36]) := by
    intro t0_36 H locs ls hP hD hS hl hok
    unfold fX5_sortSaid_J36 at hok
    cases hok
    subst hQe; exact W.iret hx hb hr (fun t ht hW => ⟨⟨_, (), rfl, rfl, by rw [ht]; exact hP, va_K.moved hW.alike hK, hD⟩, hS.F ht⟩) hS.2.2 dX5_sortSaid_36
  unfold fX5_sortSaid at hok
  obtain ⟨H, hH⟩ : ∃ H, H = s.heap := ⟨_, rfl⟩
  obtain ⟨locs, hlc⟩ : ∃ x : List Loc, x = [] := ⟨_, rfl⟩
  have hP : va_P D vwCl (wX5_sortSaid cy aR qR aH vR_j11 vR vR_tape) H := by rw [hH]; exact hP
  have hS : va_S A s.heap H locs := by rw [hH, hlc]; exact hS
  rw [show W p l e _ s m _ below meth c s.heap [] = W p l e _ s m _ below meth c H locs from by rw [hH, hlc]]
  refine lv_aload_n hx hb dX5_sortSaid_0 rfl (lv_at hl 0 rfl) ?_
  refine va_ldcS hx hb hown (hSt.2.1 _ (List.mem_of_getElem? (i := 8) rfl)) dX5_sortSaid_1 ?_
  obtain ⟨r3, hc3, hok⟩ := k_bind hok
  refine kCi (wc := (wX5_says cy aR qR aH vR_j11 vR vR_tape)) (wc2 := (wX5_says cy aR qR aH vR_j11 vR vR_tape)) (wr := []) (ws2 := (wX5_sortSaid cy aR qR aH vR_j11 vR vR_tape)) (kRunVS (As := [.ref (ad.1 17)]) (rest := []) ⟨hx, hb, hml, hown, ht0⟩ (kX5_says l D cy ad _ aR qR aH vR_j11 vR vR_tape 17 r3 hc3 _ rfl) (cwV 1 ht0 (gV wd324 wd325 wd326 wd276 wd327) rfl rfl rfl (by decide +kernel) ⟨Nat.le_of_ble_eq_true rfl, Nat.le_of_ble_eq_true rfl⟩) hK hN hP hD hSt hS hA [0, 1] rfl (by decide) 0 4 rfl rfl rfl hl.1 rfl (Nat.le_of_ble_eq_true rfl) dX5_sortSaid_3 ⟨Nat.zero_le _, Nat.zero_le _⟩) hP hD hS hA [0, 1] [] rfl rfl (by decide) (by decide) [0, 1] (by decide) rfl rfl (fun H locs hP hD hS => ?_)
  refine lv_if_eq (tgt := 11) hx hb dX5_sortSaid_6 (by decide) (fun c6 => ?_) (fun c6 => ?_)
  · have hok := k_pos c6 hok
    refine lv_aload_n hx hb dX5_sortSaid_11 rfl (lv_at hl 0 rfl) ?_
    refine va_ldcS hx hb hown (hSt.2.1 _ (List.mem_of_getElem? (i := 9) rfl)) dX5_sortSaid_12 ?_
    obtain ⟨r14, hc14, hok⟩ := k_bind hok
    refine kCi (wc := (wX5_says cy aR qR aH vR_j11 vR vR_tape)) (wc2 := (wX5_says cy aR qR aH vR_j11 vR vR_tape)) (wr := []) (ws2 := (wX5_sortSaid cy aR qR aH vR_j11 vR vR_tape)) (kRunVS (As := [.ref (ad.1 4)]) (rest := []) ⟨hx, hb, hml, hown, ht0⟩ (kX5_says l D cy ad _ aR qR aH vR_j11 vR vR_tape 4 r14 hc14 _ rfl) (cwV 1 ht0 (gV wd324 wd325 wd326 wd276 wd327) rfl rfl rfl (by decide +kernel) ⟨Nat.le_of_ble_eq_true rfl, Nat.le_of_ble_eq_true rfl⟩) hK hN hP hD hSt hS hA [0, 1] rfl (by decide) 0 4 rfl rfl rfl hl.1 rfl (Nat.le_of_ble_eq_true rfl) dX5_sortSaid_14 ⟨Nat.zero_le _, Nat.zero_le _⟩) hP hD hS hA [0, 1] [] rfl rfl (by decide) (by decide) [0, 1] (by decide) rfl rfl (fun H locs hP hD hS => ?_)
    refine lv_if_eq (tgt := 22) hx hb dX5_sortSaid_17 (by decide) (fun c17 => ?_) (fun c17 => ?_)
    · have hok := k_pos c17 hok
      refine lv_aload_n hx hb dX5_sortSaid_22 rfl (lv_at hl 0 rfl) ?_
      refine va_ldcS hx hb hown (hSt.2.1 _ (List.mem_of_getElem? (i := 10) rfl)) dX5_sortSaid_23 ?_
      obtain ⟨r25, hc25, hok⟩ := k_bind hok
      refine kCi (wc := (wX5_says cy aR qR aH vR_j11 vR vR_tape)) (wc2 := (wX5_says cy aR qR aH vR_j11 vR vR_tape)) (wr := []) (ws2 := (wX5_sortSaid cy aR qR aH vR_j11 vR vR_tape)) (kRunVS (As := [.ref (ad.1 1)]) (rest := []) ⟨hx, hb, hml, hown, ht0⟩ (kX5_says l D cy ad _ aR qR aH vR_j11 vR vR_tape 1 r25 hc25 _ rfl) (cwV 1 ht0 (gV wd324 wd325 wd326 wd276 wd327) rfl rfl rfl (by decide +kernel) ⟨Nat.le_of_ble_eq_true rfl, Nat.le_of_ble_eq_true rfl⟩) hK hN hP hD hSt hS hA [0, 1] rfl (by decide) 0 4 rfl rfl rfl hl.1 rfl (Nat.le_of_ble_eq_true rfl) dX5_sortSaid_25 ⟨Nat.zero_le _, Nat.zero_le _⟩) hP hD hS hA [0, 1] [] rfl rfl (by decide) (by decide) [0, 1] (by decide) rfl rfl (fun H locs hP hD hS => ?_)
      refine lv_if_eq (tgt := 35) hx hb dX5_sortSaid_28 (by decide) (fun c28 => ?_) (fun c28 => ?_)
      · have hok := k_pos c28 hok
        refine lv_iconst (v := -1) hx hb dX5_sortSaid_35 (by decide) ?_
        exact J36 (-1 : Int32) H locs ls hP hD hS (lv_sub hl [] rfl) hok
      · have hok := k_neg c28 hok
        refine lv_iconst (v := 2) hx hb dX5_sortSaid_31 (by decide) ?_
        refine lv_goto (tgt := 36) hx hb dX5_sortSaid_32 (by decide) ?_
        exact J36 (2 : Int32) H locs ls hP hD hS (lv_sub hl [] rfl) hok
    · have hok := k_neg c17 hok
      refine lv_iconst (v := 1) hx hb dX5_sortSaid_20 (by decide) ?_
      cases hok
      subst hQe; exact W.iret hx hb hr (fun t ht hW => ⟨⟨_, (), rfl, rfl, by rw [ht]; exact hP, va_K.moved hW.alike hK, hD⟩, hS.F ht⟩) hS.2.2 dX5_sortSaid_21
  · have hok := k_neg c6 hok
    refine lv_iconst (v := 0) hx hb dX5_sortSaid_9 (by decide) ?_
    cases hok
    subst hQe; exact W.iret hx hb hr (fun t ht hW => ⟨⟨_, (), rfl, rfl, by rw [ht]; exact hP, va_K.moved hW.alike hK, hD⟩, hS.F ht⟩) hS.2.2 dX5_sortSaid_10
def wsX5_takeChoice : List Cond := .code yX5_takeChoice cX5_takeChoice 2 (some .int) :: W0
abbrev wX5_takeChoice (cy : Nat → ClassId) (aR : Nat) (qR : Nat → Nat) (aH : Nat) (vR_j11 : Int64) (vR : Nat → Int32) (vR_tape : Nat → Int32) : va_W := [(aR, oX5 vR qR vR_j11 aH), (qR 0, rB cy 900 vR_tape)]
set_option maxHeartbeats 4000000 in
set_option maxRecDepth 100000 in
theorem kX5_takeChoice (l : Launch) (D : va_G) (cy : Nat → ClassId) (sz : Nat) (aR : Nat) (qR : Nat → Nat) (aH : Nat) (vR_j11 : Int64) (vR : Nat → Int32) (vR_tape : Nat → Int32) (x1 : Int32) (zr : Int32) (z_vR_j11 : Int64) (z_vR : Nat → Int32) (hok : fX5_takeChoice vR_j11 vR vR_tape x1 = some (zr, z_vR_j11, z_vR)) (A : Nat → Prop) (hAe : va_A (wX5_takeChoice cy aR qR aH vR_j11 vR vR_tape) sz = A) : Met l yX5_takeChoice wsX5_takeChoice ({ frames := 2, cells := 0, slots := 0, locals := 43 } : Room) (kPre D cy [.ref aR, .int x1] (wX5_takeChoice cy aR qR aH vR_j11 vR vR_tape) sz) (kQi D cy zr A (wX5_takeChoice cy aR qR aH z_vR_j11 z_vR vR_tape)) 0 0 A := by
  refine Met.ofW (cc := cX5_takeChoice) (maxL := 2) (ret := (some .int)) (by decide) rfl ?_
  intro p e s m args below meth c s₁ B hml hv
  obtain ⟨rfl, hsz, hP, hK, hD0, hN⟩ := hv
  have hx := B.exec
  have hb := B.bytes
  have hr := B.returns
  have ht0 : ∀ w ∈ W0, w.before _ s = true := fun w h => atoms_spec (ws := wsX5_takeChoice) B.pre w (List.mem_cons_of_mem _ h)
  have hown : s.vm.findClass RX5 = some m.cls := findClass_of_methodNamed B.named
  have hlocks := B.notSynchronized
  subst hsz
  have hD : va_D A (wX5_takeChoice cy aR qR aH vR_j11 vR vR_tape) := by rw [← hAe]; exact hD0.self
  have hA : ∀ q : Nat, s.heap.size ≤ q → A q := fun q h => by rw [← hAe]; exact Or.inr h
  have hS : va_S A s.heap s.heap [] := va_S.rf
  have hl := lv_entry ([.ref aR, .int x1]) (n := 2) (Nat.le_of_ble_eq_true rfl)
  rw [lg_entry_eq]
  generalize (lg_sl ([.ref aR, .int x1]) ++ List.replicate (2 - (lg_sl ([.ref aR, .int x1])).length) Slot.unset).toArray = ls at hl ⊢
  have hl : lv_has ls 2 [(0, .ref aR), (1, .int x1)] := hl
  unfold fX5_takeChoice at hok
  obtain ⟨H, hH⟩ : ∃ H, H = s.heap := ⟨_, rfl⟩
  obtain ⟨locs, hlc⟩ : ∃ x : List Loc, x = [] := ⟨_, rfl⟩
  have hP : va_P D vwCl (wX5_takeChoice cy aR qR aH vR_j11 vR vR_tape) H := by rw [hH]; exact hP
  have hS : va_S A s.heap H locs := by rw [hH, hlc]; exact hS
  rw [show W p l e _ s m _ below meth c s.heap [] = W p l e _ s m _ below meth c H locs from by rw [hH, hlc]]
  refine lv_iload_n hx hb dX5_takeChoice_0 rfl (lv_at hl 1 rfl) ?_
  refine lv_if_ge (tgt := 12) hx hb dX5_takeChoice_1 (by decide) (fun c1 => ?_) (fun c1 => ?_)
  · have hok := k_pos c1 hok
    refine lv_aload_n hx hb dX5_takeChoice_12 rfl (lv_at hl 0 rfl) ?_
    obtain ⟨⟨vR_j11_13, vR_13⟩, hc13, hok⟩ := k_bind hok
    try dsimp only at hok
    refine kCv (wc := (wX5_step cy aR qR aH vR_j11 vR vR_tape)) (wc2 := (wX5_step cy aR qR aH vR_j11_13 vR_13 vR_tape)) (wr := []) (ws2 := (wX5_takeChoice cy aR qR aH vR_j11_13 vR_13 vR_tape)) (kRunV (As := []) (rest := []) ⟨hx, hb, hml, hown, ht0⟩ (kX5_step l D cy _ aR qR aH vR_j11 vR vR_tape vR_j11_13 vR_13 hc13 _ rfl) (cwV 0 ht0 (gV wd328 wd329 wd330 wd276 wd331) rfl rfl rfl (by decide +kernel) ⟨Nat.le_of_ble_eq_true rfl, Nat.le_of_ble_eq_true rfl⟩) hK hN hP hD [0, 1] rfl (by decide) 0 4 rfl rfl rfl hl.1 rfl (Nat.le_of_ble_eq_true rfl) dX5_takeChoice_13 ⟨Nat.zero_le _, Nat.zero_le _⟩) hP hD hS hA [0, 1] [] rfl rfl (by decide) (by decide) [0, 1] (by decide) rfl rfl (fun H locs hP hD hS => ?_)
    refine lv_iload_n hx hb dX5_takeChoice_16 rfl (lv_at hl 1 rfl) ?_
    cases hok
    exact W.iret hx hb hr (fun t ht hW => ⟨⟨_, (), rfl, rfl, by rw [ht]; exact hP, va_K.moved hW.alike hK, hD⟩, hS.F ht⟩) hS.2.2 dX5_takeChoice_17
  · have hok := k_neg c1 hok
    refine lv_aload_n hx hb dX5_takeChoice_4 rfl (lv_at hl 0 rfl) ?_
    refine lv_iconst (v := 1) hx hb dX5_takeChoice_5 (by decide) ?_
    obtain ⟨⟨r6, vR_6⟩, hc6, hok⟩ := k_bind hok
    try dsimp only at hok
    refine kCi (wc := (wX5_fails cy aR qR aH vR_j11 vR)) (wc2 := (wX5_fails cy aR qR aH vR_j11 vR_6)) (wr := [(qR 0, rB cy 900 vR_tape)]) (ws2 := (wX5_takeChoice cy aR qR aH vR_j11 vR_6 vR_tape)) (kRunV (As := [.int 1]) (rest := []) ⟨hx, hb, hml, hown, ht0⟩ (kX5_fails l D cy _ aR qR aH vR_j11 vR (1 : Int32) r6 vR_6 hc6 _ rfl) (cwV 1 ht0 (gV wd332 wd333 wd334 wd276 wd335) rfl rfl rfl (by decide +kernel) ⟨Nat.le_of_ble_eq_true rfl, Nat.le_of_ble_eq_true rfl⟩) hK hN hP hD [0] rfl (by decide) 0 4 rfl rfl rfl hl.1 rfl (Nat.le_of_ble_eq_true rfl) dX5_takeChoice_6 ⟨Nat.zero_le _, Nat.zero_le _⟩) hP hD hS hA [0] [1] rfl rfl (by decide) (by decide) [1, 0] (by decide) rfl rfl (fun H locs hP hD hS => ?_)
    refine lv_pop hx hb dX5_takeChoice_9 rfl ?_
    refine lv_iconst (v := -1) hx hb dX5_takeChoice_10 (by decide) ?_
    cases hok
    exact W.iret hx hb hr (fun t ht hW => ⟨⟨_, (), rfl, rfl, by rw [ht]; exact hP, va_K.moved hW.alike hK, hD⟩, hS.F ht⟩) hS.2.2 dX5_takeChoice_11
def wsX5_readRing : List Cond := .code yX5_readRing cX5_readRing 5 (some .boolean) :: W0
abbrev wX5_readRing (cy : Nat → ClassId) (aR : Nat) (qR : Nat → Nat) (aH : Nat) (qH : Nat → Nat) (vR_j11 : Int64) (vR : Nat → Int32) (vR_tape : Nat → Int32) (vH : Nat → Int32) (vR_ringNames : Nat → Int64) (vR_thingNames : Nat → Int64) (vH_sorts : Nat → Int32) (vH_places : Nat → Int32) (vH_next : Nat → Int32) : va_W := [(aR, oX5 vR qR vR_j11 aH), (qR 0, rB cy 900 vR_tape), (aH, oX4 vH qH), (qR 3, rJ cy 4 vR_ringNames), (qR 4, rJ cy 7 vR_thingNames), (qH 8, rI cy 4 vH_sorts), (qH 9, rI cy 4 vH_places), (qH 10, rI cy 36 vH_next)]
set_option maxHeartbeats 4000000 in
set_option maxRecDepth 100000 in
theorem kX5_readRing (l : Launch) (D : va_G) (cy : Nat → ClassId) (ad : (Nat → Nat) × (Nat → Nat)) (sz : Nat) (aR : Nat) (qR : Nat → Nat) (aH : Nat) (qH : Nat → Nat) (vR_j11 : Int64) (vR : Nat → Int32) (vR_tape : Nat → Int32) (vH : Nat → Int32) (vR_ringNames : Nat → Int64) (vR_thingNames : Nat → Int64) (vH_sorts : Nat → Int32) (vH_places : Nat → Int32) (vH_next : Nat → Int32) (zr : Int32) (z_vR_j11 : Int64) (z_vR : Nat → Int32) (z_vH : Nat → Int32) (z_vR_ringNames : Nat → Int64) (z_vH_sorts : Nat → Int32) (z_vH_places : Nat → Int32) (z_vH_next : Nat → Int32) (hok : fX5_readRing vR_j11 vR vR_tape vH vR_ringNames vR_thingNames vH_sorts vH_places vH_next = some (zr, z_vR_j11, z_vR, z_vH, z_vR_ringNames, z_vH_sorts, z_vH_places, z_vH_next)) (A : Nat → Prop) (hAe : va_A (wX5_readRing cy aR qR aH qH vR_j11 vR vR_tape vH vR_ringNames vR_thingNames vH_sorts vH_places vH_next) sz = A) : Met l yX5_readRing wsX5_readRing ({ frames := 7, cells := 0, slots := 0, locals := 153 } : Room) (kPreS D cy ad [.ref aR] (wX5_readRing cy aR qR aH qH vR_j11 vR vR_tape vH vR_ringNames vR_thingNames vH_sorts vH_places vH_next) sz A) (kQi D cy zr A (wX5_readRing cy aR qR aH qH z_vR_j11 z_vR vR_tape z_vH z_vR_ringNames vR_thingNames z_vH_sorts z_vH_places z_vH_next)) 0 0 A := by
  refine Met.ofW (cc := cX5_readRing) (maxL := 5) (ret := (some .boolean)) (by decide) rfl ?_
  intro p e s m args below meth c s₁ B hml hv
  obtain ⟨rfl, ⟨hsz, hP, hK, hD0, hN⟩, hSt⟩ := hv
  have hx := B.exec
  have hb := B.bytes
  have hr := B.returns
  have ht0 : ∀ w ∈ W0, w.before _ s = true := fun w h => atoms_spec (ws := wsX5_readRing) B.pre w (List.mem_cons_of_mem _ h)
  have hown : s.vm.findClass RX5 = some m.cls := findClass_of_methodNamed B.named
  have hlocks := B.notSynchronized
  subst hsz
  have hD : va_D A (wX5_readRing cy aR qR aH qH vR_j11 vR vR_tape vH vR_ringNames vR_thingNames vH_sorts vH_places vH_next) := by rw [← hAe]; exact hD0.self
  have hA : ∀ q : Nat, s.heap.size ≤ q → A q := fun q h => by rw [← hAe]; exact Or.inr h
  have hS : va_S A s.heap s.heap [] := va_S.rf
  have hl := lv_entry ([.ref aR]) (n := 5) (Nat.le_of_ble_eq_true rfl)
  rw [lg_entry_eq]
  generalize (lg_sl ([.ref aR]) ++ List.replicate (5 - (lg_sl ([.ref aR])).length) Slot.unset).toArray = ls at hl ⊢
  have hl : lv_has ls 5 [(0, .ref aR)] := hl
  generalize hQe : MQ below (kQi D cy zr A (wX5_readRing cy aR qR aH qH z_vR_j11 z_vR vR_tape z_vH z_vR_ringNames vR_thingNames z_vH_sorts z_vH_places z_vH_next)) ([.ref aR] : List Value).toArray s 0 0 A = Q
  have J76 : ∀ (vR_11_76 : Int64) (vR_76 : Nat → Int32), ∀ (H : Heap) (locs : List Loc) (ls : Array Slot), va_P D vwCl (wX5_readRing cy aR qR aH qH vR_11_76 vR_76 vR_tape vH vR_ringNames vR_thingNames vH_sorts vH_places vH_next) H → va_D A (wX5_readRing cy aR qR aH qH vR_11_76 vR_76 vR_tape vH vR_ringNames vR_thingNames vH_sorts vH_places vH_next) → va_S A s.heap H locs → lv_has ls 5 [] → fX5_readRing_J76 vH vR_ringNames vH_sorts vH_places vH_next vR_11_76 vR_76 = some (zr, z_vR_j11, z_vR, z_vH, z_vR_ringNames, z_vH_sorts, z_vH_places, z_vH_next) → W p l e ({ frames := 7, cells := 0, slots := 0, locals := 153 } : Room) s m ([.ref aR] : List Value).toArray below meth c H locs 0 0 Q (F0 m 76 ls []) := by
    intro vR_11_76 vR_76 H locs ls hP hD hS hl hok
    unfold fX5_readRing_J76 at hok
    refine lv_iconst (v := 0) hx hb dX5_readRing_76 (by decide) ?_
    cases hok
    subst hQe; exact W.zret hx hb hr rfl (fun t ht hW => ⟨⟨_, (), rfl, rfl, by rw [ht]; exact hP, va_K.moved hW.alike hK, hD⟩, hS.F ht⟩) hS.2.2 dX5_readRing_77
  have J39 : ∀ (vR_11_39 : Int64) (vR_39 : Nat → Int32), ∀ (H : Heap) (locs : List Loc) (ls : Array Slot), va_P D vwCl (wX5_readRing cy aR qR aH qH vR_11_39 vR_39 vR_tape vH vR_ringNames vR_thingNames vH_sorts vH_places vH_next) H → va_D A (wX5_readRing cy aR qR aH qH vR_11_39 vR_39 vR_tape vH vR_ringNames vR_thingNames vH_sorts vH_places vH_next) → va_S A s.heap H locs → lv_has ls 5 [] → fX5_readRing_J39 vH vR_ringNames vH_sorts vH_places vH_next vR_11_39 vR_39 = some (zr, z_vR_j11, z_vR, z_vH, z_vR_ringNames, z_vH_sorts, z_vH_places, z_vH_next) → W p l e ({ frames := 7, cells := 0, slots := 0, locals := 153 } : Room) s m ([.ref aR] : List Value).toArray below meth c H locs 0 0 Q (F0 m 39 ls []) := by
    intro vR_11_39 vR_39 H locs ls hP hD hS hl hok
    unfold fX5_readRing_J39 at hok
    refine lv_iconst (v := 0) hx hb dX5_readRing_39 (by decide) ?_
    cases hok
    subst hQe; exact W.zret hx hb hr rfl (fun t ht hW => ⟨⟨_, (), rfl, rfl, by rw [ht]; exact hP, va_K.moved hW.alike hK, hD⟩, hS.F ht⟩) hS.2.2 dX5_readRing_40
  unfold fX5_readRing at hok
  obtain ⟨H, hH⟩ : ∃ H, H = s.heap := ⟨_, rfl⟩
  obtain ⟨locs, hlc⟩ : ∃ x : List Loc, x = [] := ⟨_, rfl⟩
  have hP : va_P D vwCl (wX5_readRing cy aR qR aH qH vR_j11 vR vR_tape vH vR_ringNames vR_thingNames vH_sorts vH_places vH_next) H := by rw [hH]; exact hP
  have hS : va_S A s.heap H locs := by rw [hH, hlc]; exact hS
  rw [show W p l e _ s m _ below meth c s.heap [] = W p l e _ s m _ below meth c H locs from by rw [hH, hlc]]
  refine lv_aload_n hx hb dX5_readRing_0 rfl (lv_at hl 0 rfl) ?_
  obtain ⟨⟨vR_j11_1, vR_1⟩, hc1, hok⟩ := k_bind hok
  try dsimp only at hok
  refine kCv (wc := (wX5_step cy aR qR aH vR_j11 vR vR_tape)) (wc2 := (wX5_step cy aR qR aH vR_j11_1 vR_1 vR_tape)) (wr := [(aH, oX4 vH qH), (qR 3, rJ cy 4 vR_ringNames), (qR 4, rJ cy 7 vR_thingNames), (qH 8, rI cy 4 vH_sorts), (qH 9, rI cy 4 vH_places), (qH 10, rI cy 36 vH_next)]) (ws2 := (wX5_readRing cy aR qR aH qH vR_j11_1 vR_1 vR_tape vH vR_ringNames vR_thingNames vH_sorts vH_places vH_next)) (kRunV (As := []) (rest := []) ⟨hx, hb, hml, hown, ht0⟩ (kX5_step l D cy _ aR qR aH vR_j11 vR vR_tape vR_j11_1 vR_1 hc1 _ rfl) (cwV 0 ht0 (gV wd328 wd329 wd330 wd276 wd331) rfl rfl rfl (by decide +kernel) ⟨Nat.le_of_ble_eq_true rfl, Nat.le_of_ble_eq_true rfl⟩) hK hN hP hD [0, 1] rfl (by decide) 0 4 rfl rfl rfl hl.1 rfl (Nat.le_of_ble_eq_true rfl) dX5_readRing_1 ⟨Nat.zero_le _, Nat.zero_le _⟩) hP hD hS hA [0, 1] [2, 3, 4, 5, 6, 7] rfl rfl (by decide) (by decide) [6, 7, 0, 1, 2, 3, 4, 5] (by decide) rfl rfl (fun H locs hP hD hS => ?_)
  refine lv_aload_n hx hb dX5_readRing_4 rfl (lv_at hl 0 rfl) ?_
  obtain ⟨⟨r5, vR_j11_5, vR_5⟩, hc5, hok⟩ := k_bind hok
  try dsimp only at hok
  refine kCl (wc := (wX5_takeNewName cy aR qR aH qH vR_j11_1 vR_1 vR_tape vH vR_ringNames vR_thingNames)) (wc2 := (wX5_takeNewName cy aR qR aH qH vR_j11_5 vR_5 vR_tape vH vR_ringNames vR_thingNames)) (wr := [(qH 8, rI cy 4 vH_sorts), (qH 9, rI cy 4 vH_places), (qH 10, rI cy 36 vH_next)]) (ws2 := (wX5_readRing cy aR qR aH qH vR_j11_5 vR_5 vR_tape vH vR_ringNames vR_thingNames vH_sorts vH_places vH_next)) (kRunVS (As := []) (rest := []) ⟨hx, hb, hml, hown, ht0⟩ (kX5_takeNewName l D cy ad _ aR qR aH qH vR_j11_1 vR_1 vR_tape vH vR_ringNames vR_thingNames r5 vR_j11_5 vR_5 hc5 _ rfl) (cwV 0 ht0 (gV wd371 wd372 wd373 wd276 wd374) rfl rfl rfl (by decide +kernel) ⟨Nat.le_of_ble_eq_true rfl, Nat.le_of_ble_eq_true rfl⟩) hK hN hP hD hSt hS hA [0, 1, 2, 3, 4] rfl (by decide) 0 4 rfl rfl rfl hl.1 rfl (Nat.le_of_ble_eq_true rfl) dX5_readRing_5 ⟨Nat.zero_le _, Nat.zero_le _⟩) hP hD hS hA [0, 1, 2, 3, 4] [5, 6, 7] rfl rfl (by decide) (by decide) [3, 4, 5, 6, 7, 0, 1, 2] (by decide) rfl rfl (fun H locs hP hD hS => ?_)
  refine lv_lstore_n (lv' := [(1, .long r5), (0, .ref aR)]) hx hb dX5_readRing_8 rfl hl (by decide) rfl (fun ls hl => ?_)
  refine lv_lload_n hx hb dX5_readRing_9 rfl (lv_at hl 0 rfl) ?_
  refine lv_lconst (v := 0) hx hb dX5_readRing_10 (by decide) ?_
  refine W.lcmp hx hb dX5_readRing_11 ?_
  refine lv_if_ge (tgt := 17) hx hb dX5_readRing_12 (by decide) (fun c12 => ?_) (fun c12 => ?_)
  · have hok := k_pos c12 hok
    refine lv_aload_n hx hb dX5_readRing_17 rfl (lv_at hl 1 rfl) ?_
    refine lv_aload_n hx hb dX5_readRing_18 rfl (lv_at hl 1 rfl) ?_
    obtain ⟨r19, hc19, hok⟩ := k_bind hok
    refine kCi (wc := (wX5_sortSaid cy aR qR aH vR_j11_5 vR_5 vR_tape)) (wc2 := (wX5_sortSaid cy aR qR aH vR_j11_5 vR_5 vR_tape)) (wr := [(aH, oX4 vH qH), (qR 3, rJ cy 4 vR_ringNames), (qR 4, rJ cy 7 vR_thingNames), (qH 8, rI cy 4 vH_sorts), (qH 9, rI cy 4 vH_places), (qH 10, rI cy 36 vH_next)]) (ws2 := (wX5_readRing cy aR qR aH qH vR_j11_5 vR_5 vR_tape vH vR_ringNames vR_thingNames vH_sorts vH_places vH_next)) (kRunVS (As := []) (rest := [.ref aR]) ⟨hx, hb, hml, hown, ht0⟩ (kX5_sortSaid l D cy ad _ aR qR aH vR_j11_5 vR_5 vR_tape r19 hc19 _ rfl) (cwV 0 ht0 (gV wd375 wd376 wd377 wd276 wd378) rfl rfl rfl (by decide +kernel) ⟨Nat.le_of_ble_eq_true rfl, Nat.le_of_ble_eq_true rfl⟩) hK hN hP hD hSt hS hA [0, 1] rfl (by decide) 0 4 rfl rfl rfl hl.1 rfl (Nat.le_of_ble_eq_true rfl) dX5_readRing_19 ⟨Nat.zero_le _, Nat.zero_le _⟩) hP hD hS hA [0, 1] [2, 3, 4, 5, 6, 7] rfl rfl (by decide) (by decide) [6, 7, 0, 1, 2, 3, 4, 5] (by decide) rfl rfl (fun H locs hP hD hS => ?_)
    obtain ⟨⟨r22, vR_j11_22, vR_22⟩, hc22, hok⟩ := k_bind hok
    try dsimp only at hok
    refine kCi (wc := (wX5_takeChoice cy aR qR aH vR_j11_5 vR_5 vR_tape)) (wc2 := (wX5_takeChoice cy aR qR aH vR_j11_22 vR_22 vR_tape)) (wr := [(aH, oX4 vH qH), (qR 3, rJ cy 4 vR_ringNames), (qR 4, rJ cy 7 vR_thingNames), (qH 8, rI cy 4 vH_sorts), (qH 9, rI cy 4 vH_places), (qH 10, rI cy 36 vH_next)]) (ws2 := (wX5_readRing cy aR qR aH qH vR_j11_22 vR_22 vR_tape vH vR_ringNames vR_thingNames vH_sorts vH_places vH_next)) (kRunV (As := [.int r19]) (rest := []) ⟨hx, hb, hml, hown, ht0⟩ (kX5_takeChoice l D cy _ aR qR aH vR_j11_5 vR_5 vR_tape r19 r22 vR_j11_22 vR_22 hc22 _ rfl) (cwV 1 ht0 (gV wd379 wd380 wd381 wd276 wd382) rfl rfl rfl (by decide +kernel) ⟨Nat.le_of_ble_eq_true rfl, Nat.le_of_ble_eq_true rfl⟩) hK hN hP hD [0, 1] rfl (by decide) 0 4 rfl rfl rfl hl.1 rfl (Nat.le_of_ble_eq_true rfl) dX5_readRing_22 ⟨Nat.zero_le _, Nat.zero_le _⟩) hP hD hS hA [0, 1] [2, 3, 4, 5, 6, 7] rfl rfl (by decide) (by decide) [6, 7, 0, 1, 2, 3, 4, 5] (by decide) rfl rfl (fun H locs hP hD hS => ?_)
    refine lv_istore_n (lv' := [(3, .int r22), (1, .long r5), (0, .ref aR)]) hx hb dX5_readRing_25 rfl hl (by decide) rfl (fun ls hl => ?_)
    refine lv_iload_n hx hb dX5_readRing_26 rfl (lv_at hl 0 rfl) ?_
    refine lv_if_lt (tgt := 39) hx hb dX5_readRing_27 (by decide) (fun c27 => ?_) (fun c27 => ?_)
    · have hok := k_pos c27 hok
      exact J39 vR_j11_22 vR_22 H locs ls hP hD hS (lv_sub hl [] rfl) hok
    · have hok := k_neg c27 hok
      refine lv_aload_n hx hb dX5_readRing_30 rfl (lv_at hl 2 rfl) ?_
      refine va_ldcS hx hb hown (hSt.2.1 _ (List.mem_of_getElem? (i := 15) rfl)) dX5_readRing_31 ?_
      obtain ⟨⟨r33, vR_j11_33, vR_33⟩, hc33, hok⟩ := k_bind hok
      try dsimp only at hok
      refine kCi (wc := (wX5_passes cy aR qR aH vR_j11_22 vR_22 vR_tape)) (wc2 := (wX5_passes cy aR qR aH vR_j11_33 vR_33 vR_tape)) (wr := [(aH, oX4 vH qH), (qR 3, rJ cy 4 vR_ringNames), (qR 4, rJ cy 7 vR_thingNames), (qH 8, rI cy 4 vH_sorts), (qH 9, rI cy 4 vH_places), (qH 10, rI cy 36 vH_next)]) (ws2 := (wX5_readRing cy aR qR aH qH vR_j11_33 vR_33 vR_tape vH vR_ringNames vR_thingNames vH_sorts vH_places vH_next)) (kRunVS (As := [.ref (ad.1 16)]) (rest := []) ⟨hx, hb, hml, hown, ht0⟩ (kX5_passes l D cy ad _ aR qR aH vR_j11_22 vR_22 vR_tape 16 r33 vR_j11_33 vR_33 hc33 _ rfl) (cwV 1 ht0 (gV wd341 wd342 wd343 wd276 wd344) rfl rfl rfl (by decide +kernel) ⟨Nat.le_of_ble_eq_true rfl, Nat.le_of_ble_eq_true rfl⟩) hK hN hP hD hSt hS hA [0, 1] rfl (by decide) 0 4 rfl rfl rfl hl.1 rfl (Nat.le_of_ble_eq_true rfl) dX5_readRing_33 ⟨Nat.zero_le _, Nat.zero_le _⟩) hP hD hS hA [0, 1] [2, 3, 4, 5, 6, 7] rfl rfl (by decide) (by decide) [6, 7, 0, 1, 2, 3, 4, 5] (by decide) rfl rfl (fun H locs hP hD hS => ?_)
      refine lv_if_ne (tgt := 41) hx hb dX5_readRing_36 (by decide) (fun c36 => ?_) (fun c36 => ?_)
      · have hok := k_neg c36 hok
        refine lv_aload_n hx hb dX5_readRing_41 rfl (lv_at hl 2 rfl) ?_
        refine lv_iconst (v := 2) hx hb dX5_readRing_42 (by decide) ?_
        refine lv_bipush (v := 9) hx hb dX5_readRing_43 (by decide) ?_
        obtain ⟨⟨r45, vR_j11_45, vR_45⟩, hc45, hok⟩ := k_bind hok
        try dsimp only at hok
        refine kCi (wc := (wX5_takeWhole cy aR qR aH vR_j11_33 vR_33 vR_tape)) (wc2 := (wX5_takeWhole cy aR qR aH vR_j11_45 vR_45 vR_tape)) (wr := [(aH, oX4 vH qH), (qR 3, rJ cy 4 vR_ringNames), (qR 4, rJ cy 7 vR_thingNames), (qH 8, rI cy 4 vH_sorts), (qH 9, rI cy 4 vH_places), (qH 10, rI cy 36 vH_next)]) (ws2 := (wX5_readRing cy aR qR aH qH vR_j11_45 vR_45 vR_tape vH vR_ringNames vR_thingNames vH_sorts vH_places vH_next)) (kRunV (As := [.int 2, .int 9]) (rest := []) ⟨hx, hb, hml, hown, ht0⟩ (kX5_takeWhole l D cy _ aR qR aH vR_j11_33 vR_33 vR_tape (2 : Int32) (9 : Int32) r45 vR_j11_45 vR_45 hc45 _ rfl) (cwV 2 ht0 (gV wd345 wd346 wd347 wd276 wd348) rfl rfl rfl (by decide +kernel) ⟨Nat.le_of_ble_eq_true rfl, Nat.le_of_ble_eq_true rfl⟩) hK hN hP hD [0, 1] rfl (by decide) 0 4 rfl rfl rfl hl.1 rfl (Nat.le_of_ble_eq_true rfl) dX5_readRing_45 ⟨Nat.zero_le _, Nat.zero_le _⟩) hP hD hS hA [0, 1] [2, 3, 4, 5, 6, 7] rfl rfl (by decide) (by decide) [6, 7, 0, 1, 2, 3, 4, 5] (by decide) rfl rfl (fun H locs hP hD hS => ?_)
        refine lv_istore (lv' := [(4, .int r45), (3, .int r22), (1, .long r5), (0, .ref aR)]) hx hb dX5_readRing_48 hl (by decide) rfl (fun ls hl => ?_)
        refine lv_iload hx hb dX5_readRing_50 (lv_at hl 0 rfl) ?_
        refine lv_if_lt (tgt := 76) hx hb dX5_readRing_52 (by decide) (fun c52 => ?_) (fun c52 => ?_)
        · have hok := k_pos c52 hok
          exact J76 vR_j11_45 vR_45 H locs ls hP hD hS (lv_sub hl [] rfl) hok
        · have hok := k_neg c52 hok
          refine lv_aload_n hx hb dX5_readRing_55 rfl (lv_at hl 3 rfl) ?_
          refine va_get (D := D) (ci := 4) (v := .ref aH) (C := RX5) (T := TX5) (N := 13) hx hb ht0 niX5 hown hK hP 0 rfl rfl 2 (by decide) (ht0 _ wd266) (fun _ h9 => h9) rfl dX5_readRing_56 ?_
          refine va_get (D := D) (ci := 3) (v := .int (vH 2)) (C := RX4) (T := TX4) (N := 20) hx hb ht0 niX4 hown hK hP 2 rfl rfl 2 (by decide) (ht0 _ wd360) (fun _ h9 => h9) rfl dX5_readRing_59 ?_
          refine lv_if_lt (tgt := 76) hx hb dX5_readRing_62 (by decide) (fun c62 => ?_) (fun c62 => ?_)
          · have hok := k_pos c62 hok
            exact J76 vR_j11_45 vR_45 H locs ls hP hD hS (lv_sub hl [] rfl) hok
          · have hok := k_neg c62 hok
            refine lv_aload_n hx hb dX5_readRing_65 rfl (lv_at hl 3 rfl) ?_
            refine va_get (D := D) (ci := 4) (v := .ref aH) (C := RX5) (T := TX5) (N := 13) hx hb ht0 niX5 hown hK hP 0 rfl rfl 2 (by decide) (ht0 _ wd266) (fun _ h9 => h9) rfl dX5_readRing_66 ?_
            refine va_get (D := D) (ci := 3) (v := .int (vH 2)) (C := RX4) (T := TX4) (N := 20) hx hb ht0 niX4 hown hK hP 2 rfl rfl 2 (by decide) (ht0 _ wd360) (fun _ h9 => h9) rfl dX5_readRing_69 ?_
            refine lv_iconst (v := 4) hx hb dX5_readRing_72 (by decide) ?_
            refine lv_icmp_lt (tgt := 78) hx hb dX5_readRing_73 (by decide) (fun c73 => ?_) (fun c73 => ?_)
            · have hok := k_pos c73 hok
              refine lv_aload_n hx hb dX5_readRing_78 rfl (lv_at hl 3 rfl) ?_
              refine va_get (D := D) (ci := 4) (v := .ref (qR 3)) (C := RX5) (T := TX5) (N := 13) hx hb ht0 niX5 hown hK hP 0 rfl rfl 3 (by decide) (ht0 _ wd370) (fun _ h9 => h9) rfl dX5_readRing_79 ?_
              refine lv_aload_n hx hb dX5_readRing_82 rfl (lv_at hl 3 rfl) ?_
              refine va_get (D := D) (ci := 4) (v := .ref aH) (C := RX5) (T := TX5) (N := 13) hx hb ht0 niX5 hown hK hP 0 rfl rfl 2 (by decide) (ht0 _ wd266) (fun _ h9 => h9) rfl dX5_readRing_83 ?_
              refine va_get (D := D) (ci := 3) (v := .int (vH 2)) (C := RX4) (T := TX4) (N := 20) hx hb ht0 niX4 hown hK hP 2 rfl rfl 2 (by decide) (ht0 _ wd360) (fun _ h9 => h9) rfl dX5_readRing_86 ?_
              refine lv_lload_n hx hb dX5_readRing_89 rfl (lv_at hl 2 rfl) ?_
              obtain ⟨g90, hok⟩ := gd_some hok
              refine va_last hx hb hK hP hD hS 3 2 rfl rfl (okI_in g90) dX5_readRing_90 (fun H locs hP hD hS => ?_)
              have hP : va_P D vwCl (wX5_readRing cy aR qR aH qH vR_j11_45 vR_45 vR_tape vH (vp_updL vR_ringNames (vH 2).toNatClampNeg r5) vR_thingNames vH_sorts vH_places vH_next) H := hP
              have hD : va_D A (wX5_readRing cy aR qR aH qH vR_j11_45 vR_45 vR_tape vH (vp_updL vR_ringNames (vH 2).toNatClampNeg r5) vR_thingNames vH_sorts vH_places vH_next) := hD
              refine lv_aload_n hx hb dX5_readRing_91 rfl (lv_at hl 3 rfl) ?_
              refine va_get (D := D) (ci := 4) (v := .ref aH) (C := RX5) (T := TX5) (N := 13) hx hb ht0 niX5 hown hK hP 0 rfl rfl 2 (by decide) (ht0 _ wd266) (fun _ h9 => h9) rfl dX5_readRing_92 ?_
              refine lv_iload_n hx hb dX5_readRing_95 rfl (lv_at hl 1 rfl) ?_
              refine lv_iload hx hb dX5_readRing_96 (lv_at hl 0 rfl) ?_
              obtain ⟨⟨vH_98, vH_sorts_98, vH_places_98, vH_next_98⟩, hc98, hok⟩ := k_bind hok
              try dsimp only at hok
              refine kCv (wc := (wX4_addRing cy aH qH vH vH_sorts vH_places vH_next)) (wc2 := (wX4_addRing cy aH qH vH_98 vH_sorts_98 vH_places_98 vH_next_98)) (wr := [(aR, oX5 vR_45 qR vR_j11_45 aH), (qR 0, rB cy 900 vR_tape), (qR 3, rJ cy 4 (vp_updL vR_ringNames (vH 2).toNatClampNeg r5)), (qR 4, rJ cy 7 vR_thingNames)]) (ws2 := (wX5_readRing cy aR qR aH qH vR_j11_45 vR_45 vR_tape vH_98 (vp_updL vR_ringNames (vH 2).toNatClampNeg r5) vR_thingNames vH_sorts_98 vH_places_98 vH_next_98)) (kRunV (As := [.int r22, .int r45]) (rest := []) ⟨hx, hb, hml, hown, ht0⟩ (kX4_addRing l D cy _ aH qH vH vH_sorts vH_places vH_next r22 r45 vH_98 vH_sorts_98 vH_places_98 vH_next_98 hc98 _ rfl) (cwV 2 ht0 (gV wd383 wd384 wd385 wd9 wd386) rfl rfl rfl (by decide +kernel) ⟨Nat.le_of_ble_eq_true rfl, Nat.le_of_ble_eq_true rfl⟩) hK hN hP hD [2, 5, 6, 7] rfl (by decide) 2 3 rfl rfl rfl hl.1 rfl (Nat.le_of_ble_eq_true rfl) dX5_readRing_98 ⟨Nat.zero_le _, Nat.zero_le _⟩) hP hD hS hA [2, 5, 6, 7] [0, 1, 3, 4] rfl rfl (by decide) (by decide) [0, 1, 4, 2, 3, 5, 6, 7] (by decide) rfl rfl (fun H locs hP hD hS => ?_)
              refine lv_iconst (v := 1) hx hb dX5_readRing_101 (by decide) ?_
              cases hok
              subst hQe; exact W.zret hx hb hr rfl (fun t ht hW => ⟨⟨_, (), rfl, rfl, by rw [ht]; exact hP, va_K.moved hW.alike hK, hD⟩, hS.F ht⟩) hS.2.2 dX5_readRing_102
            · have hok := k_neg c73 hok
              exact J76 vR_j11_45 vR_45 H locs ls hP hD hS (lv_sub hl [] rfl) hok
      · have hok := k_pos c36 hok
        exact J39 vR_j11_33 vR_33 H locs ls hP hD hS (lv_sub hl [] rfl) hok
  · have hok := k_neg c12 hok
    refine lv_iconst (v := 0) hx hb dX5_readRing_15 (by decide) ?_
    cases hok
    subst hQe; exact W.zret hx hb hr rfl (fun t ht hW => ⟨⟨_, (), rfl, rfl, by rw [ht]; exact hP, va_K.moved hW.alike hK, hD⟩, hS.F ht⟩) hS.2.2 dX5_readRing_16
def wsX5_takeToldName : List Cond := .code yX5_takeToldName cX5_takeToldName 4 (some .int) :: W0
abbrev wX5_takeToldName (cy : Nat → ClassId) (aR : Nat) (ap1 : Nat) (qR : Nat → Nat) (aH : Nat) (vR_j11 : Int64) (vR : Nat → Int32) (vR_tape : Nat → Int32) (n1 : Nat) (p1 : Nat → Int64) : va_W := [(aR, oX5 vR qR vR_j11 aH), (qR 0, rB cy 900 vR_tape), (ap1, rJ cy n1 p1)]
set_option maxHeartbeats 4000000 in
set_option maxRecDepth 100000 in
theorem kX5_takeToldName (l : Launch) (D : va_G) (cy : Nat → ClassId) (ad : (Nat → Nat) × (Nat → Nat)) (sz : Nat) (aR : Nat) (ap1 : Nat) (qR : Nat → Nat) (aH : Nat) (vR_j11 : Int64) (vR : Nat → Int32) (vR_tape : Nat → Int32) (n1 : Nat) (p1 : Nat → Int64) (x2 : Int32) (zr : Int32) (z_vR_j11 : Int64) (z_vR : Nat → Int32) (hok : fX5_takeToldName vR_j11 vR vR_tape n1 p1 x2 = some (zr, z_vR_j11, z_vR)) (A : Nat → Prop) (hAe : va_A (wX5_takeToldName cy aR ap1 qR aH vR_j11 vR vR_tape n1 p1) sz = A) : Met l yX5_takeToldName wsX5_takeToldName ({ frames := 6, cells := 0, slots := 0, locals := 130 } : Room) (kPreS D cy ad [.ref aR, .ref ap1, .int x2] (wX5_takeToldName cy aR ap1 qR aH vR_j11 vR vR_tape n1 p1) sz A) (kQi D cy zr A (wX5_takeToldName cy aR ap1 qR aH z_vR_j11 z_vR vR_tape n1 p1)) 0 0 A := by
  refine Met.ofW (cc := cX5_takeToldName) (maxL := 4) (ret := (some .int)) (by decide) rfl ?_
  intro p e s m args below meth c s₁ B hml hv
  obtain ⟨rfl, ⟨hsz, hP, hK, hD0, hN⟩, hSt⟩ := hv
  have hx := B.exec
  have hb := B.bytes
  have hr := B.returns
  have ht0 : ∀ w ∈ W0, w.before _ s = true := fun w h => atoms_spec (ws := wsX5_takeToldName) B.pre w (List.mem_cons_of_mem _ h)
  have hown : s.vm.findClass RX5 = some m.cls := findClass_of_methodNamed B.named
  have hlocks := B.notSynchronized
  subst hsz
  have hD : va_D A (wX5_takeToldName cy aR ap1 qR aH vR_j11 vR vR_tape n1 p1) := by rw [← hAe]; exact hD0.self
  have hA : ∀ q : Nat, s.heap.size ≤ q → A q := fun q h => by rw [← hAe]; exact Or.inr h
  have hS : va_S A s.heap s.heap [] := va_S.rf
  have hl := lv_entry ([.ref aR, .ref ap1, .int x2]) (n := 4) (Nat.le_of_ble_eq_true rfl)
  rw [lg_entry_eq]
  generalize (lg_sl ([.ref aR, .ref ap1, .int x2]) ++ List.replicate (4 - (lg_sl ([.ref aR, .ref ap1, .int x2])).length) Slot.unset).toArray = ls at hl ⊢
  have hl : lv_has ls 4 [(0, .ref aR), (1, .ref ap1), (2, .int x2)] := hl
  unfold fX5_takeToldName at hok
  obtain ⟨H, hH⟩ : ∃ H, H = s.heap := ⟨_, rfl⟩
  obtain ⟨locs, hlc⟩ : ∃ x : List Loc, x = [] := ⟨_, rfl⟩
  have hP : va_P D vwCl (wX5_takeToldName cy aR ap1 qR aH vR_j11 vR vR_tape n1 p1) H := by rw [hH]; exact hP
  have hS : va_S A s.heap H locs := by rw [hH, hlc]; exact hS
  rw [show W p l e _ s m _ below meth c s.heap [] = W p l e _ s m _ below meth c H locs from by rw [hH, hlc]]
  refine lv_aload_n hx hb dX5_takeToldName_0 rfl (lv_at hl 0 rfl) ?_
  obtain ⟨r1, hc1, hok⟩ := k_bind hok
  refine kCi (wc := (wX5_isName cy aR qR aH vR_j11 vR vR_tape)) (wc2 := (wX5_isName cy aR qR aH vR_j11 vR vR_tape)) (wr := [(ap1, rJ cy n1 p1)]) (ws2 := (wX5_takeToldName cy aR ap1 qR aH vR_j11 vR vR_tape n1 p1)) (kRunVS (As := []) (rest := []) ⟨hx, hb, hml, hown, ht0⟩ (kX5_isName l D cy ad _ aR qR aH vR_j11 vR vR_tape r1 hc1 _ rfl) (cwV 0 ht0 (gV wd366 wd367 wd368 wd276 wd369) rfl rfl rfl (by decide +kernel) ⟨Nat.le_of_ble_eq_true rfl, Nat.le_of_ble_eq_true rfl⟩) hK hN hP hD hSt hS hA [0, 1] rfl (by decide) 0 4 rfl rfl rfl hl.1 rfl (Nat.le_of_ble_eq_true rfl) dX5_takeToldName_1 ⟨Nat.zero_le _, Nat.zero_le _⟩) hP hD hS hA [0, 1] [2] rfl rfl (by decide) (by decide) [1, 2, 0] (by decide) rfl rfl (fun H locs hP hD hS => ?_)
  refine lv_if_ne (tgt := 15) hx hb dX5_takeToldName_4 (by decide) (fun c4 => ?_) (fun c4 => ?_)
  · have hok := k_neg c4 hok
    refine lv_aload_n hx hb dX5_takeToldName_15 rfl (lv_at hl 0 rfl) ?_
    refine va_get (D := D) (ci := 4) (v := .long vR_j11) (C := RX5) (T := TX5) (N := 13) hx hb ht0 niX5 hown hK hP 0 rfl rfl 11 (by decide) (ht0 _ wd271) (fun _ h9 => h9) rfl dX5_takeToldName_16 ?_
    refine lv_aload_n hx hb dX5_takeToldName_19 rfl (lv_at hl 1 rfl) ?_
    refine lv_iload_n hx hb dX5_takeToldName_20 rfl (lv_at hl 2 rfl) ?_
    obtain ⟨r21, hc21, hok⟩ := k_bind hok
    refine kCi (wc := (wX5_placeOfName cy ap1 n1 p1)) (wc2 := (wX5_placeOfName cy ap1 n1 p1)) (wr := [(aR, oX5 vR qR vR_j11 aH), (qR 0, rB cy 900 vR_tape)]) (ws2 := (wX5_takeToldName cy aR ap1 qR aH vR_j11 vR vR_tape n1 p1)) (kRunS (As := [.long vR_j11, .ref ap1, .int x2]) (rest := []) ⟨hx, hb, hml, hown, ht0⟩ (kX5_placeOfName l D cy _ ap1 n1 p1 vR_j11 x2 r21 hc21 _ rfl) (va_cwS 3 ht0 (gS wd363 wd364 wd276 wd365) rfl rfl rfl (by decide +kernel) ⟨Nat.le_of_ble_eq_true rfl, Nat.le_of_ble_eq_true rfl⟩) hK hN hP hD [2] rfl (by decide) rfl hl.1 rfl (Nat.le_of_ble_eq_true rfl) dX5_takeToldName_21 ⟨Nat.zero_le _, Nat.zero_le _⟩) hP hD hS hA [2] [0, 1] rfl rfl (by decide) (by decide) [0, 1, 2] (by decide) rfl rfl (fun H locs hP hD hS => ?_)
    refine lv_istore_n (lv' := [(3, .int r21), (0, .ref aR), (1, .ref ap1), (2, .int x2)]) hx hb dX5_takeToldName_24 rfl hl (by decide) rfl (fun ls hl => ?_)
    refine lv_iload_n hx hb dX5_takeToldName_25 rfl (lv_at hl 0 rfl) ?_
    refine lv_if_ge (tgt := 37) hx hb dX5_takeToldName_26 (by decide) (fun c26 => ?_) (fun c26 => ?_)
    · have hok := k_pos c26 hok
      refine lv_aload_n hx hb dX5_takeToldName_37 rfl (lv_at hl 1 rfl) ?_
      obtain ⟨⟨vR_j11_38, vR_38⟩, hc38, hok⟩ := k_bind hok
      try dsimp only at hok
      refine kCv (wc := (wX5_step cy aR qR aH vR_j11 vR vR_tape)) (wc2 := (wX5_step cy aR qR aH vR_j11_38 vR_38 vR_tape)) (wr := [(ap1, rJ cy n1 p1)]) (ws2 := (wX5_takeToldName cy aR ap1 qR aH vR_j11_38 vR_38 vR_tape n1 p1)) (kRunV (As := []) (rest := []) ⟨hx, hb, hml, hown, ht0⟩ (kX5_step l D cy _ aR qR aH vR_j11 vR vR_tape vR_j11_38 vR_38 hc38 _ rfl) (cwV 0 ht0 (gV wd328 wd329 wd330 wd276 wd331) rfl rfl rfl (by decide +kernel) ⟨Nat.le_of_ble_eq_true rfl, Nat.le_of_ble_eq_true rfl⟩) hK hN hP hD [0, 1] rfl (by decide) 0 4 rfl rfl rfl hl.1 rfl (Nat.le_of_ble_eq_true rfl) dX5_takeToldName_38 ⟨Nat.zero_le _, Nat.zero_le _⟩) hP hD hS hA [0, 1] [2] rfl rfl (by decide) (by decide) [1, 2, 0] (by decide) rfl rfl (fun H locs hP hD hS => ?_)
      refine lv_iload_n hx hb dX5_takeToldName_41 rfl (lv_at hl 0 rfl) ?_
      cases hok
      exact W.iret hx hb hr (fun t ht hW => ⟨⟨_, (), rfl, rfl, by rw [ht]; exact hP, va_K.moved hW.alike hK, hD⟩, hS.F ht⟩) hS.2.2 dX5_takeToldName_42
    · have hok := k_neg c26 hok
      refine lv_aload_n hx hb dX5_takeToldName_29 rfl (lv_at hl 1 rfl) ?_
      refine lv_iconst (v := 2) hx hb dX5_takeToldName_30 (by decide) ?_
      obtain ⟨⟨r31, vR_31⟩, hc31, hok⟩ := k_bind hok
      try dsimp only at hok
      refine kCi (wc := (wX5_fails cy aR qR aH vR_j11 vR)) (wc2 := (wX5_fails cy aR qR aH vR_j11 vR_31)) (wr := [(qR 0, rB cy 900 vR_tape), (ap1, rJ cy n1 p1)]) (ws2 := (wX5_takeToldName cy aR ap1 qR aH vR_j11 vR_31 vR_tape n1 p1)) (kRunV (As := [.int 2]) (rest := []) ⟨hx, hb, hml, hown, ht0⟩ (kX5_fails l D cy _ aR qR aH vR_j11 vR (2 : Int32) r31 vR_31 hc31 _ rfl) (cwV 1 ht0 (gV wd332 wd333 wd334 wd276 wd335) rfl rfl rfl (by decide +kernel) ⟨Nat.le_of_ble_eq_true rfl, Nat.le_of_ble_eq_true rfl⟩) hK hN hP hD [0] rfl (by decide) 0 4 rfl rfl rfl hl.1 rfl (Nat.le_of_ble_eq_true rfl) dX5_takeToldName_31 ⟨Nat.zero_le _, Nat.zero_le _⟩) hP hD hS hA [0] [1, 2] rfl rfl (by decide) (by decide) [2, 0, 1] (by decide) rfl rfl (fun H locs hP hD hS => ?_)
      refine lv_pop hx hb dX5_takeToldName_34 rfl ?_
      refine lv_iconst (v := -1) hx hb dX5_takeToldName_35 (by decide) ?_
      cases hok
      exact W.iret hx hb hr (fun t ht hW => ⟨⟨_, (), rfl, rfl, by rw [ht]; exact hP, va_K.moved hW.alike hK, hD⟩, hS.F ht⟩) hS.2.2 dX5_takeToldName_36
  · have hok := k_pos c4 hok
    refine lv_aload_n hx hb dX5_takeToldName_7 rfl (lv_at hl 0 rfl) ?_
    refine lv_iconst (v := 1) hx hb dX5_takeToldName_8 (by decide) ?_
    obtain ⟨⟨r9, vR_9⟩, hc9, hok⟩ := k_bind hok
    try dsimp only at hok
    refine kCi (wc := (wX5_fails cy aR qR aH vR_j11 vR)) (wc2 := (wX5_fails cy aR qR aH vR_j11 vR_9)) (wr := [(qR 0, rB cy 900 vR_tape), (ap1, rJ cy n1 p1)]) (ws2 := (wX5_takeToldName cy aR ap1 qR aH vR_j11 vR_9 vR_tape n1 p1)) (kRunV (As := [.int 1]) (rest := []) ⟨hx, hb, hml, hown, ht0⟩ (kX5_fails l D cy _ aR qR aH vR_j11 vR (1 : Int32) r9 vR_9 hc9 _ rfl) (cwV 1 ht0 (gV wd332 wd333 wd334 wd276 wd335) rfl rfl rfl (by decide +kernel) ⟨Nat.le_of_ble_eq_true rfl, Nat.le_of_ble_eq_true rfl⟩) hK hN hP hD [0] rfl (by decide) 0 4 rfl rfl rfl hl.1 rfl (Nat.le_of_ble_eq_true rfl) dX5_takeToldName_9 ⟨Nat.zero_le _, Nat.zero_le _⟩) hP hD hS hA [0] [1, 2] rfl rfl (by decide) (by decide) [2, 0, 1] (by decide) rfl rfl (fun H locs hP hD hS => ?_)
    refine lv_pop hx hb dX5_takeToldName_12 rfl ?_
    refine lv_iconst (v := -1) hx hb dX5_takeToldName_13 (by decide) ?_
    cases hok
    exact W.iret hx hb hr (fun t ht hW => ⟨⟨_, (), rfl, rfl, by rw [ht]; exact hP, va_K.moved hW.alike hK, hD⟩, hS.F ht⟩) hS.2.2 dX5_takeToldName_14
def wsX5_readNarrow : List Cond := .code yX5_readNarrow cX5_readNarrow 4 (some .boolean) :: W0
abbrev wX5_readNarrow (cy : Nat → ClassId) (aR : Nat) (qR : Nat → Nat) (aH : Nat) (qH : Nat → Nat) (vR_j11 : Int64) (vR : Nat → Int32) (vR_tape : Nat → Int32) (vH : Nat → Int32) (vR_ringNames : Nat → Int64) (vH_places : Nat → Int32) (vH_width : Nat → Int32) : va_W := [(aR, oX5 vR qR vR_j11 aH), (qR 0, rB cy 900 vR_tape), (aH, oX4 vH qH), (qR 3, rJ cy 4 vR_ringNames), (qH 9, rI cy 4 vH_places), (qH 11, rI cy 36 vH_width)]
set_option maxHeartbeats 4000000 in
set_option maxRecDepth 100000 in
theorem kX5_readNarrow (l : Launch) (D : va_G) (cy : Nat → ClassId) (ad : (Nat → Nat) × (Nat → Nat)) (sz : Nat) (aR : Nat) (qR : Nat → Nat) (aH : Nat) (qH : Nat → Nat) (vR_j11 : Int64) (vR : Nat → Int32) (vR_tape : Nat → Int32) (vH : Nat → Int32) (vR_ringNames : Nat → Int64) (vH_places : Nat → Int32) (vH_width : Nat → Int32) (zr : Int32) (z_vR_j11 : Int64) (z_vR : Nat → Int32) (z_vH : Nat → Int32) (z_vH_width : Nat → Int32) (hok : fX5_readNarrow vR_j11 vR vR_tape vH vR_ringNames vH_places vH_width = some (zr, z_vR_j11, z_vR, z_vH, z_vH_width)) (A : Nat → Prop) (hAe : va_A (wX5_readNarrow cy aR qR aH qH vR_j11 vR vR_tape vH vR_ringNames vH_places vH_width) sz = A) : Met l yX5_readNarrow wsX5_readNarrow ({ frames := 7, cells := 0, slots := 0, locals := 153 } : Room) (kPreS D cy ad [.ref aR] (wX5_readNarrow cy aR qR aH qH vR_j11 vR vR_tape vH vR_ringNames vH_places vH_width) sz A) (kQi D cy zr A (wX5_readNarrow cy aR qR aH qH z_vR_j11 z_vR vR_tape z_vH vR_ringNames vH_places z_vH_width)) 0 0 A := by
  refine Met.ofW (cc := cX5_readNarrow) (maxL := 4) (ret := (some .boolean)) (by decide) rfl ?_
  intro p e s m args below meth c s₁ B hml hv
  obtain ⟨rfl, ⟨hsz, hP, hK, hD0, hN⟩, hSt⟩ := hv
  have hx := B.exec
  have hb := B.bytes
  have hr := B.returns
  have ht0 : ∀ w ∈ W0, w.before _ s = true := fun w h => atoms_spec (ws := wsX5_readNarrow) B.pre w (List.mem_cons_of_mem _ h)
  have hown : s.vm.findClass RX5 = some m.cls := findClass_of_methodNamed B.named
  have hlocks := B.notSynchronized
  subst hsz
  have hD : va_D A (wX5_readNarrow cy aR qR aH qH vR_j11 vR vR_tape vH vR_ringNames vH_places vH_width) := by rw [← hAe]; exact hD0.self
  have hA : ∀ q : Nat, s.heap.size ≤ q → A q := fun q h => by rw [← hAe]; exact Or.inr h
  have hS : va_S A s.heap s.heap [] := va_S.rf
  have hl := lv_entry ([.ref aR]) (n := 4) (Nat.le_of_ble_eq_true rfl)
  rw [lg_entry_eq]
  generalize (lg_sl ([.ref aR]) ++ List.replicate (4 - (lg_sl ([.ref aR])).length) Slot.unset).toArray = ls at hl ⊢
  have hl : lv_has ls 4 [(0, .ref aR)] := hl
  generalize hQe : MQ below (kQi D cy zr A (wX5_readNarrow cy aR qR aH qH z_vR_j11 z_vR vR_tape z_vH vR_ringNames vH_places z_vH_width)) ([.ref aR] : List Value).toArray s 0 0 A = Q
  have J42 : ∀ (vR_11_42 : Int64) (vR_42 : Nat → Int32), ∀ (H : Heap) (locs : List Loc) (ls : Array Slot), va_P D vwCl (wX5_readNarrow cy aR qR aH qH vR_11_42 vR_42 vR_tape vH vR_ringNames vH_places vH_width) H → va_D A (wX5_readNarrow cy aR qR aH qH vR_11_42 vR_42 vR_tape vH vR_ringNames vH_places vH_width) → va_S A s.heap H locs → lv_has ls 4 [] → fX5_readNarrow_J42 vH vH_width vR_11_42 vR_42 = some (zr, z_vR_j11, z_vR, z_vH, z_vH_width) → W p l e ({ frames := 7, cells := 0, slots := 0, locals := 153 } : Room) s m ([.ref aR] : List Value).toArray below meth c H locs 0 0 Q (F0 m 42 ls []) := by
    intro vR_11_42 vR_42 H locs ls hP hD hS hl hok
    unfold fX5_readNarrow_J42 at hok
    refine lv_iconst (v := 0) hx hb dX5_readNarrow_42 (by decide) ?_
    cases hok
    subst hQe; exact W.zret hx hb hr rfl (fun t ht hW => ⟨⟨_, (), rfl, rfl, by rw [ht]; exact hP, va_K.moved hW.alike hK, hD⟩, hS.F ht⟩) hS.2.2 dX5_readNarrow_43
  unfold fX5_readNarrow at hok
  obtain ⟨H, hH⟩ : ∃ H, H = s.heap := ⟨_, rfl⟩
  obtain ⟨locs, hlc⟩ : ∃ x : List Loc, x = [] := ⟨_, rfl⟩
  have hP : va_P D vwCl (wX5_readNarrow cy aR qR aH qH vR_j11 vR vR_tape vH vR_ringNames vH_places vH_width) H := by rw [hH]; exact hP
  have hS : va_S A s.heap H locs := by rw [hH, hlc]; exact hS
  rw [show W p l e _ s m _ below meth c s.heap [] = W p l e _ s m _ below meth c H locs from by rw [hH, hlc]]
  refine lv_aload_n hx hb dX5_readNarrow_0 rfl (lv_at hl 0 rfl) ?_
  obtain ⟨⟨vR_j11_1, vR_1⟩, hc1, hok⟩ := k_bind hok
  try dsimp only at hok
  refine kCv (wc := (wX5_step cy aR qR aH vR_j11 vR vR_tape)) (wc2 := (wX5_step cy aR qR aH vR_j11_1 vR_1 vR_tape)) (wr := [(aH, oX4 vH qH), (qR 3, rJ cy 4 vR_ringNames), (qH 9, rI cy 4 vH_places), (qH 11, rI cy 36 vH_width)]) (ws2 := (wX5_readNarrow cy aR qR aH qH vR_j11_1 vR_1 vR_tape vH vR_ringNames vH_places vH_width)) (kRunV (As := []) (rest := []) ⟨hx, hb, hml, hown, ht0⟩ (kX5_step l D cy _ aR qR aH vR_j11 vR vR_tape vR_j11_1 vR_1 hc1 _ rfl) (cwV 0 ht0 (gV wd328 wd329 wd330 wd276 wd331) rfl rfl rfl (by decide +kernel) ⟨Nat.le_of_ble_eq_true rfl, Nat.le_of_ble_eq_true rfl⟩) hK hN hP hD [0, 1] rfl (by decide) 0 4 rfl rfl rfl hl.1 rfl (Nat.le_of_ble_eq_true rfl) dX5_readNarrow_1 ⟨Nat.zero_le _, Nat.zero_le _⟩) hP hD hS hA [0, 1] [2, 3, 4, 5] rfl rfl (by decide) (by decide) [4, 5, 0, 1, 2, 3] (by decide) rfl rfl (fun H locs hP hD hS => ?_)
  refine lv_aload_n hx hb dX5_readNarrow_4 rfl (lv_at hl 0 rfl) ?_
  refine lv_aload_n hx hb dX5_readNarrow_5 rfl (lv_at hl 0 rfl) ?_
  refine va_get (D := D) (ci := 4) (v := .ref (qR 3)) (C := RX5) (T := TX5) (N := 13) hx hb ht0 niX5 hown hK hP 0 rfl rfl 3 (by decide) (ht0 _ wd370) (fun _ h9 => h9) rfl dX5_readNarrow_6 ?_
  refine lv_aload_n hx hb dX5_readNarrow_9 rfl (lv_at hl 0 rfl) ?_
  refine va_get (D := D) (ci := 4) (v := .ref aH) (C := RX5) (T := TX5) (N := 13) hx hb ht0 niX5 hown hK hP 0 rfl rfl 2 (by decide) (ht0 _ wd266) (fun _ h9 => h9) rfl dX5_readNarrow_10 ?_
  refine va_get (D := D) (ci := 3) (v := .int (vH 2)) (C := RX4) (T := TX4) (N := 20) hx hb ht0 niX4 hown hK hP 2 rfl rfl 2 (by decide) (ht0 _ wd360) (fun _ h9 => h9) rfl dX5_readNarrow_13 ?_
  obtain ⟨⟨r16, vR_j11_16, vR_16⟩, hc16, hok⟩ := k_bind hok
  try dsimp only at hok
  refine kCi (wc := (wX5_takeToldName cy aR (qR 3) qR aH vR_j11_1 vR_1 vR_tape 4 vR_ringNames)) (wc2 := (wX5_takeToldName cy aR (qR 3) qR aH vR_j11_16 vR_16 vR_tape 4 vR_ringNames)) (wr := [(aH, oX4 vH qH), (qH 9, rI cy 4 vH_places), (qH 11, rI cy 36 vH_width)]) (ws2 := (wX5_readNarrow cy aR qR aH qH vR_j11_16 vR_16 vR_tape vH vR_ringNames vH_places vH_width)) (kRunVS (As := [.ref (qR 3), .int (vH 2)]) (rest := []) ⟨hx, hb, hml, hown, ht0⟩ (kX5_takeToldName l D cy ad _ aR (qR 3) qR aH vR_j11_1 vR_1 vR_tape 4 vR_ringNames (vH 2) r16 vR_j11_16 vR_16 hc16 _ rfl) (cwV 2 ht0 (gV wd387 wd388 wd389 wd276 wd390) rfl rfl rfl (by decide +kernel) ⟨Nat.le_of_ble_eq_true rfl, Nat.le_of_ble_eq_true rfl⟩) hK hN hP hD hSt hS hA [0, 1, 3] rfl (by decide) 0 4 rfl rfl rfl hl.1 rfl (Nat.le_of_ble_eq_true rfl) dX5_readNarrow_16 ⟨Nat.zero_le _, Nat.zero_le _⟩) hP hD hS hA [0, 1, 3] [2, 4, 5] rfl rfl (by decide) (by decide) [3, 4, 0, 5, 1, 2] (by decide) rfl rfl (fun H locs hP hD hS => ?_)
  refine lv_istore_n (lv' := [(1, .int r16), (0, .ref aR)]) hx hb dX5_readNarrow_19 rfl hl (by decide) rfl (fun ls hl => ?_)
  refine lv_iload_n hx hb dX5_readNarrow_20 rfl (lv_at hl 0 rfl) ?_
  refine lv_if_lt (tgt := 42) hx hb dX5_readNarrow_21 (by decide) (fun c21 => ?_) (fun c21 => ?_)
  · have hok := k_pos c21 hok
    exact J42 vR_j11_16 vR_16 H locs ls hP hD hS (lv_sub hl [] rfl) hok
  · have hok := k_neg c21 hok
    refine lv_aload_n hx hb dX5_readNarrow_24 rfl (lv_at hl 1 rfl) ?_
    refine lv_iconst (v := 0) hx hb dX5_readNarrow_25 (by decide) ?_
    refine lv_aload_n hx hb dX5_readNarrow_26 rfl (lv_at hl 1 rfl) ?_
    refine va_get (D := D) (ci := 4) (v := .ref aH) (C := RX5) (T := TX5) (N := 13) hx hb ht0 niX5 hown hK hP 0 rfl rfl 2 (by decide) (ht0 _ wd266) (fun _ h9 => h9) rfl dX5_readNarrow_27 ?_
    refine lv_iload_n hx hb dX5_readNarrow_30 rfl (lv_at hl 0 rfl) ?_
    obtain ⟨r31, hc31, hok⟩ := k_bind hok
    refine kCi (wc := (wX4_placesOf cy aH qH vH vH_places)) (wc2 := (wX4_placesOf cy aH qH vH vH_places)) (wr := [(aR, oX5 vR_16 qR vR_j11_16 aH), (qR 0, rB cy 900 vR_tape), (qR 3, rJ cy 4 vR_ringNames), (qH 11, rI cy 36 vH_width)]) (ws2 := (wX5_readNarrow cy aR qR aH qH vR_j11_16 vR_16 vR_tape vH vR_ringNames vH_places vH_width)) (kRunV (As := [.int r16]) (rest := [.int 0, .ref aR]) ⟨hx, hb, hml, hown, ht0⟩ (kX4_placesOf l D cy _ aH qH vH vH_places r16 r31 hc31 _ rfl) (cwV 1 ht0 (gV wd391 wd257 wd258 wd9 wd259) rfl rfl rfl (by decide +kernel) ⟨Nat.le_of_ble_eq_true rfl, Nat.le_of_ble_eq_true rfl⟩) hK hN hP hD [2, 4] rfl (by decide) 2 3 rfl rfl rfl hl.1 rfl (Nat.le_of_ble_eq_true rfl) dX5_readNarrow_31 ⟨Nat.zero_le _, Nat.zero_le _⟩) hP hD hS hA [2, 4] [0, 1, 3, 5] rfl rfl (by decide) (by decide) [0, 1, 4, 2, 5, 3] (by decide) rfl rfl (fun H locs hP hD hS => ?_)
    refine lv_iconst (v := 1) hx hb dX5_readNarrow_34 (by decide) ?_
    refine lv_isub hx hb dX5_readNarrow_35 ?_
    obtain ⟨⟨r36, vR_36⟩, hc36, hok⟩ := k_bind hok
    try dsimp only at hok
    refine kCi (wc := (wX5_isWhole cy aR qR aH vR_j11_16 vR_16)) (wc2 := (wX5_isWhole cy aR qR aH vR_j11_16 vR_36)) (wr := [(qR 0, rB cy 900 vR_tape), (aH, oX4 vH qH), (qR 3, rJ cy 4 vR_ringNames), (qH 9, rI cy 4 vH_places), (qH 11, rI cy 36 vH_width)]) (ws2 := (wX5_readNarrow cy aR qR aH qH vR_j11_16 vR_36 vR_tape vH vR_ringNames vH_places vH_width)) (kRunV (As := [.int 0, .int (r31 - (1 : Int32))]) (rest := []) ⟨hx, hb, hml, hown, ht0⟩ (kX5_isWhole l D cy _ aR qR aH vR_j11_16 vR_16 (0 : Int32) (r31 - (1 : Int32)) r36 vR_36 hc36 _ rfl) (cwV 2 ht0 (gV wd336 wd337 wd338 wd276 wd339) rfl rfl rfl (by decide +kernel) ⟨Nat.le_of_ble_eq_true rfl, Nat.le_of_ble_eq_true rfl⟩) hK hN hP hD [0] rfl (by decide) 0 4 rfl rfl rfl hl.1 rfl (Nat.le_of_ble_eq_true rfl) dX5_readNarrow_36 ⟨Nat.zero_le _, Nat.zero_le _⟩) hP hD hS hA [0] [1, 2, 3, 4, 5] rfl rfl (by decide) (by decide) [5, 0, 1, 2, 3, 4] (by decide) rfl rfl (fun H locs hP hD hS => ?_)
    refine lv_if_ne (tgt := 44) hx hb dX5_readNarrow_39 (by decide) (fun c39 => ?_) (fun c39 => ?_)
    · have hok := k_neg c39 hok
      refine lv_iload_n hx hb dX5_readNarrow_44 rfl (lv_at hl 0 rfl) ?_
      refine lv_aload_n hx hb dX5_readNarrow_45 rfl (lv_at hl 1 rfl) ?_
      refine va_get (D := D) (ci := 4) (v := .int (vR_36 10)) (C := RX5) (T := TX5) (N := 13) hx hb ht0 niX5 hown hK hP 0 rfl rfl 10 (by decide) (ht0 _ wd272) (fun _ h9 => h9) rfl dX5_readNarrow_46 ?_
      obtain ⟨r49, hc49, hok⟩ := k_bind hok
      refine kCi (wc := (wX8_cellAt cy )) (wc2 := (wX8_cellAt cy )) (wr := [(aR, oX5 vR_36 qR vR_j11_16 aH), (qR 0, rB cy 900 vR_tape), (aH, oX4 vH qH), (qR 3, rJ cy 4 vR_ringNames), (qH 9, rI cy 4 vH_places), (qH 11, rI cy 36 vH_width)]) (ws2 := (wX5_readNarrow cy aR qR aH qH vR_j11_16 vR_36 vR_tape vH vR_ringNames vH_places vH_width)) (kRunSN (As := [.int r16, .int (vR_36 10)]) (rest := []) ⟨hx, hb, hml, hown, ht0⟩ (kX8_cellAt l D cy _ r16 (vR_36 10) r49 hc49 _ rfl) ⟨va_cnB 2 ht0 (gN wd260) rfl rfl rfl (hN _ (List.mem_of_getElem? (i := 5) rfl)) (ht0 _ wd57) (by decide +kernel) ⟨Nat.le_of_ble_eq_true rfl, Nat.le_of_ble_eq_true rfl⟩, ht0 _ wd261, trivial⟩ hK hN hP hD [] rfl (by decide) rfl hl.1 rfl (Nat.le_of_ble_eq_true rfl) dX5_readNarrow_49 ⟨Nat.zero_le _, Nat.zero_le _⟩) hP hD hS hA [] [0, 1, 2, 3, 4, 5] rfl rfl (by decide) (by decide) [0, 1, 2, 3, 4, 5] (by decide) rfl rfl (fun H locs hP hD hS => ?_)
      refine lv_istore_n (lv' := [(2, .int r49), (1, .int r16), (0, .ref aR)]) hx hb dX5_readNarrow_52 rfl hl (by decide) rfl (fun ls hl => ?_)
      refine lv_aload_n hx hb dX5_readNarrow_53 rfl (lv_at hl 2 rfl) ?_
      refine va_get (D := D) (ci := 4) (v := .ref aH) (C := RX5) (T := TX5) (N := 13) hx hb ht0 niX5 hown hK hP 0 rfl rfl 2 (by decide) (ht0 _ wd266) (fun _ h9 => h9) rfl dX5_readNarrow_54 ?_
      refine lv_iload_n hx hb dX5_readNarrow_57 rfl (lv_at hl 0 rfl) ?_
      obtain ⟨r58, hc58, hok⟩ := k_bind hok
      refine kCi (wc := (wX4_widthOf cy aH qH vH vH_width)) (wc2 := (wX4_widthOf cy aH qH vH vH_width)) (wr := [(aR, oX5 vR_36 qR vR_j11_16 aH), (qR 0, rB cy 900 vR_tape), (qR 3, rJ cy 4 vR_ringNames), (qH 9, rI cy 4 vH_places)]) (ws2 := (wX5_readNarrow cy aR qR aH qH vR_j11_16 vR_36 vR_tape vH vR_ringNames vH_places vH_width)) (kRunV (As := [.int r49]) (rest := []) ⟨hx, hb, hml, hown, ht0⟩ (kX4_widthOf l D cy _ aH qH vH vH_width r49 r58 hc58 _ rfl) (cwV 1 ht0 (gV wd392 wd393 wd394 wd9 wd395) rfl rfl rfl (by decide +kernel) ⟨Nat.le_of_ble_eq_true rfl, Nat.le_of_ble_eq_true rfl⟩) hK hN hP hD [2, 5] rfl (by decide) 2 3 rfl rfl rfl hl.1 rfl (Nat.le_of_ble_eq_true rfl) dX5_readNarrow_58 ⟨Nat.zero_le _, Nat.zero_le _⟩) hP hD hS hA [2, 5] [0, 1, 3, 4] rfl rfl (by decide) (by decide) [0, 1, 4, 2, 3, 5] (by decide) rfl rfl (fun H locs hP hD hS => ?_)
      refine lv_bipush (v := 10) hx hb dX5_readNarrow_61 (by decide) ?_
      refine lv_icmp_eq (tgt := 72) hx hb dX5_readNarrow_63 (by decide) (fun c63 => ?_) (fun c63 => ?_)
      · have hok := k_pos c63 hok
        refine lv_aload_n hx hb dX5_readNarrow_72 rfl (lv_at hl 2 rfl) ?_
        obtain ⟨⟨vR_j11_73, vR_73⟩, hc73, hok⟩ := k_bind hok
        try dsimp only at hok
        refine kCv (wc := (wX5_step cy aR qR aH vR_j11_16 vR_36 vR_tape)) (wc2 := (wX5_step cy aR qR aH vR_j11_73 vR_73 vR_tape)) (wr := [(aH, oX4 vH qH), (qR 3, rJ cy 4 vR_ringNames), (qH 9, rI cy 4 vH_places), (qH 11, rI cy 36 vH_width)]) (ws2 := (wX5_readNarrow cy aR qR aH qH vR_j11_73 vR_73 vR_tape vH vR_ringNames vH_places vH_width)) (kRunV (As := []) (rest := []) ⟨hx, hb, hml, hown, ht0⟩ (kX5_step l D cy _ aR qR aH vR_j11_16 vR_36 vR_tape vR_j11_73 vR_73 hc73 _ rfl) (cwV 0 ht0 (gV wd328 wd329 wd330 wd276 wd331) rfl rfl rfl (by decide +kernel) ⟨Nat.le_of_ble_eq_true rfl, Nat.le_of_ble_eq_true rfl⟩) hK hN hP hD [0, 1] rfl (by decide) 0 4 rfl rfl rfl hl.1 rfl (Nat.le_of_ble_eq_true rfl) dX5_readNarrow_73 ⟨Nat.zero_le _, Nat.zero_le _⟩) hP hD hS hA [0, 1] [2, 3, 4, 5] rfl rfl (by decide) (by decide) [4, 5, 0, 1, 2, 3] (by decide) rfl rfl (fun H locs hP hD hS => ?_)
        refine lv_aload_n hx hb dX5_readNarrow_76 rfl (lv_at hl 2 rfl) ?_
        refine va_ldcS hx hb hown (hSt.2.1 _ (List.mem_of_getElem? (i := 16) rfl)) dX5_readNarrow_77 ?_
        obtain ⟨⟨r79, vR_j11_79, vR_79⟩, hc79, hok⟩ := k_bind hok
        try dsimp only at hok
        refine kCi (wc := (wX5_passes cy aR qR aH vR_j11_73 vR_73 vR_tape)) (wc2 := (wX5_passes cy aR qR aH vR_j11_79 vR_79 vR_tape)) (wr := [(aH, oX4 vH qH), (qR 3, rJ cy 4 vR_ringNames), (qH 9, rI cy 4 vH_places), (qH 11, rI cy 36 vH_width)]) (ws2 := (wX5_readNarrow cy aR qR aH qH vR_j11_79 vR_79 vR_tape vH vR_ringNames vH_places vH_width)) (kRunVS (As := [.ref (ad.1 3)]) (rest := []) ⟨hx, hb, hml, hown, ht0⟩ (kX5_passes l D cy ad _ aR qR aH vR_j11_73 vR_73 vR_tape 3 r79 vR_j11_79 vR_79 hc79 _ rfl) (cwV 1 ht0 (gV wd341 wd342 wd343 wd276 wd344) rfl rfl rfl (by decide +kernel) ⟨Nat.le_of_ble_eq_true rfl, Nat.le_of_ble_eq_true rfl⟩) hK hN hP hD hSt hS hA [0, 1] rfl (by decide) 0 4 rfl rfl rfl hl.1 rfl (Nat.le_of_ble_eq_true rfl) dX5_readNarrow_79 ⟨Nat.zero_le _, Nat.zero_le _⟩) hP hD hS hA [0, 1] [2, 3, 4, 5] rfl rfl (by decide) (by decide) [4, 5, 0, 1, 2, 3] (by decide) rfl rfl (fun H locs hP hD hS => ?_)
        refine lv_if_ne (tgt := 87) hx hb dX5_readNarrow_82 (by decide) (fun c82 => ?_) (fun c82 => ?_)
        · have hok := k_neg c82 hok
          refine lv_aload_n hx hb dX5_readNarrow_87 rfl (lv_at hl 2 rfl) ?_
          refine lv_iconst (v := 0) hx hb dX5_readNarrow_88 (by decide) ?_
          refine lv_bipush (v := 9) hx hb dX5_readNarrow_89 (by decide) ?_
          obtain ⟨⟨r91, vR_j11_91, vR_91⟩, hc91, hok⟩ := k_bind hok
          try dsimp only at hok
          refine kCi (wc := (wX5_takeWhole cy aR qR aH vR_j11_79 vR_79 vR_tape)) (wc2 := (wX5_takeWhole cy aR qR aH vR_j11_91 vR_91 vR_tape)) (wr := [(aH, oX4 vH qH), (qR 3, rJ cy 4 vR_ringNames), (qH 9, rI cy 4 vH_places), (qH 11, rI cy 36 vH_width)]) (ws2 := (wX5_readNarrow cy aR qR aH qH vR_j11_91 vR_91 vR_tape vH vR_ringNames vH_places vH_width)) (kRunV (As := [.int 0, .int 9]) (rest := []) ⟨hx, hb, hml, hown, ht0⟩ (kX5_takeWhole l D cy _ aR qR aH vR_j11_79 vR_79 vR_tape (0 : Int32) (9 : Int32) r91 vR_j11_91 vR_91 hc91 _ rfl) (cwV 2 ht0 (gV wd345 wd346 wd347 wd276 wd348) rfl rfl rfl (by decide +kernel) ⟨Nat.le_of_ble_eq_true rfl, Nat.le_of_ble_eq_true rfl⟩) hK hN hP hD [0, 1] rfl (by decide) 0 4 rfl rfl rfl hl.1 rfl (Nat.le_of_ble_eq_true rfl) dX5_readNarrow_91 ⟨Nat.zero_le _, Nat.zero_le _⟩) hP hD hS hA [0, 1] [2, 3, 4, 5] rfl rfl (by decide) (by decide) [4, 5, 0, 1, 2, 3] (by decide) rfl rfl (fun H locs hP hD hS => ?_)
          refine lv_istore_n (lv' := [(3, .int r91), (2, .int r49), (1, .int r16), (0, .ref aR)]) hx hb dX5_readNarrow_94 rfl hl (by decide) rfl (fun ls hl => ?_)
          refine lv_iload_n hx hb dX5_readNarrow_95 rfl (lv_at hl 0 rfl) ?_
          refine lv_if_ge (tgt := 101) hx hb dX5_readNarrow_96 (by decide) (fun c96 => ?_) (fun c96 => ?_)
          · have hok := k_pos c96 hok
            refine lv_aload_n hx hb dX5_readNarrow_101 rfl (lv_at hl 3 rfl) ?_
            refine va_get (D := D) (ci := 4) (v := .ref aH) (C := RX5) (T := TX5) (N := 13) hx hb ht0 niX5 hown hK hP 0 rfl rfl 2 (by decide) (ht0 _ wd266) (fun _ h9 => h9) rfl dX5_readNarrow_102 ?_
            refine lv_iload_n hx hb dX5_readNarrow_105 rfl (lv_at hl 1 rfl) ?_
            refine lv_iload_n hx hb dX5_readNarrow_106 rfl (lv_at hl 0 rfl) ?_
            obtain ⟨⟨vH_107, vH_width_107⟩, hc107, hok⟩ := k_bind hok
            try dsimp only at hok
            refine kCv (wc := (wX4_addNarrow cy aH qH vH vH_width)) (wc2 := (wX4_addNarrow cy aH qH vH_107 vH_width_107)) (wr := [(aR, oX5 vR_91 qR vR_j11_91 aH), (qR 0, rB cy 900 vR_tape), (qR 3, rJ cy 4 vR_ringNames), (qH 9, rI cy 4 vH_places)]) (ws2 := (wX5_readNarrow cy aR qR aH qH vR_j11_91 vR_91 vR_tape vH_107 vR_ringNames vH_places vH_width_107)) (kRunV (As := [.int r49, .int r91]) (rest := []) ⟨hx, hb, hml, hown, ht0⟩ (kX4_addNarrow l D cy _ aH qH vH vH_width r49 r91 vH_107 vH_width_107 hc107 _ rfl) (cwV 2 ht0 (gV wd396 wd397 wd398 wd9 wd399) rfl rfl rfl (by decide +kernel) ⟨Nat.le_of_ble_eq_true rfl, Nat.le_of_ble_eq_true rfl⟩) hK hN hP hD [2, 5] rfl (by decide) 2 3 rfl rfl rfl hl.1 rfl (Nat.le_of_ble_eq_true rfl) dX5_readNarrow_107 ⟨Nat.zero_le _, Nat.zero_le _⟩) hP hD hS hA [2, 5] [0, 1, 3, 4] rfl rfl (by decide) (by decide) [0, 1, 4, 2, 3, 5] (by decide) rfl rfl (fun H locs hP hD hS => ?_)
            refine lv_iconst (v := 1) hx hb dX5_readNarrow_110 (by decide) ?_
            cases hok
            subst hQe; exact W.zret hx hb hr rfl (fun t ht hW => ⟨⟨_, (), rfl, rfl, by rw [ht]; exact hP, va_K.moved hW.alike hK, hD⟩, hS.F ht⟩) hS.2.2 dX5_readNarrow_111
          · have hok := k_neg c96 hok
            refine lv_iconst (v := 0) hx hb dX5_readNarrow_99 (by decide) ?_
            cases hok
            subst hQe; exact W.zret hx hb hr rfl (fun t ht hW => ⟨⟨_, (), rfl, rfl, by rw [ht]; exact hP, va_K.moved hW.alike hK, hD⟩, hS.F ht⟩) hS.2.2 dX5_readNarrow_100
        · have hok := k_pos c82 hok
          refine lv_iconst (v := 0) hx hb dX5_readNarrow_85 (by decide) ?_
          cases hok
          subst hQe; exact W.zret hx hb hr rfl (fun t ht hW => ⟨⟨_, (), rfl, rfl, by rw [ht]; exact hP, va_K.moved hW.alike hK, hD⟩, hS.F ht⟩) hS.2.2 dX5_readNarrow_86
      · have hok := k_neg c63 hok
        refine lv_aload_n hx hb dX5_readNarrow_66 rfl (lv_at hl 2 rfl) ?_
        refine lv_iconst (v := 3) hx hb dX5_readNarrow_67 (by decide) ?_
        obtain ⟨⟨r68, vR_68⟩, hc68, hok⟩ := k_bind hok
        try dsimp only at hok
        refine kCi (wc := (wX5_fails cy aR qR aH vR_j11_16 vR_36)) (wc2 := (wX5_fails cy aR qR aH vR_j11_16 vR_68)) (wr := [(qR 0, rB cy 900 vR_tape), (aH, oX4 vH qH), (qR 3, rJ cy 4 vR_ringNames), (qH 9, rI cy 4 vH_places), (qH 11, rI cy 36 vH_width)]) (ws2 := (wX5_readNarrow cy aR qR aH qH vR_j11_16 vR_68 vR_tape vH vR_ringNames vH_places vH_width)) (kRunV (As := [.int 3]) (rest := []) ⟨hx, hb, hml, hown, ht0⟩ (kX5_fails l D cy _ aR qR aH vR_j11_16 vR_36 (3 : Int32) r68 vR_68 hc68 _ rfl) (cwV 1 ht0 (gV wd332 wd333 wd334 wd276 wd335) rfl rfl rfl (by decide +kernel) ⟨Nat.le_of_ble_eq_true rfl, Nat.le_of_ble_eq_true rfl⟩) hK hN hP hD [0] rfl (by decide) 0 4 rfl rfl rfl hl.1 rfl (Nat.le_of_ble_eq_true rfl) dX5_readNarrow_68 ⟨Nat.zero_le _, Nat.zero_le _⟩) hP hD hS hA [0] [1, 2, 3, 4, 5] rfl rfl (by decide) (by decide) [5, 0, 1, 2, 3, 4] (by decide) rfl rfl (fun H locs hP hD hS => ?_)
        obtain ⟨g71, hok⟩ := gd_some hok
        cases hok
        subst hQe; exact W.zret hx hb hr (isB_nar g71) (fun t ht hW => ⟨⟨_, (), rfl, rfl, by rw [ht]; exact hP, va_K.moved hW.alike hK, hD⟩, hS.F ht⟩) hS.2.2 dX5_readNarrow_71
    · have hok := k_pos c39 hok
      exact J42 vR_j11_16 vR_36 H locs ls hP hD hS (lv_sub hl [] rfl) hok
def wsX5_readDoor : List Cond := .code yX5_readDoor cX5_readDoor 5 (some .boolean) :: W0
abbrev wX5_readDoor (cy : Nat → ClassId) (aR : Nat) (qR : Nat → Nat) (aH : Nat) (qH : Nat → Nat) (vR_j11 : Int64) (vR : Nat → Int32) (vR_tape : Nat → Int32) (vH : Nat → Int32) (vR_ringNames : Nat → Int64) (vH_places : Nat → Int32) (vH_doorOne : Nat → Int32) (vH_doorTwo : Nat → Int32) : va_W := [(aR, oX5 vR qR vR_j11 aH), (qR 0, rB cy 900 vR_tape), (aH, oX4 vH qH), (qR 3, rJ cy 4 vR_ringNames), (qH 9, rI cy 4 vH_places), (qH 12, rI cy 5 vH_doorOne), (qH 13, rI cy 5 vH_doorTwo)]
set_option maxHeartbeats 4000000 in
set_option maxRecDepth 100000 in
theorem kX5_readDoor (l : Launch) (D : va_G) (cy : Nat → ClassId) (ad : (Nat → Nat) × (Nat → Nat)) (sz : Nat) (aR : Nat) (qR : Nat → Nat) (aH : Nat) (qH : Nat → Nat) (vR_j11 : Int64) (vR : Nat → Int32) (vR_tape : Nat → Int32) (vH : Nat → Int32) (vR_ringNames : Nat → Int64) (vH_places : Nat → Int32) (vH_doorOne : Nat → Int32) (vH_doorTwo : Nat → Int32) (zr : Int32) (z_vR_j11 : Int64) (z_vR : Nat → Int32) (z_vH : Nat → Int32) (z_vH_doorOne : Nat → Int32) (z_vH_doorTwo : Nat → Int32) (hok : fX5_readDoor vR_j11 vR vR_tape vH vR_ringNames vH_places vH_doorOne vH_doorTwo = some (zr, z_vR_j11, z_vR, z_vH, z_vH_doorOne, z_vH_doorTwo)) (A : Nat → Prop) (hAe : va_A (wX5_readDoor cy aR qR aH qH vR_j11 vR vR_tape vH vR_ringNames vH_places vH_doorOne vH_doorTwo) sz = A) : Met l yX5_readDoor wsX5_readDoor ({ frames := 7, cells := 0, slots := 0, locals := 153 } : Room) (kPreS D cy ad [.ref aR] (wX5_readDoor cy aR qR aH qH vR_j11 vR vR_tape vH vR_ringNames vH_places vH_doorOne vH_doorTwo) sz A) (kQi D cy zr A (wX5_readDoor cy aR qR aH qH z_vR_j11 z_vR vR_tape z_vH vR_ringNames vH_places z_vH_doorOne z_vH_doorTwo)) 0 0 A := by
  refine Met.ofW (cc := cX5_readDoor) (maxL := 5) (ret := (some .boolean)) (by decide) rfl ?_
  intro p e s m args below meth c s₁ B hml hv
  obtain ⟨rfl, ⟨hsz, hP, hK, hD0, hN⟩, hSt⟩ := hv
  have hx := B.exec
  have hb := B.bytes
  have hr := B.returns
  have ht0 : ∀ w ∈ W0, w.before _ s = true := fun w h => atoms_spec (ws := wsX5_readDoor) B.pre w (List.mem_cons_of_mem _ h)
  have hown : s.vm.findClass RX5 = some m.cls := findClass_of_methodNamed B.named
  have hlocks := B.notSynchronized
  subst hsz
  have hD : va_D A (wX5_readDoor cy aR qR aH qH vR_j11 vR vR_tape vH vR_ringNames vH_places vH_doorOne vH_doorTwo) := by rw [← hAe]; exact hD0.self
  have hA : ∀ q : Nat, s.heap.size ≤ q → A q := fun q h => by rw [← hAe]; exact Or.inr h
  have hS : va_S A s.heap s.heap [] := va_S.rf
  have hl := lv_entry ([.ref aR]) (n := 5) (Nat.le_of_ble_eq_true rfl)
  rw [lg_entry_eq]
  generalize (lg_sl ([.ref aR]) ++ List.replicate (5 - (lg_sl ([.ref aR])).length) Slot.unset).toArray = ls at hl ⊢
  have hl : lv_has ls 5 [(0, .ref aR)] := hl
  generalize hQe : MQ below (kQi D cy zr A (wX5_readDoor cy aR qR aH qH z_vR_j11 z_vR vR_tape z_vH vR_ringNames vH_places z_vH_doorOne z_vH_doorTwo)) ([.ref aR] : List Value).toArray s 0 0 A = Q
  have J123 : ∀ (vR_11_123 : Int64) (vR_123 : Nat → Int32), ∀ (H : Heap) (locs : List Loc) (ls : Array Slot), va_P D vwCl (wX5_readDoor cy aR qR aH qH vR_11_123 vR_123 vR_tape vH vR_ringNames vH_places vH_doorOne vH_doorTwo) H → va_D A (wX5_readDoor cy aR qR aH qH vR_11_123 vR_123 vR_tape vH vR_ringNames vH_places vH_doorOne vH_doorTwo) → va_S A s.heap H locs → lv_has ls 5 [(0, .ref aR)] → fX5_readDoor_J123 vH vH_doorOne vH_doorTwo vR_11_123 vR_123 = some (zr, z_vR_j11, z_vR, z_vH, z_vH_doorOne, z_vH_doorTwo) → W p l e ({ frames := 7, cells := 0, slots := 0, locals := 153 } : Room) s m ([.ref aR] : List Value).toArray below meth c H locs 0 0 Q (F0 m 123 ls []) := by
    intro vR_11_123 vR_123 H locs ls hP hD hS hl hok
    unfold fX5_readDoor_J123 at hok
    refine lv_aload_n hx hb dX5_readDoor_123 rfl (lv_at hl 0 rfl) ?_
    refine lv_iconst (v := 3) hx hb dX5_readDoor_124 (by decide) ?_
    obtain ⟨⟨r125, vR_125⟩, hc125, hok⟩ := k_bind hok
    try dsimp only at hok
    refine kCi (wc := (wX5_fails cy aR qR aH vR_11_123 vR_123)) (wc2 := (wX5_fails cy aR qR aH vR_11_123 vR_125)) (wr := [(qR 0, rB cy 900 vR_tape), (aH, oX4 vH qH), (qR 3, rJ cy 4 vR_ringNames), (qH 9, rI cy 4 vH_places), (qH 12, rI cy 5 vH_doorOne), (qH 13, rI cy 5 vH_doorTwo)]) (ws2 := (wX5_readDoor cy aR qR aH qH vR_11_123 vR_125 vR_tape vH vR_ringNames vH_places vH_doorOne vH_doorTwo)) (kRunV (As := [.int 3]) (rest := []) ⟨hx, hb, hml, hown, ht0⟩ (kX5_fails l D cy _ aR qR aH vR_11_123 vR_123 (3 : Int32) r125 vR_125 hc125 _ rfl) (cwV 1 ht0 (gV wd332 wd333 wd334 wd276 wd335) rfl rfl rfl (by decide +kernel) ⟨Nat.le_of_ble_eq_true rfl, Nat.le_of_ble_eq_true rfl⟩) hK hN hP hD [0] rfl (by decide) 0 4 rfl rfl rfl hl.1 rfl (Nat.le_of_ble_eq_true rfl) dX5_readDoor_125 ⟨Nat.zero_le _, Nat.zero_le _⟩) hP hD hS hA [0] [1, 2, 3, 4, 5, 6] rfl rfl (by decide) (by decide) [6, 0, 1, 2, 3, 4, 5] (by decide) rfl rfl (fun H locs hP hD hS => ?_)
    obtain ⟨g128, hok⟩ := gd_some hok
    cases hok
    subst hQe; exact W.zret hx hb hr (isB_nar g128) (fun t ht hW => ⟨⟨_, (), rfl, rfl, by rw [ht]; exact hP, va_K.moved hW.alike hK, hD⟩, hS.F ht⟩) hS.2.2 dX5_readDoor_128
  have J92 : ∀ (vR_11_92 : Int64) (vR_92 : Nat → Int32), ∀ (H : Heap) (locs : List Loc) (ls : Array Slot), va_P D vwCl (wX5_readDoor cy aR qR aH qH vR_11_92 vR_92 vR_tape vH vR_ringNames vH_places vH_doorOne vH_doorTwo) H → va_D A (wX5_readDoor cy aR qR aH qH vR_11_92 vR_92 vR_tape vH vR_ringNames vH_places vH_doorOne vH_doorTwo) → va_S A s.heap H locs → lv_has ls 5 [] → fX5_readDoor_J92 vH vH_doorOne vH_doorTwo vR_11_92 vR_92 = some (zr, z_vR_j11, z_vR, z_vH, z_vH_doorOne, z_vH_doorTwo) → W p l e ({ frames := 7, cells := 0, slots := 0, locals := 153 } : Room) s m ([.ref aR] : List Value).toArray below meth c H locs 0 0 Q (F0 m 92 ls []) := by
    intro vR_11_92 vR_92 H locs ls hP hD hS hl hok
    unfold fX5_readDoor_J92 at hok
    refine lv_iconst (v := 0) hx hb dX5_readDoor_92 (by decide) ?_
    cases hok
    subst hQe; exact W.zret hx hb hr rfl (fun t ht hW => ⟨⟨_, (), rfl, rfl, by rw [ht]; exact hP, va_K.moved hW.alike hK, hD⟩, hS.F ht⟩) hS.2.2 dX5_readDoor_93
  unfold fX5_readDoor at hok
  obtain ⟨H, hH⟩ : ∃ H, H = s.heap := ⟨_, rfl⟩
  obtain ⟨locs, hlc⟩ : ∃ x : List Loc, x = [] := ⟨_, rfl⟩
  have hP : va_P D vwCl (wX5_readDoor cy aR qR aH qH vR_j11 vR vR_tape vH vR_ringNames vH_places vH_doorOne vH_doorTwo) H := by rw [hH]; exact hP
  have hS : va_S A s.heap H locs := by rw [hH, hlc]; exact hS
  rw [show W p l e _ s m _ below meth c s.heap [] = W p l e _ s m _ below meth c H locs from by rw [hH, hlc]]
  refine lv_aload_n hx hb dX5_readDoor_0 rfl (lv_at hl 0 rfl) ?_
  obtain ⟨⟨vR_j11_1, vR_1⟩, hc1, hok⟩ := k_bind hok
  try dsimp only at hok
  refine kCv (wc := (wX5_step cy aR qR aH vR_j11 vR vR_tape)) (wc2 := (wX5_step cy aR qR aH vR_j11_1 vR_1 vR_tape)) (wr := [(aH, oX4 vH qH), (qR 3, rJ cy 4 vR_ringNames), (qH 9, rI cy 4 vH_places), (qH 12, rI cy 5 vH_doorOne), (qH 13, rI cy 5 vH_doorTwo)]) (ws2 := (wX5_readDoor cy aR qR aH qH vR_j11_1 vR_1 vR_tape vH vR_ringNames vH_places vH_doorOne vH_doorTwo)) (kRunV (As := []) (rest := []) ⟨hx, hb, hml, hown, ht0⟩ (kX5_step l D cy _ aR qR aH vR_j11 vR vR_tape vR_j11_1 vR_1 hc1 _ rfl) (cwV 0 ht0 (gV wd328 wd329 wd330 wd276 wd331) rfl rfl rfl (by decide +kernel) ⟨Nat.le_of_ble_eq_true rfl, Nat.le_of_ble_eq_true rfl⟩) hK hN hP hD [0, 1] rfl (by decide) 0 4 rfl rfl rfl hl.1 rfl (Nat.le_of_ble_eq_true rfl) dX5_readDoor_1 ⟨Nat.zero_le _, Nat.zero_le _⟩) hP hD hS hA [0, 1] [2, 3, 4, 5, 6] rfl rfl (by decide) (by decide) [5, 6, 0, 1, 2, 3, 4] (by decide) rfl rfl (fun H locs hP hD hS => ?_)
  refine lv_aload_n hx hb dX5_readDoor_4 rfl (lv_at hl 0 rfl) ?_
  refine lv_aload_n hx hb dX5_readDoor_5 rfl (lv_at hl 0 rfl) ?_
  refine va_get (D := D) (ci := 4) (v := .ref (qR 3)) (C := RX5) (T := TX5) (N := 13) hx hb ht0 niX5 hown hK hP 0 rfl rfl 3 (by decide) (ht0 _ wd370) (fun _ h9 => h9) rfl dX5_readDoor_6 ?_
  refine lv_aload_n hx hb dX5_readDoor_9 rfl (lv_at hl 0 rfl) ?_
  refine va_get (D := D) (ci := 4) (v := .ref aH) (C := RX5) (T := TX5) (N := 13) hx hb ht0 niX5 hown hK hP 0 rfl rfl 2 (by decide) (ht0 _ wd266) (fun _ h9 => h9) rfl dX5_readDoor_10 ?_
  refine va_get (D := D) (ci := 3) (v := .int (vH 2)) (C := RX4) (T := TX4) (N := 20) hx hb ht0 niX4 hown hK hP 2 rfl rfl 2 (by decide) (ht0 _ wd360) (fun _ h9 => h9) rfl dX5_readDoor_13 ?_
  obtain ⟨⟨r16, vR_j11_16, vR_16⟩, hc16, hok⟩ := k_bind hok
  try dsimp only at hok
  refine kCi (wc := (wX5_takeToldName cy aR (qR 3) qR aH vR_j11_1 vR_1 vR_tape 4 vR_ringNames)) (wc2 := (wX5_takeToldName cy aR (qR 3) qR aH vR_j11_16 vR_16 vR_tape 4 vR_ringNames)) (wr := [(aH, oX4 vH qH), (qH 9, rI cy 4 vH_places), (qH 12, rI cy 5 vH_doorOne), (qH 13, rI cy 5 vH_doorTwo)]) (ws2 := (wX5_readDoor cy aR qR aH qH vR_j11_16 vR_16 vR_tape vH vR_ringNames vH_places vH_doorOne vH_doorTwo)) (kRunVS (As := [.ref (qR 3), .int (vH 2)]) (rest := []) ⟨hx, hb, hml, hown, ht0⟩ (kX5_takeToldName l D cy ad _ aR (qR 3) qR aH vR_j11_1 vR_1 vR_tape 4 vR_ringNames (vH 2) r16 vR_j11_16 vR_16 hc16 _ rfl) (cwV 2 ht0 (gV wd387 wd388 wd389 wd276 wd390) rfl rfl rfl (by decide +kernel) ⟨Nat.le_of_ble_eq_true rfl, Nat.le_of_ble_eq_true rfl⟩) hK hN hP hD hSt hS hA [0, 1, 3] rfl (by decide) 0 4 rfl rfl rfl hl.1 rfl (Nat.le_of_ble_eq_true rfl) dX5_readDoor_16 ⟨Nat.zero_le _, Nat.zero_le _⟩) hP hD hS hA [0, 1, 3] [2, 4, 5, 6] rfl rfl (by decide) (by decide) [4, 5, 0, 6, 1, 2, 3] (by decide) rfl rfl (fun H locs hP hD hS => ?_)
  refine lv_istore_n (lv' := [(1, .int r16), (0, .ref aR)]) hx hb dX5_readDoor_19 rfl hl (by decide) rfl (fun ls hl => ?_)
  refine lv_iload_n hx hb dX5_readDoor_20 rfl (lv_at hl 0 rfl) ?_
  refine lv_if_ge (tgt := 26) hx hb dX5_readDoor_21 (by decide) (fun c21 => ?_) (fun c21 => ?_)
  · have hok := k_pos c21 hok
    refine lv_aload_n hx hb dX5_readDoor_26 rfl (lv_at hl 1 rfl) ?_
    refine lv_iconst (v := 0) hx hb dX5_readDoor_27 (by decide) ?_
    refine lv_aload_n hx hb dX5_readDoor_28 rfl (lv_at hl 1 rfl) ?_
    refine va_get (D := D) (ci := 4) (v := .ref aH) (C := RX5) (T := TX5) (N := 13) hx hb ht0 niX5 hown hK hP 0 rfl rfl 2 (by decide) (ht0 _ wd266) (fun _ h9 => h9) rfl dX5_readDoor_29 ?_
    refine lv_iload_n hx hb dX5_readDoor_32 rfl (lv_at hl 0 rfl) ?_
    obtain ⟨r33, hc33, hok⟩ := k_bind hok
    refine kCi (wc := (wX4_placesOf cy aH qH vH vH_places)) (wc2 := (wX4_placesOf cy aH qH vH vH_places)) (wr := [(aR, oX5 vR_16 qR vR_j11_16 aH), (qR 0, rB cy 900 vR_tape), (qR 3, rJ cy 4 vR_ringNames), (qH 12, rI cy 5 vH_doorOne), (qH 13, rI cy 5 vH_doorTwo)]) (ws2 := (wX5_readDoor cy aR qR aH qH vR_j11_16 vR_16 vR_tape vH vR_ringNames vH_places vH_doorOne vH_doorTwo)) (kRunV (As := [.int r16]) (rest := [.int 0, .ref aR]) ⟨hx, hb, hml, hown, ht0⟩ (kX4_placesOf l D cy _ aH qH vH vH_places r16 r33 hc33 _ rfl) (cwV 1 ht0 (gV wd391 wd257 wd258 wd9 wd259) rfl rfl rfl (by decide +kernel) ⟨Nat.le_of_ble_eq_true rfl, Nat.le_of_ble_eq_true rfl⟩) hK hN hP hD [2, 4] rfl (by decide) 2 3 rfl rfl rfl hl.1 rfl (Nat.le_of_ble_eq_true rfl) dX5_readDoor_33 ⟨Nat.zero_le _, Nat.zero_le _⟩) hP hD hS hA [2, 4] [0, 1, 3, 5, 6] rfl rfl (by decide) (by decide) [0, 1, 5, 2, 6, 3, 4] (by decide) rfl rfl (fun H locs hP hD hS => ?_)
    refine lv_iconst (v := 1) hx hb dX5_readDoor_36 (by decide) ?_
    refine lv_isub hx hb dX5_readDoor_37 ?_
    obtain ⟨⟨r38, vR_j11_38, vR_38⟩, hc38, hok⟩ := k_bind hok
    try dsimp only at hok
    refine kCi (wc := (wX5_takeWhole cy aR qR aH vR_j11_16 vR_16 vR_tape)) (wc2 := (wX5_takeWhole cy aR qR aH vR_j11_38 vR_38 vR_tape)) (wr := [(aH, oX4 vH qH), (qR 3, rJ cy 4 vR_ringNames), (qH 9, rI cy 4 vH_places), (qH 12, rI cy 5 vH_doorOne), (qH 13, rI cy 5 vH_doorTwo)]) (ws2 := (wX5_readDoor cy aR qR aH qH vR_j11_38 vR_38 vR_tape vH vR_ringNames vH_places vH_doorOne vH_doorTwo)) (kRunV (As := [.int 0, .int (r33 - (1 : Int32))]) (rest := []) ⟨hx, hb, hml, hown, ht0⟩ (kX5_takeWhole l D cy _ aR qR aH vR_j11_16 vR_16 vR_tape (0 : Int32) (r33 - (1 : Int32)) r38 vR_j11_38 vR_38 hc38 _ rfl) (cwV 2 ht0 (gV wd345 wd346 wd347 wd276 wd348) rfl rfl rfl (by decide +kernel) ⟨Nat.le_of_ble_eq_true rfl, Nat.le_of_ble_eq_true rfl⟩) hK hN hP hD [0, 1] rfl (by decide) 0 4 rfl rfl rfl hl.1 rfl (Nat.le_of_ble_eq_true rfl) dX5_readDoor_38 ⟨Nat.zero_le _, Nat.zero_le _⟩) hP hD hS hA [0, 1] [2, 3, 4, 5, 6] rfl rfl (by decide) (by decide) [5, 6, 0, 1, 2, 3, 4] (by decide) rfl rfl (fun H locs hP hD hS => ?_)
    refine lv_istore_n (lv' := [(2, .int r38), (1, .int r16), (0, .ref aR)]) hx hb dX5_readDoor_41 rfl hl (by decide) rfl (fun ls hl => ?_)
    refine lv_iload_n hx hb dX5_readDoor_42 rfl (lv_at hl 0 rfl) ?_
    refine lv_if_ge (tgt := 48) hx hb dX5_readDoor_43 (by decide) (fun c43 => ?_) (fun c43 => ?_)
    · have hok := k_pos c43 hok
      refine lv_iload_n hx hb dX5_readDoor_48 rfl (lv_at hl 1 rfl) ?_
      refine lv_iload_n hx hb dX5_readDoor_49 rfl (lv_at hl 0 rfl) ?_
      obtain ⟨r50, hc50, hok⟩ := k_bind hok
      refine kCi (wc := (wX8_cellAt cy )) (wc2 := (wX8_cellAt cy )) (wr := [(aR, oX5 vR_38 qR vR_j11_38 aH), (qR 0, rB cy 900 vR_tape), (aH, oX4 vH qH), (qR 3, rJ cy 4 vR_ringNames), (qH 9, rI cy 4 vH_places), (qH 12, rI cy 5 vH_doorOne), (qH 13, rI cy 5 vH_doorTwo)]) (ws2 := (wX5_readDoor cy aR qR aH qH vR_j11_38 vR_38 vR_tape vH vR_ringNames vH_places vH_doorOne vH_doorTwo)) (kRunSN (As := [.int r16, .int r38]) (rest := []) ⟨hx, hb, hml, hown, ht0⟩ (kX8_cellAt l D cy _ r16 r38 r50 hc50 _ rfl) ⟨va_cnB 2 ht0 (gN wd260) rfl rfl rfl (hN _ (List.mem_of_getElem? (i := 5) rfl)) (ht0 _ wd57) (by decide +kernel) ⟨Nat.le_of_ble_eq_true rfl, Nat.le_of_ble_eq_true rfl⟩, ht0 _ wd261, trivial⟩ hK hN hP hD [] rfl (by decide) rfl hl.1 rfl (Nat.le_of_ble_eq_true rfl) dX5_readDoor_50 ⟨Nat.zero_le _, Nat.zero_le _⟩) hP hD hS hA [] [0, 1, 2, 3, 4, 5, 6] rfl rfl (by decide) (by decide) [0, 1, 2, 3, 4, 5, 6] (by decide) rfl rfl (fun H locs hP hD hS => ?_)
      refine lv_istore_n (lv' := [(3, .int r50), (2, .int r38), (1, .int r16), (0, .ref aR)]) hx hb dX5_readDoor_53 rfl hl (by decide) rfl (fun ls hl => ?_)
      refine lv_aload_n hx hb dX5_readDoor_54 rfl (lv_at hl 3 rfl) ?_
      refine lv_aload_n hx hb dX5_readDoor_55 rfl (lv_at hl 3 rfl) ?_
      refine va_get (D := D) (ci := 4) (v := .ref (qR 3)) (C := RX5) (T := TX5) (N := 13) hx hb ht0 niX5 hown hK hP 0 rfl rfl 3 (by decide) (ht0 _ wd370) (fun _ h9 => h9) rfl dX5_readDoor_56 ?_
      refine lv_aload_n hx hb dX5_readDoor_59 rfl (lv_at hl 3 rfl) ?_
      refine va_get (D := D) (ci := 4) (v := .ref aH) (C := RX5) (T := TX5) (N := 13) hx hb ht0 niX5 hown hK hP 0 rfl rfl 2 (by decide) (ht0 _ wd266) (fun _ h9 => h9) rfl dX5_readDoor_60 ?_
      refine va_get (D := D) (ci := 3) (v := .int (vH 2)) (C := RX4) (T := TX4) (N := 20) hx hb ht0 niX4 hown hK hP 2 rfl rfl 2 (by decide) (ht0 _ wd360) (fun _ h9 => h9) rfl dX5_readDoor_63 ?_
      obtain ⟨⟨r66, vR_j11_66, vR_66⟩, hc66, hok⟩ := k_bind hok
      try dsimp only at hok
      refine kCi (wc := (wX5_takeToldName cy aR (qR 3) qR aH vR_j11_38 vR_38 vR_tape 4 vR_ringNames)) (wc2 := (wX5_takeToldName cy aR (qR 3) qR aH vR_j11_66 vR_66 vR_tape 4 vR_ringNames)) (wr := [(aH, oX4 vH qH), (qH 9, rI cy 4 vH_places), (qH 12, rI cy 5 vH_doorOne), (qH 13, rI cy 5 vH_doorTwo)]) (ws2 := (wX5_readDoor cy aR qR aH qH vR_j11_66 vR_66 vR_tape vH vR_ringNames vH_places vH_doorOne vH_doorTwo)) (kRunVS (As := [.ref (qR 3), .int (vH 2)]) (rest := []) ⟨hx, hb, hml, hown, ht0⟩ (kX5_takeToldName l D cy ad _ aR (qR 3) qR aH vR_j11_38 vR_38 vR_tape 4 vR_ringNames (vH 2) r66 vR_j11_66 vR_66 hc66 _ rfl) (cwV 2 ht0 (gV wd387 wd388 wd389 wd276 wd390) rfl rfl rfl (by decide +kernel) ⟨Nat.le_of_ble_eq_true rfl, Nat.le_of_ble_eq_true rfl⟩) hK hN hP hD hSt hS hA [0, 1, 3] rfl (by decide) 0 4 rfl rfl rfl hl.1 rfl (Nat.le_of_ble_eq_true rfl) dX5_readDoor_66 ⟨Nat.zero_le _, Nat.zero_le _⟩) hP hD hS hA [0, 1, 3] [2, 4, 5, 6] rfl rfl (by decide) (by decide) [4, 5, 0, 6, 1, 2, 3] (by decide) rfl rfl (fun H locs hP hD hS => ?_)
      refine lv_istore_n (lv' := [(1, .int r66), (3, .int r50), (2, .int r38), (0, .ref aR)]) hx hb dX5_readDoor_69 rfl hl (by decide) rfl (fun ls hl => ?_)
      refine lv_iload_n hx hb dX5_readDoor_70 rfl (lv_at hl 0 rfl) ?_
      refine lv_if_lt (tgt := 92) hx hb dX5_readDoor_71 (by decide) (fun c71 => ?_) (fun c71 => ?_)
      · have hok := k_pos c71 hok
        exact J92 vR_j11_66 vR_66 H locs ls hP hD hS (lv_sub hl [] rfl) hok
      · have hok := k_neg c71 hok
        refine lv_aload_n hx hb dX5_readDoor_74 rfl (lv_at hl 3 rfl) ?_
        refine lv_iconst (v := 0) hx hb dX5_readDoor_75 (by decide) ?_
        refine lv_aload_n hx hb dX5_readDoor_76 rfl (lv_at hl 3 rfl) ?_
        refine va_get (D := D) (ci := 4) (v := .ref aH) (C := RX5) (T := TX5) (N := 13) hx hb ht0 niX5 hown hK hP 0 rfl rfl 2 (by decide) (ht0 _ wd266) (fun _ h9 => h9) rfl dX5_readDoor_77 ?_
        refine lv_iload_n hx hb dX5_readDoor_80 rfl (lv_at hl 0 rfl) ?_
        obtain ⟨r81, hc81, hok⟩ := k_bind hok
        refine kCi (wc := (wX4_placesOf cy aH qH vH vH_places)) (wc2 := (wX4_placesOf cy aH qH vH vH_places)) (wr := [(aR, oX5 vR_66 qR vR_j11_66 aH), (qR 0, rB cy 900 vR_tape), (qR 3, rJ cy 4 vR_ringNames), (qH 12, rI cy 5 vH_doorOne), (qH 13, rI cy 5 vH_doorTwo)]) (ws2 := (wX5_readDoor cy aR qR aH qH vR_j11_66 vR_66 vR_tape vH vR_ringNames vH_places vH_doorOne vH_doorTwo)) (kRunV (As := [.int r66]) (rest := [.int 0, .ref aR]) ⟨hx, hb, hml, hown, ht0⟩ (kX4_placesOf l D cy _ aH qH vH vH_places r66 r81 hc81 _ rfl) (cwV 1 ht0 (gV wd391 wd257 wd258 wd9 wd259) rfl rfl rfl (by decide +kernel) ⟨Nat.le_of_ble_eq_true rfl, Nat.le_of_ble_eq_true rfl⟩) hK hN hP hD [2, 4] rfl (by decide) 2 3 rfl rfl rfl hl.1 rfl (Nat.le_of_ble_eq_true rfl) dX5_readDoor_81 ⟨Nat.zero_le _, Nat.zero_le _⟩) hP hD hS hA [2, 4] [0, 1, 3, 5, 6] rfl rfl (by decide) (by decide) [0, 1, 5, 2, 6, 3, 4] (by decide) rfl rfl (fun H locs hP hD hS => ?_)
        refine lv_iconst (v := 1) hx hb dX5_readDoor_84 (by decide) ?_
        refine lv_isub hx hb dX5_readDoor_85 ?_
        obtain ⟨⟨r86, vR_86⟩, hc86, hok⟩ := k_bind hok
        try dsimp only at hok
        refine kCi (wc := (wX5_isWhole cy aR qR aH vR_j11_66 vR_66)) (wc2 := (wX5_isWhole cy aR qR aH vR_j11_66 vR_86)) (wr := [(qR 0, rB cy 900 vR_tape), (aH, oX4 vH qH), (qR 3, rJ cy 4 vR_ringNames), (qH 9, rI cy 4 vH_places), (qH 12, rI cy 5 vH_doorOne), (qH 13, rI cy 5 vH_doorTwo)]) (ws2 := (wX5_readDoor cy aR qR aH qH vR_j11_66 vR_86 vR_tape vH vR_ringNames vH_places vH_doorOne vH_doorTwo)) (kRunV (As := [.int 0, .int (r81 - (1 : Int32))]) (rest := []) ⟨hx, hb, hml, hown, ht0⟩ (kX5_isWhole l D cy _ aR qR aH vR_j11_66 vR_66 (0 : Int32) (r81 - (1 : Int32)) r86 vR_86 hc86 _ rfl) (cwV 2 ht0 (gV wd336 wd337 wd338 wd276 wd339) rfl rfl rfl (by decide +kernel) ⟨Nat.le_of_ble_eq_true rfl, Nat.le_of_ble_eq_true rfl⟩) hK hN hP hD [0] rfl (by decide) 0 4 rfl rfl rfl hl.1 rfl (Nat.le_of_ble_eq_true rfl) dX5_readDoor_86 ⟨Nat.zero_le _, Nat.zero_le _⟩) hP hD hS hA [0] [1, 2, 3, 4, 5, 6] rfl rfl (by decide) (by decide) [6, 0, 1, 2, 3, 4, 5] (by decide) rfl rfl (fun H locs hP hD hS => ?_)
        refine lv_if_ne (tgt := 94) hx hb dX5_readDoor_89 (by decide) (fun c89 => ?_) (fun c89 => ?_)
        · have hok := k_neg c89 hok
          refine lv_iload_n hx hb dX5_readDoor_94 rfl (lv_at hl 0 rfl) ?_
          refine lv_aload_n hx hb dX5_readDoor_95 rfl (lv_at hl 3 rfl) ?_
          refine va_get (D := D) (ci := 4) (v := .int (vR_86 10)) (C := RX5) (T := TX5) (N := 13) hx hb ht0 niX5 hown hK hP 0 rfl rfl 10 (by decide) (ht0 _ wd272) (fun _ h9 => h9) rfl dX5_readDoor_96 ?_
          obtain ⟨r99, hc99, hok⟩ := k_bind hok
          refine kCi (wc := (wX8_cellAt cy )) (wc2 := (wX8_cellAt cy )) (wr := [(aR, oX5 vR_86 qR vR_j11_66 aH), (qR 0, rB cy 900 vR_tape), (aH, oX4 vH qH), (qR 3, rJ cy 4 vR_ringNames), (qH 9, rI cy 4 vH_places), (qH 12, rI cy 5 vH_doorOne), (qH 13, rI cy 5 vH_doorTwo)]) (ws2 := (wX5_readDoor cy aR qR aH qH vR_j11_66 vR_86 vR_tape vH vR_ringNames vH_places vH_doorOne vH_doorTwo)) (kRunSN (As := [.int r66, .int (vR_86 10)]) (rest := []) ⟨hx, hb, hml, hown, ht0⟩ (kX8_cellAt l D cy _ r66 (vR_86 10) r99 hc99 _ rfl) ⟨va_cnB 2 ht0 (gN wd260) rfl rfl rfl (hN _ (List.mem_of_getElem? (i := 5) rfl)) (ht0 _ wd57) (by decide +kernel) ⟨Nat.le_of_ble_eq_true rfl, Nat.le_of_ble_eq_true rfl⟩, ht0 _ wd261, trivial⟩ hK hN hP hD [] rfl (by decide) rfl hl.1 rfl (Nat.le_of_ble_eq_true rfl) dX5_readDoor_99 ⟨Nat.zero_le _, Nat.zero_le _⟩) hP hD hS hA [] [0, 1, 2, 3, 4, 5, 6] rfl rfl (by decide) (by decide) [0, 1, 2, 3, 4, 5, 6] (by decide) rfl rfl (fun H locs hP hD hS => ?_)
          refine lv_istore (lv' := [(4, .int r99), (1, .int r66), (3, .int r50), (2, .int r38), (0, .ref aR)]) hx hb dX5_readDoor_102 hl (by decide) rfl (fun ls hl => ?_)
          refine lv_iload_n hx hb dX5_readDoor_104 rfl (lv_at hl 2 rfl) ?_
          refine lv_iload hx hb dX5_readDoor_105 (lv_at hl 0 rfl) ?_
          refine lv_icmp_eq (tgt := 123) hx hb dX5_readDoor_107 (by decide) (fun c107 => ?_) (fun c107 => ?_)
          · have hok := k_pos c107 hok
            exact J123 vR_j11_66 vR_86 H locs ls hP hD hS (lv_sub hl [4] rfl) hok
          · have hok := k_neg c107 hok
            refine lv_aload_n hx hb dX5_readDoor_110 rfl (lv_at hl 4 rfl) ?_
            refine va_get (D := D) (ci := 4) (v := .ref aH) (C := RX5) (T := TX5) (N := 13) hx hb ht0 niX5 hown hK hP 0 rfl rfl 2 (by decide) (ht0 _ wd266) (fun _ h9 => h9) rfl dX5_readDoor_111 ?_
            refine lv_iload_n hx hb dX5_readDoor_114 rfl (lv_at hl 2 rfl) ?_
            refine lv_iload hx hb dX5_readDoor_115 (lv_at hl 0 rfl) ?_
            obtain ⟨r117, hc117, hok⟩ := k_bind hok
            refine kCi (wc := (wX4_hasDoor cy aH qH vH vH_doorOne vH_doorTwo)) (wc2 := (wX4_hasDoor cy aH qH vH vH_doorOne vH_doorTwo)) (wr := [(aR, oX5 vR_86 qR vR_j11_66 aH), (qR 0, rB cy 900 vR_tape), (qR 3, rJ cy 4 vR_ringNames), (qH 9, rI cy 4 vH_places)]) (ws2 := (wX5_readDoor cy aR qR aH qH vR_j11_66 vR_86 vR_tape vH vR_ringNames vH_places vH_doorOne vH_doorTwo)) (kRunV (As := [.int r50, .int r99]) (rest := []) ⟨hx, hb, hml, hown, ht0⟩ (kX4_hasDoor l D cy _ aH qH vH vH_doorOne vH_doorTwo r50 r99 r117 hc117 _ rfl) (cwV 2 ht0 (gV wd400 wd167 wd168 wd9 wd169) rfl rfl rfl (by decide +kernel) ⟨Nat.le_of_ble_eq_true rfl, Nat.le_of_ble_eq_true rfl⟩) hK hN hP hD [2, 5, 6] rfl (by decide) 2 3 rfl rfl rfl hl.1 rfl (Nat.le_of_ble_eq_true rfl) dX5_readDoor_117 ⟨Nat.zero_le _, Nat.zero_le _⟩) hP hD hS hA [2, 5, 6] [0, 1, 3, 4] rfl rfl (by decide) (by decide) [0, 1, 4, 2, 3, 5, 6] (by decide) rfl rfl (fun H locs hP hD hS => ?_)
            refine lv_if_eq (tgt := 129) hx hb dX5_readDoor_120 (by decide) (fun c120 => ?_) (fun c120 => ?_)
            · have hok := k_pos c120 hok
              refine lv_aload_n hx hb dX5_readDoor_129 rfl (lv_at hl 4 rfl) ?_
              obtain ⟨⟨vR_j11_130, vR_130⟩, hc130, hok⟩ := k_bind hok
              try dsimp only at hok
              refine kCv (wc := (wX5_step cy aR qR aH vR_j11_66 vR_86 vR_tape)) (wc2 := (wX5_step cy aR qR aH vR_j11_130 vR_130 vR_tape)) (wr := [(aH, oX4 vH qH), (qR 3, rJ cy 4 vR_ringNames), (qH 9, rI cy 4 vH_places), (qH 12, rI cy 5 vH_doorOne), (qH 13, rI cy 5 vH_doorTwo)]) (ws2 := (wX5_readDoor cy aR qR aH qH vR_j11_130 vR_130 vR_tape vH vR_ringNames vH_places vH_doorOne vH_doorTwo)) (kRunV (As := []) (rest := []) ⟨hx, hb, hml, hown, ht0⟩ (kX5_step l D cy _ aR qR aH vR_j11_66 vR_86 vR_tape vR_j11_130 vR_130 hc130 _ rfl) (cwV 0 ht0 (gV wd328 wd329 wd330 wd276 wd331) rfl rfl rfl (by decide +kernel) ⟨Nat.le_of_ble_eq_true rfl, Nat.le_of_ble_eq_true rfl⟩) hK hN hP hD [0, 1] rfl (by decide) 0 4 rfl rfl rfl hl.1 rfl (Nat.le_of_ble_eq_true rfl) dX5_readDoor_130 ⟨Nat.zero_le _, Nat.zero_le _⟩) hP hD hS hA [0, 1] [2, 3, 4, 5, 6] rfl rfl (by decide) (by decide) [5, 6, 0, 1, 2, 3, 4] (by decide) rfl rfl (fun H locs hP hD hS => ?_)
              refine lv_aload_n hx hb dX5_readDoor_133 rfl (lv_at hl 4 rfl) ?_
              refine va_get (D := D) (ci := 4) (v := .ref aH) (C := RX5) (T := TX5) (N := 13) hx hb ht0 niX5 hown hK hP 0 rfl rfl 2 (by decide) (ht0 _ wd266) (fun _ h9 => h9) rfl dX5_readDoor_134 ?_
              refine lv_iload_n hx hb dX5_readDoor_137 rfl (lv_at hl 2 rfl) ?_
              refine lv_iload hx hb dX5_readDoor_138 (lv_at hl 0 rfl) ?_
              obtain ⟨⟨vH_140, vH_doorOne_140, vH_doorTwo_140⟩, hc140, hok⟩ := k_bind hok
              try dsimp only at hok
              refine kCv (wc := (wX4_addDoor cy aH qH vH vH_doorOne vH_doorTwo)) (wc2 := (wX4_addDoor cy aH qH vH_140 vH_doorOne_140 vH_doorTwo_140)) (wr := [(aR, oX5 vR_130 qR vR_j11_130 aH), (qR 0, rB cy 900 vR_tape), (qR 3, rJ cy 4 vR_ringNames), (qH 9, rI cy 4 vH_places)]) (ws2 := (wX5_readDoor cy aR qR aH qH vR_j11_130 vR_130 vR_tape vH_140 vR_ringNames vH_places vH_doorOne_140 vH_doorTwo_140)) (kRunV (As := [.int r50, .int r99]) (rest := []) ⟨hx, hb, hml, hown, ht0⟩ (kX4_addDoor l D cy _ aH qH vH vH_doorOne vH_doorTwo r50 r99 vH_140 vH_doorOne_140 vH_doorTwo_140 hc140 _ rfl) (cwV 2 ht0 (gV wd401 wd402 wd403 wd9 wd404) rfl rfl rfl (by decide +kernel) ⟨Nat.le_of_ble_eq_true rfl, Nat.le_of_ble_eq_true rfl⟩) hK hN hP hD [2, 5, 6] rfl (by decide) 2 3 rfl rfl rfl hl.1 rfl (Nat.le_of_ble_eq_true rfl) dX5_readDoor_140 ⟨Nat.zero_le _, Nat.zero_le _⟩) hP hD hS hA [2, 5, 6] [0, 1, 3, 4] rfl rfl (by decide) (by decide) [0, 1, 4, 2, 3, 5, 6] (by decide) rfl rfl (fun H locs hP hD hS => ?_)
              refine lv_iconst (v := 1) hx hb dX5_readDoor_143 (by decide) ?_
              cases hok
              subst hQe; exact W.zret hx hb hr rfl (fun t ht hW => ⟨⟨_, (), rfl, rfl, by rw [ht]; exact hP, va_K.moved hW.alike hK, hD⟩, hS.F ht⟩) hS.2.2 dX5_readDoor_144
            · have hok := k_neg c120 hok
              exact J123 vR_j11_66 vR_86 H locs ls hP hD hS (lv_sub hl [4] rfl) hok
        · have hok := k_pos c89 hok
          exact J92 vR_j11_66 vR_86 H locs ls hP hD hS (lv_sub hl [] rfl) hok
    · have hok := k_neg c43 hok
      refine lv_iconst (v := 0) hx hb dX5_readDoor_46 (by decide) ?_
      cases hok
      subst hQe; exact W.zret hx hb hr rfl (fun t ht hW => ⟨⟨_, (), rfl, rfl, by rw [ht]; exact hP, va_K.moved hW.alike hK, hD⟩, hS.F ht⟩) hS.2.2 dX5_readDoor_47
  · have hok := k_neg c21 hok
    refine lv_iconst (v := 0) hx hb dX5_readDoor_24 (by decide) ?_
    cases hok
    subst hQe; exact W.zret hx hb hr rfl (fun t ht hW => ⟨⟨_, (), rfl, rfl, by rw [ht]; exact hP, va_K.moved hW.alike hK, hD⟩, hS.F ht⟩) hS.2.2 dX5_readDoor_25
def wsX5_kindSaid : List Cond := .code yX5_kindSaid cX5_kindSaid 1 (some .int) :: W0
abbrev wX5_kindSaid (cy : Nat → ClassId) (aR : Nat) (qR : Nat → Nat) (aH : Nat) (vR_j11 : Int64) (vR : Nat → Int32) (vR_tape : Nat → Int32) : va_W := [(aR, oX5 vR qR vR_j11 aH), (qR 0, rB cy 900 vR_tape)]
set_option maxHeartbeats 4000000 in
set_option maxRecDepth 100000 in
theorem kX5_kindSaid (l : Launch) (D : va_G) (cy : Nat → ClassId) (ad : (Nat → Nat) × (Nat → Nat)) (sz : Nat) (aR : Nat) (qR : Nat → Nat) (aH : Nat) (vR_j11 : Int64) (vR : Nat → Int32) (vR_tape : Nat → Int32) (zr : Int32) (hok : fX5_kindSaid vR_j11 vR vR_tape = some zr) (A : Nat → Prop) (hAe : va_A (wX5_kindSaid cy aR qR aH vR_j11 vR vR_tape) sz = A) : Met l yX5_kindSaid wsX5_kindSaid ({ frames := 5, cells := 0, slots := 0, locals := 108 } : Room) (kPreS D cy ad [.ref aR] (wX5_kindSaid cy aR qR aH vR_j11 vR vR_tape) sz A) (kQi D cy zr A (wX5_kindSaid cy aR qR aH vR_j11 vR vR_tape)) 0 0 A := by
  refine Met.ofW (cc := cX5_kindSaid) (maxL := 1) (ret := (some .int)) (by decide) rfl ?_
  intro p e s m args below meth c s₁ B hml hv
  obtain ⟨rfl, ⟨hsz, hP, hK, hD0, hN⟩, hSt⟩ := hv
  have hx := B.exec
  have hb := B.bytes
  have hr := B.returns
  have ht0 : ∀ w ∈ W0, w.before _ s = true := fun w h => atoms_spec (ws := wsX5_kindSaid) B.pre w (List.mem_cons_of_mem _ h)
  have hown : s.vm.findClass RX5 = some m.cls := findClass_of_methodNamed B.named
  have hlocks := B.notSynchronized
  subst hsz
  have hD : va_D A (wX5_kindSaid cy aR qR aH vR_j11 vR vR_tape) := by rw [← hAe]; exact hD0.self
  have hA : ∀ q : Nat, s.heap.size ≤ q → A q := fun q h => by rw [← hAe]; exact Or.inr h
  have hS : va_S A s.heap s.heap [] := va_S.rf
  have hl := lv_entry ([.ref aR]) (n := 1) (Nat.le_of_ble_eq_true rfl)
  rw [lg_entry_eq]
  generalize (lg_sl ([.ref aR]) ++ List.replicate (1 - (lg_sl ([.ref aR])).length) Slot.unset).toArray = ls at hl ⊢
  have hl : lv_has ls 1 [(0, .ref aR)] := hl
  generalize hQe : MQ below (kQi D cy zr A (wX5_kindSaid cy aR qR aH vR_j11 vR vR_tape)) ([.ref aR] : List Value).toArray s 0 0 A = Q
  have J47 : ∀ (t0_47 : Int32), ∀ (H : Heap) (locs : List Loc) (ls : Array Slot), va_P D vwCl (wX5_kindSaid cy aR qR aH vR_j11 vR vR_tape) H → va_D A (wX5_kindSaid cy aR qR aH vR_j11 vR vR_tape) → va_S A s.heap H locs → lv_has ls 1 [] → fX5_kindSaid_J47 t0_47 = some zr → W p l e ({ frames := 5, cells := 0, slots := 0, locals := 108 } : Room) s m ([.ref aR] : List Value).toArray below meth c H locs 0 0 Q (F0 m 47 ls [.int t0_47]) := by
    intro t0_47 H locs ls hP hD hS hl hok
    unfold fX5_kindSaid_J47 at hok
    cases hok
    subst hQe; exact W.iret hx hb hr (fun t ht hW => ⟨⟨_, (), rfl, rfl, by rw [ht]; exact hP, va_K.moved hW.alike hK, hD⟩, hS.F ht⟩) hS.2.2 dX5_kindSaid_47
  unfold fX5_kindSaid at hok
  obtain ⟨H, hH⟩ : ∃ H, H = s.heap := ⟨_, rfl⟩
  obtain ⟨locs, hlc⟩ : ∃ x : List Loc, x = [] := ⟨_, rfl⟩
  have hP : va_P D vwCl (wX5_kindSaid cy aR qR aH vR_j11 vR vR_tape) H := by rw [hH]; exact hP
  have hS : va_S A s.heap H locs := by rw [hH, hlc]; exact hS
  rw [show W p l e _ s m _ below meth c s.heap [] = W p l e _ s m _ below meth c H locs from by rw [hH, hlc]]
  refine lv_aload_n hx hb dX5_kindSaid_0 rfl (lv_at hl 0 rfl) ?_
  refine va_ldcS hx hb hown (hSt.2.1 _ (List.mem_of_getElem? (i := 8) rfl)) dX5_kindSaid_1 ?_
  obtain ⟨r3, hc3, hok⟩ := k_bind hok
  refine kCi (wc := (wX5_says cy aR qR aH vR_j11 vR vR_tape)) (wc2 := (wX5_says cy aR qR aH vR_j11 vR vR_tape)) (wr := []) (ws2 := (wX5_kindSaid cy aR qR aH vR_j11 vR vR_tape)) (kRunVS (As := [.ref (ad.1 17)]) (rest := []) ⟨hx, hb, hml, hown, ht0⟩ (kX5_says l D cy ad _ aR qR aH vR_j11 vR vR_tape 17 r3 hc3 _ rfl) (cwV 1 ht0 (gV wd324 wd325 wd326 wd276 wd327) rfl rfl rfl (by decide +kernel) ⟨Nat.le_of_ble_eq_true rfl, Nat.le_of_ble_eq_true rfl⟩) hK hN hP hD hSt hS hA [0, 1] rfl (by decide) 0 4 rfl rfl rfl hl.1 rfl (Nat.le_of_ble_eq_true rfl) dX5_kindSaid_3 ⟨Nat.zero_le _, Nat.zero_le _⟩) hP hD hS hA [0, 1] [] rfl rfl (by decide) (by decide) [0, 1] (by decide) rfl rfl (fun H locs hP hD hS => ?_)
  refine lv_if_eq (tgt := 11) hx hb dX5_kindSaid_6 (by decide) (fun c6 => ?_) (fun c6 => ?_)
  · have hok := k_pos c6 hok
    refine lv_aload_n hx hb dX5_kindSaid_11 rfl (lv_at hl 0 rfl) ?_
    refine va_ldcS hx hb hown (hSt.2.1 _ (List.mem_of_getElem? (i := 11) rfl)) dX5_kindSaid_12 ?_
    obtain ⟨r14, hc14, hok⟩ := k_bind hok
    refine kCi (wc := (wX5_says cy aR qR aH vR_j11 vR vR_tape)) (wc2 := (wX5_says cy aR qR aH vR_j11 vR vR_tape)) (wr := []) (ws2 := (wX5_kindSaid cy aR qR aH vR_j11 vR vR_tape)) (kRunVS (As := [.ref (ad.1 15)]) (rest := []) ⟨hx, hb, hml, hown, ht0⟩ (kX5_says l D cy ad _ aR qR aH vR_j11 vR vR_tape 15 r14 hc14 _ rfl) (cwV 1 ht0 (gV wd324 wd325 wd326 wd276 wd327) rfl rfl rfl (by decide +kernel) ⟨Nat.le_of_ble_eq_true rfl, Nat.le_of_ble_eq_true rfl⟩) hK hN hP hD hSt hS hA [0, 1] rfl (by decide) 0 4 rfl rfl rfl hl.1 rfl (Nat.le_of_ble_eq_true rfl) dX5_kindSaid_14 ⟨Nat.zero_le _, Nat.zero_le _⟩) hP hD hS hA [0, 1] [] rfl rfl (by decide) (by decide) [0, 1] (by decide) rfl rfl (fun H locs hP hD hS => ?_)
    refine lv_if_eq (tgt := 22) hx hb dX5_kindSaid_17 (by decide) (fun c17 => ?_) (fun c17 => ?_)
    · have hok := k_pos c17 hok
      refine lv_aload_n hx hb dX5_kindSaid_22 rfl (lv_at hl 0 rfl) ?_
      refine va_ldcS hx hb hown (hSt.2.1 _ (List.mem_of_getElem? (i := 12) rfl)) dX5_kindSaid_23 ?_
      obtain ⟨r25, hc25, hok⟩ := k_bind hok
      refine kCi (wc := (wX5_says cy aR qR aH vR_j11 vR vR_tape)) (wc2 := (wX5_says cy aR qR aH vR_j11 vR vR_tape)) (wr := []) (ws2 := (wX5_kindSaid cy aR qR aH vR_j11 vR vR_tape)) (kRunVS (As := [.ref (ad.1 2)]) (rest := []) ⟨hx, hb, hml, hown, ht0⟩ (kX5_says l D cy ad _ aR qR aH vR_j11 vR vR_tape 2 r25 hc25 _ rfl) (cwV 1 ht0 (gV wd324 wd325 wd326 wd276 wd327) rfl rfl rfl (by decide +kernel) ⟨Nat.le_of_ble_eq_true rfl, Nat.le_of_ble_eq_true rfl⟩) hK hN hP hD hSt hS hA [0, 1] rfl (by decide) 0 4 rfl rfl rfl hl.1 rfl (Nat.le_of_ble_eq_true rfl) dX5_kindSaid_25 ⟨Nat.zero_le _, Nat.zero_le _⟩) hP hD hS hA [0, 1] [] rfl rfl (by decide) (by decide) [0, 1] (by decide) rfl rfl (fun H locs hP hD hS => ?_)
      refine lv_if_eq (tgt := 33) hx hb dX5_kindSaid_28 (by decide) (fun c28 => ?_) (fun c28 => ?_)
      · have hok := k_pos c28 hok
        refine lv_aload_n hx hb dX5_kindSaid_33 rfl (lv_at hl 0 rfl) ?_
        refine va_ldcS hx hb hown (hSt.2.1 _ (List.mem_of_getElem? (i := 13) rfl)) dX5_kindSaid_34 ?_
        obtain ⟨r36, hc36, hok⟩ := k_bind hok
        refine kCi (wc := (wX5_says cy aR qR aH vR_j11 vR vR_tape)) (wc2 := (wX5_says cy aR qR aH vR_j11 vR vR_tape)) (wr := []) (ws2 := (wX5_kindSaid cy aR qR aH vR_j11 vR vR_tape)) (kRunVS (As := [.ref (ad.1 14)]) (rest := []) ⟨hx, hb, hml, hown, ht0⟩ (kX5_says l D cy ad _ aR qR aH vR_j11 vR vR_tape 14 r36 hc36 _ rfl) (cwV 1 ht0 (gV wd324 wd325 wd326 wd276 wd327) rfl rfl rfl (by decide +kernel) ⟨Nat.le_of_ble_eq_true rfl, Nat.le_of_ble_eq_true rfl⟩) hK hN hP hD hSt hS hA [0, 1] rfl (by decide) 0 4 rfl rfl rfl hl.1 rfl (Nat.le_of_ble_eq_true rfl) dX5_kindSaid_36 ⟨Nat.zero_le _, Nat.zero_le _⟩) hP hD hS hA [0, 1] [] rfl rfl (by decide) (by decide) [0, 1] (by decide) rfl rfl (fun H locs hP hD hS => ?_)
        refine lv_if_eq (tgt := 46) hx hb dX5_kindSaid_39 (by decide) (fun c39 => ?_) (fun c39 => ?_)
        · have hok := k_pos c39 hok
          refine lv_iconst (v := -1) hx hb dX5_kindSaid_46 (by decide) ?_
          exact J47 (-1 : Int32) H locs ls hP hD hS (lv_sub hl [] rfl) hok
        · have hok := k_neg c39 hok
          refine lv_iconst (v := 3) hx hb dX5_kindSaid_42 (by decide) ?_
          refine lv_goto (tgt := 47) hx hb dX5_kindSaid_43 (by decide) ?_
          exact J47 (3 : Int32) H locs ls hP hD hS (lv_sub hl [] rfl) hok
      · have hok := k_neg c28 hok
        refine lv_iconst (v := 2) hx hb dX5_kindSaid_31 (by decide) ?_
        cases hok
        subst hQe; exact W.iret hx hb hr (fun t ht hW => ⟨⟨_, (), rfl, rfl, by rw [ht]; exact hP, va_K.moved hW.alike hK, hD⟩, hS.F ht⟩) hS.2.2 dX5_kindSaid_32
    · have hok := k_neg c17 hok
      refine lv_iconst (v := 1) hx hb dX5_kindSaid_20 (by decide) ?_
      cases hok
      subst hQe; exact W.iret hx hb hr (fun t ht hW => ⟨⟨_, (), rfl, rfl, by rw [ht]; exact hP, va_K.moved hW.alike hK, hD⟩, hS.F ht⟩) hS.2.2 dX5_kindSaid_21
  · have hok := k_neg c6 hok
    refine lv_iconst (v := 0) hx hb dX5_kindSaid_9 (by decide) ?_
    cases hok
    subst hQe; exact W.iret hx hb hr (fun t ht hW => ⟨⟨_, (), rfl, rfl, by rw [ht]; exact hP, va_K.moved hW.alike hK, hD⟩, hS.F ht⟩) hS.2.2 dX5_kindSaid_10
def wsX5_readThing : List Cond := .code yX5_readThing cX5_readThing 7 (some .boolean) :: W0
abbrev wX5_readThing (cy : Nat → ClassId) (aR : Nat) (qR : Nat → Nat) (aH : Nat) (qH : Nat → Nat) (vR_j11 : Int64) (vR : Nat → Int32) (vR_tape : Nat → Int32) (vH : Nat → Int32) (vR_ringNames : Nat → Int64) (vR_thingNames : Nat → Int64) (vH_places : Nat → Int32) (vH_firstCells : Nat → Int32) (vH_kinds : Nat → Int32) (vH_sizes : Nat → Int32) : va_W := [(aR, oX5 vR qR vR_j11 aH), (qR 0, rB cy 900 vR_tape), (aH, oX4 vH qH), (qR 3, rJ cy 4 vR_ringNames), (qR 4, rJ cy 7 vR_thingNames), (qH 9, rI cy 4 vH_places), (qH 16, rI cy 7 vH_firstCells), (qH 14, rI cy 7 vH_kinds), (qH 15, rI cy 7 vH_sizes)]
set_option maxHeartbeats 4000000 in
set_option maxRecDepth 100000 in
theorem kX5_readThing (l : Launch) (D : va_G) (cy : Nat → ClassId) (ad : (Nat → Nat) × (Nat → Nat)) (sz : Nat) (aR : Nat) (qR : Nat → Nat) (aH : Nat) (qH : Nat → Nat) (vR_j11 : Int64) (vR : Nat → Int32) (vR_tape : Nat → Int32) (vH : Nat → Int32) (vR_ringNames : Nat → Int64) (vR_thingNames : Nat → Int64) (vH_places : Nat → Int32) (vH_firstCells : Nat → Int32) (vH_kinds : Nat → Int32) (vH_sizes : Nat → Int32) (zr : Int32) (z_vR_j11 : Int64) (z_vR : Nat → Int32) (z_vH : Nat → Int32) (z_vR_thingNames : Nat → Int64) (z_vH_firstCells : Nat → Int32) (z_vH_kinds : Nat → Int32) (z_vH_sizes : Nat → Int32) (hok : fX5_readThing vR_j11 vR vR_tape vH vR_ringNames vR_thingNames vH_places vH_firstCells vH_kinds vH_sizes = some (zr, z_vR_j11, z_vR, z_vH, z_vR_thingNames, z_vH_firstCells, z_vH_kinds, z_vH_sizes)) (A : Nat → Prop) (hAe : va_A (wX5_readThing cy aR qR aH qH vR_j11 vR vR_tape vH vR_ringNames vR_thingNames vH_places vH_firstCells vH_kinds vH_sizes) sz = A) : Met l yX5_readThing wsX5_readThing ({ frames := 7, cells := 0, slots := 0, locals := 153 } : Room) (kPreS D cy ad [.ref aR] (wX5_readThing cy aR qR aH qH vR_j11 vR vR_tape vH vR_ringNames vR_thingNames vH_places vH_firstCells vH_kinds vH_sizes) sz A) (kQi D cy zr A (wX5_readThing cy aR qR aH qH z_vR_j11 z_vR vR_tape z_vH vR_ringNames z_vR_thingNames vH_places z_vH_firstCells z_vH_kinds z_vH_sizes)) 0 0 A := by
  refine Met.ofW (cc := cX5_readThing) (maxL := 7) (ret := (some .boolean)) (by decide) rfl ?_
  intro p e s m args below meth c s₁ B hml hv
  obtain ⟨rfl, ⟨hsz, hP, hK, hD0, hN⟩, hSt⟩ := hv
  have hx := B.exec
  have hb := B.bytes
  have hr := B.returns
  have ht0 : ∀ w ∈ W0, w.before _ s = true := fun w h => atoms_spec (ws := wsX5_readThing) B.pre w (List.mem_cons_of_mem _ h)
  have hown : s.vm.findClass RX5 = some m.cls := findClass_of_methodNamed B.named
  have hlocks := B.notSynchronized
  subst hsz
  have hD : va_D A (wX5_readThing cy aR qR aH qH vR_j11 vR vR_tape vH vR_ringNames vR_thingNames vH_places vH_firstCells vH_kinds vH_sizes) := by rw [← hAe]; exact hD0.self
  have hA : ∀ q : Nat, s.heap.size ≤ q → A q := fun q h => by rw [← hAe]; exact Or.inr h
  have hS : va_S A s.heap s.heap [] := va_S.rf
  have hl := lv_entry ([.ref aR]) (n := 7) (Nat.le_of_ble_eq_true rfl)
  rw [lg_entry_eq]
  generalize (lg_sl ([.ref aR]) ++ List.replicate (7 - (lg_sl ([.ref aR])).length) Slot.unset).toArray = ls at hl ⊢
  have hl : lv_has ls 7 [(0, .ref aR)] := hl
  generalize hQe : MQ below (kQi D cy zr A (wX5_readThing cy aR qR aH qH z_vR_j11 z_vR vR_tape z_vH vR_ringNames z_vR_thingNames vH_places z_vH_firstCells z_vH_kinds z_vH_sizes)) ([.ref aR] : List Value).toArray s 0 0 A = Q
  have J173 : ∀ (vR_11_173 : Int64) (vR_173 : Nat → Int32), ∀ (H : Heap) (locs : List Loc) (ls : Array Slot), va_P D vwCl (wX5_readThing cy aR qR aH qH vR_11_173 vR_173 vR_tape vH vR_ringNames vR_thingNames vH_places vH_firstCells vH_kinds vH_sizes) H → va_D A (wX5_readThing cy aR qR aH qH vR_11_173 vR_173 vR_tape vH vR_ringNames vR_thingNames vH_places vH_firstCells vH_kinds vH_sizes) → va_S A s.heap H locs → lv_has ls 7 [] → fX5_readThing_J173 vH vR_thingNames vH_firstCells vH_kinds vH_sizes vR_11_173 vR_173 = some (zr, z_vR_j11, z_vR, z_vH, z_vR_thingNames, z_vH_firstCells, z_vH_kinds, z_vH_sizes) → W p l e ({ frames := 7, cells := 0, slots := 0, locals := 153 } : Room) s m ([.ref aR] : List Value).toArray below meth c H locs 0 0 Q (F0 m 173 ls []) := by
    intro vR_11_173 vR_173 H locs ls hP hD hS hl hok
    unfold fX5_readThing_J173 at hok
    refine lv_iconst (v := 0) hx hb dX5_readThing_173 (by decide) ?_
    cases hok
    subst hQe; exact W.zret hx hb hr rfl (fun t ht hW => ⟨⟨_, (), rfl, rfl, by rw [ht]; exact hP, va_K.moved hW.alike hK, hD⟩, hS.F ht⟩) hS.2.2 dX5_readThing_174
  have J91 : ∀ (vR_11_91 : Int64) (vR_91 : Nat → Int32), ∀ (H : Heap) (locs : List Loc) (ls : Array Slot), va_P D vwCl (wX5_readThing cy aR qR aH qH vR_11_91 vR_91 vR_tape vH vR_ringNames vR_thingNames vH_places vH_firstCells vH_kinds vH_sizes) H → va_D A (wX5_readThing cy aR qR aH qH vR_11_91 vR_91 vR_tape vH vR_ringNames vR_thingNames vH_places vH_firstCells vH_kinds vH_sizes) → va_S A s.heap H locs → lv_has ls 7 [] → fX5_readThing_J91 vH vR_thingNames vH_firstCells vH_kinds vH_sizes vR_11_91 vR_91 = some (zr, z_vR_j11, z_vR, z_vH, z_vR_thingNames, z_vH_firstCells, z_vH_kinds, z_vH_sizes) → W p l e ({ frames := 7, cells := 0, slots := 0, locals := 153 } : Room) s m ([.ref aR] : List Value).toArray below meth c H locs 0 0 Q (F0 m 91 ls []) := by
    intro vR_11_91 vR_91 H locs ls hP hD hS hl hok
    unfold fX5_readThing_J91 at hok
    refine lv_iconst (v := 0) hx hb dX5_readThing_91 (by decide) ?_
    cases hok
    subst hQe; exact W.zret hx hb hr rfl (fun t ht hW => ⟨⟨_, (), rfl, rfl, by rw [ht]; exact hP, va_K.moved hW.alike hK, hD⟩, hS.F ht⟩) hS.2.2 dX5_readThing_92
  have J39 : ∀ (vR_11_39 : Int64) (vR_39 : Nat → Int32), ∀ (H : Heap) (locs : List Loc) (ls : Array Slot), va_P D vwCl (wX5_readThing cy aR qR aH qH vR_11_39 vR_39 vR_tape vH vR_ringNames vR_thingNames vH_places vH_firstCells vH_kinds vH_sizes) H → va_D A (wX5_readThing cy aR qR aH qH vR_11_39 vR_39 vR_tape vH vR_ringNames vR_thingNames vH_places vH_firstCells vH_kinds vH_sizes) → va_S A s.heap H locs → lv_has ls 7 [] → fX5_readThing_J39 vH vR_thingNames vH_firstCells vH_kinds vH_sizes vR_11_39 vR_39 = some (zr, z_vR_j11, z_vR, z_vH, z_vR_thingNames, z_vH_firstCells, z_vH_kinds, z_vH_sizes) → W p l e ({ frames := 7, cells := 0, slots := 0, locals := 153 } : Room) s m ([.ref aR] : List Value).toArray below meth c H locs 0 0 Q (F0 m 39 ls []) := by
    intro vR_11_39 vR_39 H locs ls hP hD hS hl hok
    unfold fX5_readThing_J39 at hok
    refine lv_iconst (v := 0) hx hb dX5_readThing_39 (by decide) ?_
    cases hok
    subst hQe; exact W.zret hx hb hr rfl (fun t ht hW => ⟨⟨_, (), rfl, rfl, by rw [ht]; exact hP, va_K.moved hW.alike hK, hD⟩, hS.F ht⟩) hS.2.2 dX5_readThing_40
  unfold fX5_readThing at hok
  obtain ⟨H, hH⟩ : ∃ H, H = s.heap := ⟨_, rfl⟩
  obtain ⟨locs, hlc⟩ : ∃ x : List Loc, x = [] := ⟨_, rfl⟩
  have hP : va_P D vwCl (wX5_readThing cy aR qR aH qH vR_j11 vR vR_tape vH vR_ringNames vR_thingNames vH_places vH_firstCells vH_kinds vH_sizes) H := by rw [hH]; exact hP
  have hS : va_S A s.heap H locs := by rw [hH, hlc]; exact hS
  rw [show W p l e _ s m _ below meth c s.heap [] = W p l e _ s m _ below meth c H locs from by rw [hH, hlc]]
  refine lv_aload_n hx hb dX5_readThing_0 rfl (lv_at hl 0 rfl) ?_
  obtain ⟨⟨vR_j11_1, vR_1⟩, hc1, hok⟩ := k_bind hok
  try dsimp only at hok
  refine kCv (wc := (wX5_step cy aR qR aH vR_j11 vR vR_tape)) (wc2 := (wX5_step cy aR qR aH vR_j11_1 vR_1 vR_tape)) (wr := [(aH, oX4 vH qH), (qR 3, rJ cy 4 vR_ringNames), (qR 4, rJ cy 7 vR_thingNames), (qH 9, rI cy 4 vH_places), (qH 16, rI cy 7 vH_firstCells), (qH 14, rI cy 7 vH_kinds), (qH 15, rI cy 7 vH_sizes)]) (ws2 := (wX5_readThing cy aR qR aH qH vR_j11_1 vR_1 vR_tape vH vR_ringNames vR_thingNames vH_places vH_firstCells vH_kinds vH_sizes)) (kRunV (As := []) (rest := []) ⟨hx, hb, hml, hown, ht0⟩ (kX5_step l D cy _ aR qR aH vR_j11 vR vR_tape vR_j11_1 vR_1 hc1 _ rfl) (cwV 0 ht0 (gV wd328 wd329 wd330 wd276 wd331) rfl rfl rfl (by decide +kernel) ⟨Nat.le_of_ble_eq_true rfl, Nat.le_of_ble_eq_true rfl⟩) hK hN hP hD [0, 1] rfl (by decide) 0 4 rfl rfl rfl hl.1 rfl (Nat.le_of_ble_eq_true rfl) dX5_readThing_1 ⟨Nat.zero_le _, Nat.zero_le _⟩) hP hD hS hA [0, 1] [2, 3, 4, 5, 6, 7, 8] rfl rfl (by decide) (by decide) [7, 8, 0, 1, 2, 3, 4, 5, 6] (by decide) rfl rfl (fun H locs hP hD hS => ?_)
  refine lv_aload_n hx hb dX5_readThing_4 rfl (lv_at hl 0 rfl) ?_
  obtain ⟨⟨r5, vR_j11_5, vR_5⟩, hc5, hok⟩ := k_bind hok
  try dsimp only at hok
  refine kCl (wc := (wX5_takeNewName cy aR qR aH qH vR_j11_1 vR_1 vR_tape vH vR_ringNames vR_thingNames)) (wc2 := (wX5_takeNewName cy aR qR aH qH vR_j11_5 vR_5 vR_tape vH vR_ringNames vR_thingNames)) (wr := [(qH 9, rI cy 4 vH_places), (qH 16, rI cy 7 vH_firstCells), (qH 14, rI cy 7 vH_kinds), (qH 15, rI cy 7 vH_sizes)]) (ws2 := (wX5_readThing cy aR qR aH qH vR_j11_5 vR_5 vR_tape vH vR_ringNames vR_thingNames vH_places vH_firstCells vH_kinds vH_sizes)) (kRunVS (As := []) (rest := []) ⟨hx, hb, hml, hown, ht0⟩ (kX5_takeNewName l D cy ad _ aR qR aH qH vR_j11_1 vR_1 vR_tape vH vR_ringNames vR_thingNames r5 vR_j11_5 vR_5 hc5 _ rfl) (cwV 0 ht0 (gV wd371 wd372 wd373 wd276 wd374) rfl rfl rfl (by decide +kernel) ⟨Nat.le_of_ble_eq_true rfl, Nat.le_of_ble_eq_true rfl⟩) hK hN hP hD hSt hS hA [0, 1, 2, 3, 4] rfl (by decide) 0 4 rfl rfl rfl hl.1 rfl (Nat.le_of_ble_eq_true rfl) dX5_readThing_5 ⟨Nat.zero_le _, Nat.zero_le _⟩) hP hD hS hA [0, 1, 2, 3, 4] [5, 6, 7, 8] rfl rfl (by decide) (by decide) [4, 5, 6, 7, 8, 0, 1, 2, 3] (by decide) rfl rfl (fun H locs hP hD hS => ?_)
  refine lv_lstore_n (lv' := [(1, .long r5), (0, .ref aR)]) hx hb dX5_readThing_8 rfl hl (by decide) rfl (fun ls hl => ?_)
  refine lv_lload_n hx hb dX5_readThing_9 rfl (lv_at hl 0 rfl) ?_
  refine lv_lconst (v := 0) hx hb dX5_readThing_10 (by decide) ?_
  refine W.lcmp hx hb dX5_readThing_11 ?_
  refine lv_if_ge (tgt := 17) hx hb dX5_readThing_12 (by decide) (fun c12 => ?_) (fun c12 => ?_)
  · have hok := k_pos c12 hok
    refine lv_aload_n hx hb dX5_readThing_17 rfl (lv_at hl 1 rfl) ?_
    refine lv_aload_n hx hb dX5_readThing_18 rfl (lv_at hl 1 rfl) ?_
    obtain ⟨r19, hc19, hok⟩ := k_bind hok
    refine kCi (wc := (wX5_kindSaid cy aR qR aH vR_j11_5 vR_5 vR_tape)) (wc2 := (wX5_kindSaid cy aR qR aH vR_j11_5 vR_5 vR_tape)) (wr := [(aH, oX4 vH qH), (qR 3, rJ cy 4 vR_ringNames), (qR 4, rJ cy 7 vR_thingNames), (qH 9, rI cy 4 vH_places), (qH 16, rI cy 7 vH_firstCells), (qH 14, rI cy 7 vH_kinds), (qH 15, rI cy 7 vH_sizes)]) (ws2 := (wX5_readThing cy aR qR aH qH vR_j11_5 vR_5 vR_tape vH vR_ringNames vR_thingNames vH_places vH_firstCells vH_kinds vH_sizes)) (kRunVS (As := []) (rest := [.ref aR]) ⟨hx, hb, hml, hown, ht0⟩ (kX5_kindSaid l D cy ad _ aR qR aH vR_j11_5 vR_5 vR_tape r19 hc19 _ rfl) (cwV 0 ht0 (gV wd405 wd406 wd407 wd276 wd408) rfl rfl rfl (by decide +kernel) ⟨Nat.le_of_ble_eq_true rfl, Nat.le_of_ble_eq_true rfl⟩) hK hN hP hD hSt hS hA [0, 1] rfl (by decide) 0 4 rfl rfl rfl hl.1 rfl (Nat.le_of_ble_eq_true rfl) dX5_readThing_19 ⟨Nat.zero_le _, Nat.zero_le _⟩) hP hD hS hA [0, 1] [2, 3, 4, 5, 6, 7, 8] rfl rfl (by decide) (by decide) [7, 8, 0, 1, 2, 3, 4, 5, 6] (by decide) rfl rfl (fun H locs hP hD hS => ?_)
    obtain ⟨⟨r22, vR_j11_22, vR_22⟩, hc22, hok⟩ := k_bind hok
    try dsimp only at hok
    refine kCi (wc := (wX5_takeChoice cy aR qR aH vR_j11_5 vR_5 vR_tape)) (wc2 := (wX5_takeChoice cy aR qR aH vR_j11_22 vR_22 vR_tape)) (wr := [(aH, oX4 vH qH), (qR 3, rJ cy 4 vR_ringNames), (qR 4, rJ cy 7 vR_thingNames), (qH 9, rI cy 4 vH_places), (qH 16, rI cy 7 vH_firstCells), (qH 14, rI cy 7 vH_kinds), (qH 15, rI cy 7 vH_sizes)]) (ws2 := (wX5_readThing cy aR qR aH qH vR_j11_22 vR_22 vR_tape vH vR_ringNames vR_thingNames vH_places vH_firstCells vH_kinds vH_sizes)) (kRunV (As := [.int r19]) (rest := []) ⟨hx, hb, hml, hown, ht0⟩ (kX5_takeChoice l D cy _ aR qR aH vR_j11_5 vR_5 vR_tape r19 r22 vR_j11_22 vR_22 hc22 _ rfl) (cwV 1 ht0 (gV wd379 wd380 wd381 wd276 wd382) rfl rfl rfl (by decide +kernel) ⟨Nat.le_of_ble_eq_true rfl, Nat.le_of_ble_eq_true rfl⟩) hK hN hP hD [0, 1] rfl (by decide) 0 4 rfl rfl rfl hl.1 rfl (Nat.le_of_ble_eq_true rfl) dX5_readThing_22 ⟨Nat.zero_le _, Nat.zero_le _⟩) hP hD hS hA [0, 1] [2, 3, 4, 5, 6, 7, 8] rfl rfl (by decide) (by decide) [7, 8, 0, 1, 2, 3, 4, 5, 6] (by decide) rfl rfl (fun H locs hP hD hS => ?_)
    refine lv_istore_n (lv' := [(3, .int r22), (1, .long r5), (0, .ref aR)]) hx hb dX5_readThing_25 rfl hl (by decide) rfl (fun ls hl => ?_)
    refine lv_iload_n hx hb dX5_readThing_26 rfl (lv_at hl 0 rfl) ?_
    refine lv_if_lt (tgt := 39) hx hb dX5_readThing_27 (by decide) (fun c27 => ?_) (fun c27 => ?_)
    · have hok := k_pos c27 hok
      exact J39 vR_j11_22 vR_22 H locs ls hP hD hS (lv_sub hl [] rfl) hok
    · have hok := k_neg c27 hok
      refine lv_aload_n hx hb dX5_readThing_30 rfl (lv_at hl 2 rfl) ?_
      refine va_ldcS hx hb hown (hSt.2.1 _ (List.mem_of_getElem? (i := 17) rfl)) dX5_readThing_31 ?_
      obtain ⟨⟨r33, vR_j11_33, vR_33⟩, hc33, hok⟩ := k_bind hok
      try dsimp only at hok
      refine kCi (wc := (wX5_passes cy aR qR aH vR_j11_22 vR_22 vR_tape)) (wc2 := (wX5_passes cy aR qR aH vR_j11_33 vR_33 vR_tape)) (wr := [(aH, oX4 vH qH), (qR 3, rJ cy 4 vR_ringNames), (qR 4, rJ cy 7 vR_thingNames), (qH 9, rI cy 4 vH_places), (qH 16, rI cy 7 vH_firstCells), (qH 14, rI cy 7 vH_kinds), (qH 15, rI cy 7 vH_sizes)]) (ws2 := (wX5_readThing cy aR qR aH qH vR_j11_33 vR_33 vR_tape vH vR_ringNames vR_thingNames vH_places vH_firstCells vH_kinds vH_sizes)) (kRunVS (As := [.ref (ad.1 9)]) (rest := []) ⟨hx, hb, hml, hown, ht0⟩ (kX5_passes l D cy ad _ aR qR aH vR_j11_22 vR_22 vR_tape 9 r33 vR_j11_33 vR_33 hc33 _ rfl) (cwV 1 ht0 (gV wd341 wd342 wd343 wd276 wd344) rfl rfl rfl (by decide +kernel) ⟨Nat.le_of_ble_eq_true rfl, Nat.le_of_ble_eq_true rfl⟩) hK hN hP hD hSt hS hA [0, 1] rfl (by decide) 0 4 rfl rfl rfl hl.1 rfl (Nat.le_of_ble_eq_true rfl) dX5_readThing_33 ⟨Nat.zero_le _, Nat.zero_le _⟩) hP hD hS hA [0, 1] [2, 3, 4, 5, 6, 7, 8] rfl rfl (by decide) (by decide) [7, 8, 0, 1, 2, 3, 4, 5, 6] (by decide) rfl rfl (fun H locs hP hD hS => ?_)
      refine lv_if_ne (tgt := 41) hx hb dX5_readThing_36 (by decide) (fun c36 => ?_) (fun c36 => ?_)
      · have hok := k_neg c36 hok
        refine lv_aload_n hx hb dX5_readThing_41 rfl (lv_at hl 2 rfl) ?_
        refine lv_aload_n hx hb dX5_readThing_42 rfl (lv_at hl 2 rfl) ?_
        refine va_get (D := D) (ci := 4) (v := .ref (qR 3)) (C := RX5) (T := TX5) (N := 13) hx hb ht0 niX5 hown hK hP 0 rfl rfl 3 (by decide) (ht0 _ wd370) (fun _ h9 => h9) rfl dX5_readThing_43 ?_
        refine lv_aload_n hx hb dX5_readThing_46 rfl (lv_at hl 2 rfl) ?_
        refine va_get (D := D) (ci := 4) (v := .ref aH) (C := RX5) (T := TX5) (N := 13) hx hb ht0 niX5 hown hK hP 0 rfl rfl 2 (by decide) (ht0 _ wd266) (fun _ h9 => h9) rfl dX5_readThing_47 ?_
        refine va_get (D := D) (ci := 3) (v := .int (vH 2)) (C := RX4) (T := TX4) (N := 20) hx hb ht0 niX4 hown hK hP 2 rfl rfl 2 (by decide) (ht0 _ wd360) (fun _ h9 => h9) rfl dX5_readThing_50 ?_
        obtain ⟨⟨r53, vR_j11_53, vR_53⟩, hc53, hok⟩ := k_bind hok
        try dsimp only at hok
        refine kCi (wc := (wX5_takeToldName cy aR (qR 3) qR aH vR_j11_33 vR_33 vR_tape 4 vR_ringNames)) (wc2 := (wX5_takeToldName cy aR (qR 3) qR aH vR_j11_53 vR_53 vR_tape 4 vR_ringNames)) (wr := [(aH, oX4 vH qH), (qR 4, rJ cy 7 vR_thingNames), (qH 9, rI cy 4 vH_places), (qH 16, rI cy 7 vH_firstCells), (qH 14, rI cy 7 vH_kinds), (qH 15, rI cy 7 vH_sizes)]) (ws2 := (wX5_readThing cy aR qR aH qH vR_j11_53 vR_53 vR_tape vH vR_ringNames vR_thingNames vH_places vH_firstCells vH_kinds vH_sizes)) (kRunVS (As := [.ref (qR 3), .int (vH 2)]) (rest := []) ⟨hx, hb, hml, hown, ht0⟩ (kX5_takeToldName l D cy ad _ aR (qR 3) qR aH vR_j11_33 vR_33 vR_tape 4 vR_ringNames (vH 2) r53 vR_j11_53 vR_53 hc53 _ rfl) (cwV 2 ht0 (gV wd387 wd388 wd389 wd276 wd390) rfl rfl rfl (by decide +kernel) ⟨Nat.le_of_ble_eq_true rfl, Nat.le_of_ble_eq_true rfl⟩) hK hN hP hD hSt hS hA [0, 1, 3] rfl (by decide) 0 4 rfl rfl rfl hl.1 rfl (Nat.le_of_ble_eq_true rfl) dX5_readThing_53 ⟨Nat.zero_le _, Nat.zero_le _⟩) hP hD hS hA [0, 1, 3] [2, 4, 5, 6, 7, 8] rfl rfl (by decide) (by decide) [6, 7, 0, 8, 1, 2, 3, 4, 5] (by decide) rfl rfl (fun H locs hP hD hS => ?_)
        refine lv_istore (lv' := [(4, .int r53), (3, .int r22), (1, .long r5), (0, .ref aR)]) hx hb dX5_readThing_56 hl (by decide) rfl (fun ls hl => ?_)
        refine lv_iload hx hb dX5_readThing_58 (lv_at hl 0 rfl) ?_
        refine lv_if_lt (tgt := 91) hx hb dX5_readThing_60 (by decide) (fun c60 => ?_) (fun c60 => ?_)
        · have hok := k_pos c60 hok
          exact J91 vR_j11_53 vR_53 H locs ls hP hD hS (lv_sub hl [] rfl) hok
        · have hok := k_neg c60 hok
          refine lv_aload_n hx hb dX5_readThing_63 rfl (lv_at hl 3 rfl) ?_
          refine va_ldcS hx hb hown (hSt.2.1 _ (List.mem_of_getElem? (i := 18) rfl)) dX5_readThing_64 ?_
          obtain ⟨⟨r66, vR_j11_66, vR_66⟩, hc66, hok⟩ := k_bind hok
          try dsimp only at hok
          refine kCi (wc := (wX5_passes cy aR qR aH vR_j11_53 vR_53 vR_tape)) (wc2 := (wX5_passes cy aR qR aH vR_j11_66 vR_66 vR_tape)) (wr := [(aH, oX4 vH qH), (qR 3, rJ cy 4 vR_ringNames), (qR 4, rJ cy 7 vR_thingNames), (qH 9, rI cy 4 vH_places), (qH 16, rI cy 7 vH_firstCells), (qH 14, rI cy 7 vH_kinds), (qH 15, rI cy 7 vH_sizes)]) (ws2 := (wX5_readThing cy aR qR aH qH vR_j11_66 vR_66 vR_tape vH vR_ringNames vR_thingNames vH_places vH_firstCells vH_kinds vH_sizes)) (kRunVS (As := [.ref (ad.1 0)]) (rest := []) ⟨hx, hb, hml, hown, ht0⟩ (kX5_passes l D cy ad _ aR qR aH vR_j11_53 vR_53 vR_tape 0 r66 vR_j11_66 vR_66 hc66 _ rfl) (cwV 1 ht0 (gV wd341 wd342 wd343 wd276 wd344) rfl rfl rfl (by decide +kernel) ⟨Nat.le_of_ble_eq_true rfl, Nat.le_of_ble_eq_true rfl⟩) hK hN hP hD hSt hS hA [0, 1] rfl (by decide) 0 4 rfl rfl rfl hl.1 rfl (Nat.le_of_ble_eq_true rfl) dX5_readThing_66 ⟨Nat.zero_le _, Nat.zero_le _⟩) hP hD hS hA [0, 1] [2, 3, 4, 5, 6, 7, 8] rfl rfl (by decide) (by decide) [7, 8, 0, 1, 2, 3, 4, 5, 6] (by decide) rfl rfl (fun H locs hP hD hS => ?_)
          refine lv_if_eq (tgt := 91) hx hb dX5_readThing_69 (by decide) (fun c69 => ?_) (fun c69 => ?_)
          · have hok := k_pos c69 hok
            exact J91 vR_j11_66 vR_66 H locs ls hP hD hS (lv_sub hl [] rfl) hok
          · have hok := k_neg c69 hok
            refine lv_aload_n hx hb dX5_readThing_72 rfl (lv_at hl 3 rfl) ?_
            refine lv_iconst (v := 0) hx hb dX5_readThing_73 (by decide) ?_
            refine lv_aload_n hx hb dX5_readThing_74 rfl (lv_at hl 3 rfl) ?_
            refine va_get (D := D) (ci := 4) (v := .ref aH) (C := RX5) (T := TX5) (N := 13) hx hb ht0 niX5 hown hK hP 0 rfl rfl 2 (by decide) (ht0 _ wd266) (fun _ h9 => h9) rfl dX5_readThing_75 ?_
            refine lv_iload hx hb dX5_readThing_78 (lv_at hl 0 rfl) ?_
            obtain ⟨r80, hc80, hok⟩ := k_bind hok
            refine kCi (wc := (wX4_placesOf cy aH qH vH vH_places)) (wc2 := (wX4_placesOf cy aH qH vH vH_places)) (wr := [(aR, oX5 vR_66 qR vR_j11_66 aH), (qR 0, rB cy 900 vR_tape), (qR 3, rJ cy 4 vR_ringNames), (qR 4, rJ cy 7 vR_thingNames), (qH 16, rI cy 7 vH_firstCells), (qH 14, rI cy 7 vH_kinds), (qH 15, rI cy 7 vH_sizes)]) (ws2 := (wX5_readThing cy aR qR aH qH vR_j11_66 vR_66 vR_tape vH vR_ringNames vR_thingNames vH_places vH_firstCells vH_kinds vH_sizes)) (kRunV (As := [.int r53]) (rest := [.int 0, .ref aR]) ⟨hx, hb, hml, hown, ht0⟩ (kX4_placesOf l D cy _ aH qH vH vH_places r53 r80 hc80 _ rfl) (cwV 1 ht0 (gV wd391 wd257 wd258 wd9 wd259) rfl rfl rfl (by decide +kernel) ⟨Nat.le_of_ble_eq_true rfl, Nat.le_of_ble_eq_true rfl⟩) hK hN hP hD [2, 5] rfl (by decide) 2 3 rfl rfl rfl hl.1 rfl (Nat.le_of_ble_eq_true rfl) dX5_readThing_80 ⟨Nat.zero_le _, Nat.zero_le _⟩) hP hD hS hA [2, 5] [0, 1, 3, 4, 6, 7, 8] rfl rfl (by decide) (by decide) [0, 1, 7, 2, 3, 8, 4, 5, 6] (by decide) rfl rfl (fun H locs hP hD hS => ?_)
            refine lv_iconst (v := 1) hx hb dX5_readThing_83 (by decide) ?_
            refine lv_isub hx hb dX5_readThing_84 ?_
            obtain ⟨⟨r85, vR_85⟩, hc85, hok⟩ := k_bind hok
            try dsimp only at hok
            refine kCi (wc := (wX5_isWhole cy aR qR aH vR_j11_66 vR_66)) (wc2 := (wX5_isWhole cy aR qR aH vR_j11_66 vR_85)) (wr := [(qR 0, rB cy 900 vR_tape), (aH, oX4 vH qH), (qR 3, rJ cy 4 vR_ringNames), (qR 4, rJ cy 7 vR_thingNames), (qH 9, rI cy 4 vH_places), (qH 16, rI cy 7 vH_firstCells), (qH 14, rI cy 7 vH_kinds), (qH 15, rI cy 7 vH_sizes)]) (ws2 := (wX5_readThing cy aR qR aH qH vR_j11_66 vR_85 vR_tape vH vR_ringNames vR_thingNames vH_places vH_firstCells vH_kinds vH_sizes)) (kRunV (As := [.int 0, .int (r80 - (1 : Int32))]) (rest := []) ⟨hx, hb, hml, hown, ht0⟩ (kX5_isWhole l D cy _ aR qR aH vR_j11_66 vR_66 (0 : Int32) (r80 - (1 : Int32)) r85 vR_85 hc85 _ rfl) (cwV 2 ht0 (gV wd336 wd337 wd338 wd276 wd339) rfl rfl rfl (by decide +kernel) ⟨Nat.le_of_ble_eq_true rfl, Nat.le_of_ble_eq_true rfl⟩) hK hN hP hD [0] rfl (by decide) 0 4 rfl rfl rfl hl.1 rfl (Nat.le_of_ble_eq_true rfl) dX5_readThing_85 ⟨Nat.zero_le _, Nat.zero_le _⟩) hP hD hS hA [0] [1, 2, 3, 4, 5, 6, 7, 8] rfl rfl (by decide) (by decide) [8, 0, 1, 2, 3, 4, 5, 6, 7] (by decide) rfl rfl (fun H locs hP hD hS => ?_)
            refine lv_if_ne (tgt := 93) hx hb dX5_readThing_88 (by decide) (fun c88 => ?_) (fun c88 => ?_)
            · have hok := k_neg c88 hok
              refine lv_iload hx hb dX5_readThing_93 (lv_at hl 0 rfl) ?_
              refine lv_aload_n hx hb dX5_readThing_95 rfl (lv_at hl 3 rfl) ?_
              refine va_get (D := D) (ci := 4) (v := .int (vR_85 10)) (C := RX5) (T := TX5) (N := 13) hx hb ht0 niX5 hown hK hP 0 rfl rfl 10 (by decide) (ht0 _ wd272) (fun _ h9 => h9) rfl dX5_readThing_96 ?_
              obtain ⟨r99, hc99, hok⟩ := k_bind hok
              refine kCi (wc := (wX8_cellAt cy )) (wc2 := (wX8_cellAt cy )) (wr := [(aR, oX5 vR_85 qR vR_j11_66 aH), (qR 0, rB cy 900 vR_tape), (aH, oX4 vH qH), (qR 3, rJ cy 4 vR_ringNames), (qR 4, rJ cy 7 vR_thingNames), (qH 9, rI cy 4 vH_places), (qH 16, rI cy 7 vH_firstCells), (qH 14, rI cy 7 vH_kinds), (qH 15, rI cy 7 vH_sizes)]) (ws2 := (wX5_readThing cy aR qR aH qH vR_j11_66 vR_85 vR_tape vH vR_ringNames vR_thingNames vH_places vH_firstCells vH_kinds vH_sizes)) (kRunSN (As := [.int r53, .int (vR_85 10)]) (rest := []) ⟨hx, hb, hml, hown, ht0⟩ (kX8_cellAt l D cy _ r53 (vR_85 10) r99 hc99 _ rfl) ⟨va_cnB 2 ht0 (gN wd260) rfl rfl rfl (hN _ (List.mem_of_getElem? (i := 5) rfl)) (ht0 _ wd57) (by decide +kernel) ⟨Nat.le_of_ble_eq_true rfl, Nat.le_of_ble_eq_true rfl⟩, ht0 _ wd261, trivial⟩ hK hN hP hD [] rfl (by decide) rfl hl.1 rfl (Nat.le_of_ble_eq_true rfl) dX5_readThing_99 ⟨Nat.zero_le _, Nat.zero_le _⟩) hP hD hS hA [] [0, 1, 2, 3, 4, 5, 6, 7, 8] rfl rfl (by decide) (by decide) [0, 1, 2, 3, 4, 5, 6, 7, 8] (by decide) rfl rfl (fun H locs hP hD hS => ?_)
              refine lv_istore (lv' := [(5, .int r99), (4, .int r53), (3, .int r22), (1, .long r5), (0, .ref aR)]) hx hb dX5_readThing_102 hl (by decide) rfl (fun ls hl => ?_)
              refine lv_aload_n hx hb dX5_readThing_104 rfl (lv_at hl 4 rfl) ?_
              refine va_get (D := D) (ci := 4) (v := .ref aH) (C := RX5) (T := TX5) (N := 13) hx hb ht0 niX5 hown hK hP 0 rfl rfl 2 (by decide) (ht0 _ wd266) (fun _ h9 => h9) rfl dX5_readThing_105 ?_
              refine lv_iload hx hb dX5_readThing_108 (lv_at hl 0 rfl) ?_
              obtain ⟨r110, hc110, hok⟩ := k_bind hok
              refine kCi (wc := (wX4_isTaken cy aH qH vH vH_firstCells)) (wc2 := (wX4_isTaken cy aH qH vH vH_firstCells)) (wr := [(aR, oX5 vR_85 qR vR_j11_66 aH), (qR 0, rB cy 900 vR_tape), (qR 3, rJ cy 4 vR_ringNames), (qR 4, rJ cy 7 vR_thingNames), (qH 9, rI cy 4 vH_places), (qH 14, rI cy 7 vH_kinds), (qH 15, rI cy 7 vH_sizes)]) (ws2 := (wX5_readThing cy aR qR aH qH vR_j11_66 vR_85 vR_tape vH vR_ringNames vR_thingNames vH_places vH_firstCells vH_kinds vH_sizes)) (kRunV (As := [.int r99]) (rest := []) ⟨hx, hb, hml, hown, ht0⟩ (kX4_isTaken l D cy _ aH qH vH vH_firstCells r99 r110 hc110 _ rfl) (cwV 1 ht0 (gV wd409 wd410 wd411 wd9 wd412) rfl rfl rfl (by decide +kernel) ⟨Nat.le_of_ble_eq_true rfl, Nat.le_of_ble_eq_true rfl⟩) hK hN hP hD [2, 6] rfl (by decide) 2 3 rfl rfl rfl hl.1 rfl (Nat.le_of_ble_eq_true rfl) dX5_readThing_110 ⟨Nat.zero_le _, Nat.zero_le _⟩) hP hD hS hA [2, 6] [0, 1, 3, 4, 5, 7, 8] rfl rfl (by decide) (by decide) [0, 1, 7, 2, 3, 4, 8, 5, 6] (by decide) rfl rfl (fun H locs hP hD hS => ?_)
              refine lv_if_eq (tgt := 122) hx hb dX5_readThing_113 (by decide) (fun c113 => ?_) (fun c113 => ?_)
              · have hok := k_pos c113 hok
                refine lv_aload_n hx hb dX5_readThing_122 rfl (lv_at hl 4 rfl) ?_
                obtain ⟨⟨vR_j11_123, vR_123⟩, hc123, hok⟩ := k_bind hok
                try dsimp only at hok
                refine kCv (wc := (wX5_step cy aR qR aH vR_j11_66 vR_85 vR_tape)) (wc2 := (wX5_step cy aR qR aH vR_j11_123 vR_123 vR_tape)) (wr := [(aH, oX4 vH qH), (qR 3, rJ cy 4 vR_ringNames), (qR 4, rJ cy 7 vR_thingNames), (qH 9, rI cy 4 vH_places), (qH 16, rI cy 7 vH_firstCells), (qH 14, rI cy 7 vH_kinds), (qH 15, rI cy 7 vH_sizes)]) (ws2 := (wX5_readThing cy aR qR aH qH vR_j11_123 vR_123 vR_tape vH vR_ringNames vR_thingNames vH_places vH_firstCells vH_kinds vH_sizes)) (kRunV (As := []) (rest := []) ⟨hx, hb, hml, hown, ht0⟩ (kX5_step l D cy _ aR qR aH vR_j11_66 vR_85 vR_tape vR_j11_123 vR_123 hc123 _ rfl) (cwV 0 ht0 (gV wd328 wd329 wd330 wd276 wd331) rfl rfl rfl (by decide +kernel) ⟨Nat.le_of_ble_eq_true rfl, Nat.le_of_ble_eq_true rfl⟩) hK hN hP hD [0, 1] rfl (by decide) 0 4 rfl rfl rfl hl.1 rfl (Nat.le_of_ble_eq_true rfl) dX5_readThing_123 ⟨Nat.zero_le _, Nat.zero_le _⟩) hP hD hS hA [0, 1] [2, 3, 4, 5, 6, 7, 8] rfl rfl (by decide) (by decide) [7, 8, 0, 1, 2, 3, 4, 5, 6] (by decide) rfl rfl (fun H locs hP hD hS => ?_)
                refine lv_aload_n hx hb dX5_readThing_126 rfl (lv_at hl 4 rfl) ?_
                refine va_ldcS hx hb hown (hSt.2.1 _ (List.mem_of_getElem? (i := 19) rfl)) dX5_readThing_127 ?_
                obtain ⟨⟨r129, vR_j11_129, vR_129⟩, hc129, hok⟩ := k_bind hok
                try dsimp only at hok
                refine kCi (wc := (wX5_passes cy aR qR aH vR_j11_123 vR_123 vR_tape)) (wc2 := (wX5_passes cy aR qR aH vR_j11_129 vR_129 vR_tape)) (wr := [(aH, oX4 vH qH), (qR 3, rJ cy 4 vR_ringNames), (qR 4, rJ cy 7 vR_thingNames), (qH 9, rI cy 4 vH_places), (qH 16, rI cy 7 vH_firstCells), (qH 14, rI cy 7 vH_kinds), (qH 15, rI cy 7 vH_sizes)]) (ws2 := (wX5_readThing cy aR qR aH qH vR_j11_129 vR_129 vR_tape vH vR_ringNames vR_thingNames vH_places vH_firstCells vH_kinds vH_sizes)) (kRunVS (As := [.ref (ad.1 19)]) (rest := []) ⟨hx, hb, hml, hown, ht0⟩ (kX5_passes l D cy ad _ aR qR aH vR_j11_123 vR_123 vR_tape 19 r129 vR_j11_129 vR_129 hc129 _ rfl) (cwV 1 ht0 (gV wd341 wd342 wd343 wd276 wd344) rfl rfl rfl (by decide +kernel) ⟨Nat.le_of_ble_eq_true rfl, Nat.le_of_ble_eq_true rfl⟩) hK hN hP hD hSt hS hA [0, 1] rfl (by decide) 0 4 rfl rfl rfl hl.1 rfl (Nat.le_of_ble_eq_true rfl) dX5_readThing_129 ⟨Nat.zero_le _, Nat.zero_le _⟩) hP hD hS hA [0, 1] [2, 3, 4, 5, 6, 7, 8] rfl rfl (by decide) (by decide) [7, 8, 0, 1, 2, 3, 4, 5, 6] (by decide) rfl rfl (fun H locs hP hD hS => ?_)
                refine lv_if_ne (tgt := 137) hx hb dX5_readThing_132 (by decide) (fun c132 => ?_) (fun c132 => ?_)
                · have hok := k_neg c132 hok
                  refine lv_aload_n hx hb dX5_readThing_137 rfl (lv_at hl 4 rfl) ?_
                  refine lv_iconst (v := 1) hx hb dX5_readThing_138 (by decide) ?_
                  refine lv_bipush (v := 9) hx hb dX5_readThing_139 (by decide) ?_
                  obtain ⟨⟨r141, vR_j11_141, vR_141⟩, hc141, hok⟩ := k_bind hok
                  try dsimp only at hok
                  refine kCi (wc := (wX5_takeWhole cy aR qR aH vR_j11_129 vR_129 vR_tape)) (wc2 := (wX5_takeWhole cy aR qR aH vR_j11_141 vR_141 vR_tape)) (wr := [(aH, oX4 vH qH), (qR 3, rJ cy 4 vR_ringNames), (qR 4, rJ cy 7 vR_thingNames), (qH 9, rI cy 4 vH_places), (qH 16, rI cy 7 vH_firstCells), (qH 14, rI cy 7 vH_kinds), (qH 15, rI cy 7 vH_sizes)]) (ws2 := (wX5_readThing cy aR qR aH qH vR_j11_141 vR_141 vR_tape vH vR_ringNames vR_thingNames vH_places vH_firstCells vH_kinds vH_sizes)) (kRunV (As := [.int 1, .int 9]) (rest := []) ⟨hx, hb, hml, hown, ht0⟩ (kX5_takeWhole l D cy _ aR qR aH vR_j11_129 vR_129 vR_tape (1 : Int32) (9 : Int32) r141 vR_j11_141 vR_141 hc141 _ rfl) (cwV 2 ht0 (gV wd345 wd346 wd347 wd276 wd348) rfl rfl rfl (by decide +kernel) ⟨Nat.le_of_ble_eq_true rfl, Nat.le_of_ble_eq_true rfl⟩) hK hN hP hD [0, 1] rfl (by decide) 0 4 rfl rfl rfl hl.1 rfl (Nat.le_of_ble_eq_true rfl) dX5_readThing_141 ⟨Nat.zero_le _, Nat.zero_le _⟩) hP hD hS hA [0, 1] [2, 3, 4, 5, 6, 7, 8] rfl rfl (by decide) (by decide) [7, 8, 0, 1, 2, 3, 4, 5, 6] (by decide) rfl rfl (fun H locs hP hD hS => ?_)
                  refine lv_istore (lv' := [(6, .int r141), (5, .int r99), (4, .int r53), (3, .int r22), (1, .long r5), (0, .ref aR)]) hx hb dX5_readThing_144 hl (by decide) rfl (fun ls hl => ?_)
                  refine lv_iload hx hb dX5_readThing_146 (lv_at hl 0 rfl) ?_
                  refine lv_if_lt (tgt := 173) hx hb dX5_readThing_148 (by decide) (fun c148 => ?_) (fun c148 => ?_)
                  · have hok := k_pos c148 hok
                    exact J173 vR_j11_141 vR_141 H locs ls hP hD hS (lv_sub hl [] rfl) hok
                  · have hok := k_neg c148 hok
                    refine lv_aload_n hx hb dX5_readThing_151 rfl (lv_at hl 5 rfl) ?_
                    refine va_get (D := D) (ci := 4) (v := .ref aH) (C := RX5) (T := TX5) (N := 13) hx hb ht0 niX5 hown hK hP 0 rfl rfl 2 (by decide) (ht0 _ wd266) (fun _ h9 => h9) rfl dX5_readThing_152 ?_
                    refine va_get (D := D) (ci := 3) (v := .int (vH 5)) (C := RX4) (T := TX4) (N := 20) hx hb ht0 niX4 hown hK hP 2 rfl rfl 5 (by decide) (ht0 _ wd357) (fun _ h9 => h9) rfl dX5_readThing_155 ?_
                    refine lv_if_lt (tgt := 173) hx hb dX5_readThing_158 (by decide) (fun c158 => ?_) (fun c158 => ?_)
                    · have hok := k_pos c158 hok
                      exact J173 vR_j11_141 vR_141 H locs ls hP hD hS (lv_sub hl [] rfl) hok
                    · have hok := k_neg c158 hok
                      refine lv_aload_n hx hb dX5_readThing_161 rfl (lv_at hl 5 rfl) ?_
                      refine va_get (D := D) (ci := 4) (v := .ref aH) (C := RX5) (T := TX5) (N := 13) hx hb ht0 niX5 hown hK hP 0 rfl rfl 2 (by decide) (ht0 _ wd266) (fun _ h9 => h9) rfl dX5_readThing_162 ?_
                      refine va_get (D := D) (ci := 3) (v := .int (vH 5)) (C := RX4) (T := TX4) (N := 20) hx hb ht0 niX4 hown hK hP 2 rfl rfl 5 (by decide) (ht0 _ wd357) (fun _ h9 => h9) rfl dX5_readThing_165 ?_
                      refine lv_bipush (v := 7) hx hb dX5_readThing_168 (by decide) ?_
                      refine lv_icmp_lt (tgt := 175) hx hb dX5_readThing_170 (by decide) (fun c170 => ?_) (fun c170 => ?_)
                      · have hok := k_pos c170 hok
                        refine lv_aload_n hx hb dX5_readThing_175 rfl (lv_at hl 5 rfl) ?_
                        refine va_get (D := D) (ci := 4) (v := .ref (qR 4)) (C := RX5) (T := TX5) (N := 13) hx hb ht0 niX5 hown hK hP 0 rfl rfl 4 (by decide) (ht0 _ wd362) (fun _ h9 => h9) rfl dX5_readThing_176 ?_
                        refine lv_aload_n hx hb dX5_readThing_179 rfl (lv_at hl 5 rfl) ?_
                        refine va_get (D := D) (ci := 4) (v := .ref aH) (C := RX5) (T := TX5) (N := 13) hx hb ht0 niX5 hown hK hP 0 rfl rfl 2 (by decide) (ht0 _ wd266) (fun _ h9 => h9) rfl dX5_readThing_180 ?_
                        refine va_get (D := D) (ci := 3) (v := .int (vH 5)) (C := RX4) (T := TX4) (N := 20) hx hb ht0 niX4 hown hK hP 2 rfl rfl 5 (by decide) (ht0 _ wd357) (fun _ h9 => h9) rfl dX5_readThing_183 ?_
                        refine lv_lload_n hx hb dX5_readThing_186 rfl (lv_at hl 4 rfl) ?_
                        obtain ⟨g187, hok⟩ := gd_some hok
                        refine va_last hx hb hK hP hD hS 4 2 rfl rfl (okI_in g187) dX5_readThing_187 (fun H locs hP hD hS => ?_)
                        have hP : va_P D vwCl (wX5_readThing cy aR qR aH qH vR_j11_141 vR_141 vR_tape vH vR_ringNames (vp_updL vR_thingNames (vH 5).toNatClampNeg r5) vH_places vH_firstCells vH_kinds vH_sizes) H := hP
                        have hD : va_D A (wX5_readThing cy aR qR aH qH vR_j11_141 vR_141 vR_tape vH vR_ringNames (vp_updL vR_thingNames (vH 5).toNatClampNeg r5) vH_places vH_firstCells vH_kinds vH_sizes) := hD
                        refine lv_aload_n hx hb dX5_readThing_188 rfl (lv_at hl 5 rfl) ?_
                        refine va_get (D := D) (ci := 4) (v := .ref aH) (C := RX5) (T := TX5) (N := 13) hx hb ht0 niX5 hown hK hP 0 rfl rfl 2 (by decide) (ht0 _ wd266) (fun _ h9 => h9) rfl dX5_readThing_189 ?_
                        refine lv_iload_n hx hb dX5_readThing_192 rfl (lv_at hl 3 rfl) ?_
                        refine lv_iload hx hb dX5_readThing_193 (lv_at hl 1 rfl) ?_
                        refine lv_iload hx hb dX5_readThing_195 (lv_at hl 0 rfl) ?_
                        obtain ⟨⟨vH_197, vH_kinds_197, vH_firstCells_197, vH_sizes_197⟩, hc197, hok⟩ := k_bind hok
                        try dsimp only at hok
                        refine kCv (wc := (wX4_addThing cy aH qH vH vH_kinds vH_firstCells vH_sizes)) (wc2 := (wX4_addThing cy aH qH vH_197 vH_kinds_197 vH_firstCells_197 vH_sizes_197)) (wr := [(aR, oX5 vR_141 qR vR_j11_141 aH), (qR 0, rB cy 900 vR_tape), (qR 3, rJ cy 4 vR_ringNames), (qR 4, rJ cy 7 (vp_updL vR_thingNames (vH 5).toNatClampNeg r5)), (qH 9, rI cy 4 vH_places)]) (ws2 := (wX5_readThing cy aR qR aH qH vR_j11_141 vR_141 vR_tape vH_197 vR_ringNames (vp_updL vR_thingNames (vH 5).toNatClampNeg r5) vH_places vH_firstCells_197 vH_kinds_197 vH_sizes_197)) (kRunV (As := [.int r22, .int r99, .int r141]) (rest := []) ⟨hx, hb, hml, hown, ht0⟩ (kX4_addThing l D cy _ aH qH vH vH_kinds vH_firstCells vH_sizes r22 r99 r141 vH_197 vH_kinds_197 vH_firstCells_197 vH_sizes_197 hc197 _ rfl) (cwV 3 ht0 (gV wd413 wd414 wd415 wd9 wd416) rfl rfl rfl (by decide +kernel) ⟨Nat.le_of_ble_eq_true rfl, Nat.le_of_ble_eq_true rfl⟩) hK hN hP hD [2, 7, 6, 8] rfl (by decide) 2 3 rfl rfl rfl hl.1 rfl (Nat.le_of_ble_eq_true rfl) dX5_readThing_197 ⟨Nat.zero_le _, Nat.zero_le _⟩) hP hD hS hA [2, 7, 6, 8] [0, 1, 3, 4, 5] rfl rfl (by decide) (by decide) [0, 1, 5, 2, 3, 4, 7, 6, 8] (by decide) rfl rfl (fun H locs hP hD hS => ?_)
                        refine lv_iconst (v := 1) hx hb dX5_readThing_200 (by decide) ?_
                        cases hok
                        subst hQe; exact W.zret hx hb hr rfl (fun t ht hW => ⟨⟨_, (), rfl, rfl, by rw [ht]; exact hP, va_K.moved hW.alike hK, hD⟩, hS.F ht⟩) hS.2.2 dX5_readThing_201
                      · have hok := k_neg c170 hok
                        exact J173 vR_j11_141 vR_141 H locs ls hP hD hS (lv_sub hl [] rfl) hok
                · have hok := k_pos c132 hok
                  refine lv_iconst (v := 0) hx hb dX5_readThing_135 (by decide) ?_
                  cases hok
                  subst hQe; exact W.zret hx hb hr rfl (fun t ht hW => ⟨⟨_, (), rfl, rfl, by rw [ht]; exact hP, va_K.moved hW.alike hK, hD⟩, hS.F ht⟩) hS.2.2 dX5_readThing_136
              · have hok := k_neg c113 hok
                refine lv_aload_n hx hb dX5_readThing_116 rfl (lv_at hl 4 rfl) ?_
                refine lv_iconst (v := 3) hx hb dX5_readThing_117 (by decide) ?_
                obtain ⟨⟨r118, vR_118⟩, hc118, hok⟩ := k_bind hok
                try dsimp only at hok
                refine kCi (wc := (wX5_fails cy aR qR aH vR_j11_66 vR_85)) (wc2 := (wX5_fails cy aR qR aH vR_j11_66 vR_118)) (wr := [(qR 0, rB cy 900 vR_tape), (aH, oX4 vH qH), (qR 3, rJ cy 4 vR_ringNames), (qR 4, rJ cy 7 vR_thingNames), (qH 9, rI cy 4 vH_places), (qH 16, rI cy 7 vH_firstCells), (qH 14, rI cy 7 vH_kinds), (qH 15, rI cy 7 vH_sizes)]) (ws2 := (wX5_readThing cy aR qR aH qH vR_j11_66 vR_118 vR_tape vH vR_ringNames vR_thingNames vH_places vH_firstCells vH_kinds vH_sizes)) (kRunV (As := [.int 3]) (rest := []) ⟨hx, hb, hml, hown, ht0⟩ (kX5_fails l D cy _ aR qR aH vR_j11_66 vR_85 (3 : Int32) r118 vR_118 hc118 _ rfl) (cwV 1 ht0 (gV wd332 wd333 wd334 wd276 wd335) rfl rfl rfl (by decide +kernel) ⟨Nat.le_of_ble_eq_true rfl, Nat.le_of_ble_eq_true rfl⟩) hK hN hP hD [0] rfl (by decide) 0 4 rfl rfl rfl hl.1 rfl (Nat.le_of_ble_eq_true rfl) dX5_readThing_118 ⟨Nat.zero_le _, Nat.zero_le _⟩) hP hD hS hA [0] [1, 2, 3, 4, 5, 6, 7, 8] rfl rfl (by decide) (by decide) [8, 0, 1, 2, 3, 4, 5, 6, 7] (by decide) rfl rfl (fun H locs hP hD hS => ?_)
                obtain ⟨g121, hok⟩ := gd_some hok
                cases hok
                subst hQe; exact W.zret hx hb hr (isB_nar g121) (fun t ht hW => ⟨⟨_, (), rfl, rfl, by rw [ht]; exact hP, va_K.moved hW.alike hK, hD⟩, hS.F ht⟩) hS.2.2 dX5_readThing_121
            · have hok := k_pos c88 hok
              exact J91 vR_j11_66 vR_85 H locs ls hP hD hS (lv_sub hl [] rfl) hok
      · have hok := k_pos c36 hok
        exact J39 vR_j11_33 vR_33 H locs ls hP hD hS (lv_sub hl [] rfl) hok
  · have hok := k_neg c12 hok
    refine lv_iconst (v := 0) hx hb dX5_readThing_15 (by decide) ?_
    cases hok
    subst hQe; exact W.zret hx hb hr rfl (fun t ht hW => ⟨⟨_, (), rfl, rfl, by rw [ht]; exact hP, va_K.moved hW.alike hK, hD⟩, hS.F ht⟩) hS.2.2 dX5_readThing_16
def wsX7_add : List Cond := .code yX7_add cX7_add 5 none :: W0
abbrev wX7_add (cy : Nat → ClassId) (aU : Nat) (qU : Nat → Nat) (vU : Nat → Int32) (vU_things : Nat → Int32) (vU_cells : Nat → Int32) (vU_nights : Nat → Int32) (vU_worths : Nat → Int32) : va_W := [(aU, oX7 vU qU), (qU 1, rI cy 6 vU_things), (qU 2, rI cy 6 vU_cells), (qU 3, rI cy 6 vU_nights), (qU 4, rI cy 6 vU_worths)]
set_option maxHeartbeats 4000000 in
set_option maxRecDepth 100000 in
theorem kX7_add (l : Launch) (D : va_G) (cy : Nat → ClassId) (sz : Nat) (aU : Nat) (qU : Nat → Nat) (vU : Nat → Int32) (vU_things : Nat → Int32) (vU_cells : Nat → Int32) (vU_nights : Nat → Int32) (vU_worths : Nat → Int32) (x1 : Int32) (x2 : Int32) (x3 : Int32) (x4 : Int32) (z_vU : Nat → Int32) (z_vU_things : Nat → Int32) (z_vU_cells : Nat → Int32) (z_vU_nights : Nat → Int32) (z_vU_worths : Nat → Int32) (hok : fX7_add vU vU_things vU_cells vU_nights vU_worths x1 x2 x3 x4 = some (z_vU, z_vU_things, z_vU_cells, z_vU_nights, z_vU_worths)) (A : Nat → Prop) (hAe : va_A (wX7_add cy aU qU vU vU_things vU_cells vU_nights vU_worths) sz = A) : Met l yX7_add wsX7_add ({ frames := 0, cells := 0, slots := 0, locals := 0 } : Room) (kPre D cy [.ref aU, .int x1, .int x2, .int x3, .int x4] (wX7_add cy aU qU vU vU_things vU_cells vU_nights vU_worths) sz) (kQv D cy A (wX7_add cy aU qU z_vU z_vU_things z_vU_cells z_vU_nights z_vU_worths)) 0 0 A := by
  refine Met.ofW (cc := cX7_add) (maxL := 5) (ret := none) (by decide) rfl ?_
  intro p e s m args below meth c s₁ B hml hv
  obtain ⟨rfl, hsz, hP, hK, hD0, hN⟩ := hv
  have hx := B.exec
  have hb := B.bytes
  have hr := B.returns
  have ht0 : ∀ w ∈ W0, w.before _ s = true := fun w h => atoms_spec (ws := wsX7_add) B.pre w (List.mem_cons_of_mem _ h)
  have hown : s.vm.findClass RX7 = some m.cls := findClass_of_methodNamed B.named
  have hlocks := B.notSynchronized
  subst hsz
  have hD : va_D A (wX7_add cy aU qU vU vU_things vU_cells vU_nights vU_worths) := by rw [← hAe]; exact hD0.self
  have hA : ∀ q : Nat, s.heap.size ≤ q → A q := fun q h => by rw [← hAe]; exact Or.inr h
  have hS : va_S A s.heap s.heap [] := va_S.rf
  have hl := lv_entry ([.ref aU, .int x1, .int x2, .int x3, .int x4]) (n := 5) (Nat.le_of_ble_eq_true rfl)
  rw [lg_entry_eq]
  generalize (lg_sl ([.ref aU, .int x1, .int x2, .int x3, .int x4]) ++ List.replicate (5 - (lg_sl ([.ref aU, .int x1, .int x2, .int x3, .int x4])).length) Slot.unset).toArray = ls at hl ⊢
  have hl : lv_has ls 5 [(0, .ref aU), (1, .int x1), (2, .int x2), (3, .int x3), (4, .int x4)] := hl
  generalize hQe : MQ below (kQv D cy A (wX7_add cy aU qU z_vU z_vU_things z_vU_cells z_vU_nights z_vU_worths)) ([.ref aU, .int x1, .int x2, .int x3, .int x4] : List Value).toArray s 0 0 A = Q
  have J16 : ∀ (H : Heap) (locs : List Loc) (ls : Array Slot), va_P D vwCl (wX7_add cy aU qU vU vU_things vU_cells vU_nights vU_worths) H → va_D A (wX7_add cy aU qU vU vU_things vU_cells vU_nights vU_worths) → va_S A s.heap H locs → lv_has ls 5 [] → fX7_add_J16 vU vU_things vU_cells vU_nights vU_worths = some (z_vU, z_vU_things, z_vU_cells, z_vU_nights, z_vU_worths) → W p l e ({ frames := 0, cells := 0, slots := 0, locals := 0 } : Room) s m ([.ref aU, .int x1, .int x2, .int x3, .int x4] : List Value).toArray below meth c H locs 0 0 Q (F0 m 16 ls []) := by
    intro  H locs ls hP hD hS hl hok
    unfold fX7_add_J16 at hok
    cases hok
    subst hQe; exact W.vret hx hb hr (fun t ht hW => ⟨⟨(), rfl, trivial, by rw [ht]; exact hP, va_K.moved hW.alike hK, hD⟩, hS.F ht⟩) hS.2.2 dX7_add_16
  unfold fX7_add at hok
  obtain ⟨H, hH⟩ : ∃ H, H = s.heap := ⟨_, rfl⟩
  obtain ⟨locs, hlc⟩ : ∃ x : List Loc, x = [] := ⟨_, rfl⟩
  have hP : va_P D vwCl (wX7_add cy aU qU vU vU_things vU_cells vU_nights vU_worths) H := by rw [hH]; exact hP
  have hS : va_S A s.heap H locs := by rw [hH, hlc]; exact hS
  rw [show W p l e _ s m _ below meth c s.heap [] = W p l e _ s m _ below meth c H locs from by rw [hH, hlc]]
  refine lv_aload_n hx hb dX7_add_0 rfl (lv_at hl 0 rfl) ?_
  refine va_get (D := D) (ci := 6) (v := .int (vU 0)) (C := RX7) (T := TX7) (N := 5) hx hb ht0 niX7 hown hK hP 0 rfl rfl 0 (by decide) (ht0 _ wd202) (fun _ h9 => h9) rfl dX7_add_1 ?_
  refine lv_if_lt (tgt := 16) hx hb dX7_add_4 (by decide) (fun c4 => ?_) (fun c4 => ?_)
  · have hok := k_pos c4 hok
    exact J16  H locs ls hP hD hS (lv_sub hl [] rfl) hok
  · have hok := k_neg c4 hok
    refine lv_aload_n hx hb dX7_add_7 rfl (lv_at hl 0 rfl) ?_
    refine va_get (D := D) (ci := 6) (v := .int (vU 0)) (C := RX7) (T := TX7) (N := 5) hx hb ht0 niX7 hown hK hP 0 rfl rfl 0 (by decide) (ht0 _ wd202) (fun _ h9 => h9) rfl dX7_add_8 ?_
    refine lv_bipush (v := 6) hx hb dX7_add_11 (by decide) ?_
    refine lv_icmp_lt (tgt := 17) hx hb dX7_add_13 (by decide) (fun c13 => ?_) (fun c13 => ?_)
    · have hok := k_pos c13 hok
      refine lv_aload_n hx hb dX7_add_17 rfl (lv_at hl 0 rfl) ?_
      refine va_get (D := D) (ci := 6) (v := .ref (qU 1)) (C := RX7) (T := TX7) (N := 5) hx hb ht0 niX7 hown hK hP 0 rfl rfl 1 (by decide) (ht0 _ wd199) (fun _ h9 => h9) rfl dX7_add_18 ?_
      refine lv_aload_n hx hb dX7_add_21 rfl (lv_at hl 0 rfl) ?_
      refine va_get (D := D) (ci := 6) (v := .int (vU 0)) (C := RX7) (T := TX7) (N := 5) hx hb ht0 niX7 hown hK hP 0 rfl rfl 0 (by decide) (ht0 _ wd202) (fun _ h9 => h9) rfl dX7_add_22 ?_
      refine lv_iload_n hx hb dX7_add_25 rfl (lv_at hl 1 rfl) ?_
      obtain ⟨g26, hok⟩ := gd_some hok
      refine va_iast hx hb hK hP hD hS 1 0 rfl rfl (okI_in g26) dX7_add_26 (fun H locs hP hD hS => ?_)
      have hP : va_P D vwCl (wX7_add cy aU qU vU (upd vU_things (vU 0).toNatClampNeg x1) vU_cells vU_nights vU_worths) H := hP
      have hD : va_D A (wX7_add cy aU qU vU (upd vU_things (vU 0).toNatClampNeg x1) vU_cells vU_nights vU_worths) := hD
      refine lv_aload_n hx hb dX7_add_27 rfl (lv_at hl 0 rfl) ?_
      refine va_get (D := D) (ci := 6) (v := .ref (qU 2)) (C := RX7) (T := TX7) (N := 5) hx hb ht0 niX7 hown hK hP 0 rfl rfl 2 (by decide) (ht0 _ wd201) (fun _ h9 => h9) rfl dX7_add_28 ?_
      refine lv_aload_n hx hb dX7_add_31 rfl (lv_at hl 0 rfl) ?_
      refine va_get (D := D) (ci := 6) (v := .int (vU 0)) (C := RX7) (T := TX7) (N := 5) hx hb ht0 niX7 hown hK hP 0 rfl rfl 0 (by decide) (ht0 _ wd202) (fun _ h9 => h9) rfl dX7_add_32 ?_
      refine lv_iload_n hx hb dX7_add_35 rfl (lv_at hl 2 rfl) ?_
      obtain ⟨g36, hok⟩ := gd_some hok
      refine va_iast hx hb hK hP hD hS 2 0 rfl rfl (okI_in g36) dX7_add_36 (fun H locs hP hD hS => ?_)
      have hP : va_P D vwCl (wX7_add cy aU qU vU (upd vU_things (vU 0).toNatClampNeg x1) (upd vU_cells (vU 0).toNatClampNeg x2) vU_nights vU_worths) H := hP
      have hD : va_D A (wX7_add cy aU qU vU (upd vU_things (vU 0).toNatClampNeg x1) (upd vU_cells (vU 0).toNatClampNeg x2) vU_nights vU_worths) := hD
      refine lv_aload_n hx hb dX7_add_37 rfl (lv_at hl 0 rfl) ?_
      refine va_get (D := D) (ci := 6) (v := .ref (qU 3)) (C := RX7) (T := TX7) (N := 5) hx hb ht0 niX7 hown hK hP 0 rfl rfl 3 (by decide) (ht0 _ wd203) (fun _ h9 => h9) rfl dX7_add_38 ?_
      refine lv_aload_n hx hb dX7_add_41 rfl (lv_at hl 0 rfl) ?_
      refine va_get (D := D) (ci := 6) (v := .int (vU 0)) (C := RX7) (T := TX7) (N := 5) hx hb ht0 niX7 hown hK hP 0 rfl rfl 0 (by decide) (ht0 _ wd202) (fun _ h9 => h9) rfl dX7_add_42 ?_
      refine lv_iload_n hx hb dX7_add_45 rfl (lv_at hl 3 rfl) ?_
      obtain ⟨g46, hok⟩ := gd_some hok
      refine va_iast hx hb hK hP hD hS 3 0 rfl rfl (okI_in g46) dX7_add_46 (fun H locs hP hD hS => ?_)
      have hP : va_P D vwCl (wX7_add cy aU qU vU (upd vU_things (vU 0).toNatClampNeg x1) (upd vU_cells (vU 0).toNatClampNeg x2) (upd vU_nights (vU 0).toNatClampNeg x3) vU_worths) H := hP
      have hD : va_D A (wX7_add cy aU qU vU (upd vU_things (vU 0).toNatClampNeg x1) (upd vU_cells (vU 0).toNatClampNeg x2) (upd vU_nights (vU 0).toNatClampNeg x3) vU_worths) := hD
      refine lv_aload_n hx hb dX7_add_47 rfl (lv_at hl 0 rfl) ?_
      refine va_get (D := D) (ci := 6) (v := .ref (qU 4)) (C := RX7) (T := TX7) (N := 5) hx hb ht0 niX7 hown hK hP 0 rfl rfl 4 (by decide) (ht0 _ wd205) (fun _ h9 => h9) rfl dX7_add_48 ?_
      refine lv_aload_n hx hb dX7_add_51 rfl (lv_at hl 0 rfl) ?_
      refine va_get (D := D) (ci := 6) (v := .int (vU 0)) (C := RX7) (T := TX7) (N := 5) hx hb ht0 niX7 hown hK hP 0 rfl rfl 0 (by decide) (ht0 _ wd202) (fun _ h9 => h9) rfl dX7_add_52 ?_
      refine lv_iload hx hb dX7_add_55 (lv_at hl 4 rfl) ?_
      obtain ⟨g57, hok⟩ := gd_some hok
      refine va_iast hx hb hK hP hD hS 4 0 rfl rfl (okI_in g57) dX7_add_57 (fun H locs hP hD hS => ?_)
      have hP : va_P D vwCl (wX7_add cy aU qU vU (upd vU_things (vU 0).toNatClampNeg x1) (upd vU_cells (vU 0).toNatClampNeg x2) (upd vU_nights (vU 0).toNatClampNeg x3) (upd vU_worths (vU 0).toNatClampNeg x4)) H := hP
      have hD : va_D A (wX7_add cy aU qU vU (upd vU_things (vU 0).toNatClampNeg x1) (upd vU_cells (vU 0).toNatClampNeg x2) (upd vU_nights (vU 0).toNatClampNeg x3) (upd vU_worths (vU 0).toNatClampNeg x4)) := hD
      refine lv_aload_n hx hb dX7_add_58 rfl (lv_at hl 0 rfl) ?_
      refine lv_dup hx hb dX7_add_59 rfl ?_
      refine va_get (D := D) (ci := 6) (v := .int (vU 0)) (C := RX7) (T := TX7) (N := 5) hx hb ht0 niX7 hown hK hP 0 rfl rfl 0 (by decide) (ht0 _ wd202) (fun _ h9 => h9) rfl dX7_add_60 ?_
      refine lv_iconst (v := 1) hx hb dX7_add_63 (by decide) ?_
      refine lv_iadd hx hb dX7_add_64 ?_
      refine va_put (D := D) (ci := 6) (v := .int ((vU 0) + (1 : Int32))) (ty := .int) (C := RX7) (T := TX7) (N := 5) hx hb ht0 niX7 tyX7 tyX7_ok nmX7 hown hK hP hD hS 0 rfl rfl 0 (by decide) (ht0 _ wd202) (fun _ h9 => h9) rfl (by decide +kernel) rfl rfl (Nat.le_of_ble_eq_true rfl) dX7_add_65 (fun H locs hP hD hS => ?_)
      have hP : va_P D vwCl (wX7_add cy aU qU (upd vU 0 ((vU 0) + (1 : Int32))) (upd vU_things (vU 0).toNatClampNeg x1) (upd vU_cells (vU 0).toNatClampNeg x2) (upd vU_nights (vU 0).toNatClampNeg x3) (upd vU_worths (vU 0).toNatClampNeg x4)) H := hP
      have hD : va_D A (wX7_add cy aU qU (upd vU 0 ((vU 0) + (1 : Int32))) (upd vU_things (vU 0).toNatClampNeg x1) (upd vU_cells (vU 0).toNatClampNeg x2) (upd vU_nights (vU 0).toNatClampNeg x3) (upd vU_worths (vU 0).toNatClampNeg x4)) := hD
      cases hok
      subst hQe; exact W.vret hx hb hr (fun t ht hW => ⟨⟨(), rfl, trivial, by rw [ht]; exact hP, va_K.moved hW.alike hK, hD⟩, hS.F ht⟩) hS.2.2 dX7_add_68
    · have hok := k_neg c13 hok
      exact J16  H locs ls hP hD hS (lv_sub hl [] rfl) hok
def wsX5_readWant : List Cond := .code yX5_readWant cX5_readWant 6 (some .boolean) :: W0
abbrev wX5_readWant (cy : Nat → ClassId) (aR : Nat) (qR : Nat → Nat) (aH : Nat) (qH : Nat → Nat) (qU : Nat → Nat) (vR_j11 : Int64) (vR : Nat → Int32) (vR_tape : Nat → Int32) (vH : Nat → Int32) (vR_thingNames : Nat → Int64) (vR_ringNames : Nat → Int64) (vH_places : Nat → Int32) (vU : Nat → Int32) (vU_things : Nat → Int32) (vU_cells : Nat → Int32) (vU_nights : Nat → Int32) (vU_worths : Nat → Int32) : va_W := [(aR, oX5 vR qR vR_j11 aH), (qR 0, rB cy 900 vR_tape), (aH, oX4 vH qH), (qR 4, rJ cy 7 vR_thingNames), (qR 3, rJ cy 4 vR_ringNames), (qH 9, rI cy 4 vH_places), (qH 7, oX7 vU qU), (qU 1, rI cy 6 vU_things), (qU 2, rI cy 6 vU_cells), (qU 3, rI cy 6 vU_nights), (qU 4, rI cy 6 vU_worths)]
set_option maxHeartbeats 4000000 in
set_option maxRecDepth 100000 in
theorem kX5_readWant (l : Launch) (D : va_G) (cy : Nat → ClassId) (ad : (Nat → Nat) × (Nat → Nat)) (sz : Nat) (aR : Nat) (qR : Nat → Nat) (aH : Nat) (qH : Nat → Nat) (qU : Nat → Nat) (vR_j11 : Int64) (vR : Nat → Int32) (vR_tape : Nat → Int32) (vH : Nat → Int32) (vR_thingNames : Nat → Int64) (vR_ringNames : Nat → Int64) (vH_places : Nat → Int32) (vU : Nat → Int32) (vU_things : Nat → Int32) (vU_cells : Nat → Int32) (vU_nights : Nat → Int32) (vU_worths : Nat → Int32) (zr : Int32) (z_vR_j11 : Int64) (z_vR : Nat → Int32) (z_vU : Nat → Int32) (z_vU_things : Nat → Int32) (z_vU_cells : Nat → Int32) (z_vU_nights : Nat → Int32) (z_vU_worths : Nat → Int32) (hok : fX5_readWant vR_j11 vR vR_tape vH vR_thingNames vR_ringNames vH_places vU vU_things vU_cells vU_nights vU_worths = some (zr, z_vR_j11, z_vR, z_vU, z_vU_things, z_vU_cells, z_vU_nights, z_vU_worths)) (A : Nat → Prop) (hAe : va_A (wX5_readWant cy aR qR aH qH qU vR_j11 vR vR_tape vH vR_thingNames vR_ringNames vH_places vU vU_things vU_cells vU_nights vU_worths) sz = A) : Met l yX5_readWant wsX5_readWant ({ frames := 7, cells := 0, slots := 0, locals := 153 } : Room) (kPreS D cy ad [.ref aR] (wX5_readWant cy aR qR aH qH qU vR_j11 vR vR_tape vH vR_thingNames vR_ringNames vH_places vU vU_things vU_cells vU_nights vU_worths) sz A) (kQi D cy zr A (wX5_readWant cy aR qR aH qH qU z_vR_j11 z_vR vR_tape vH vR_thingNames vR_ringNames vH_places z_vU z_vU_things z_vU_cells z_vU_nights z_vU_worths)) 0 0 A := by
  refine Met.ofW (cc := cX5_readWant) (maxL := 6) (ret := (some .boolean)) (by decide) rfl ?_
  intro p e s m args below meth c s₁ B hml hv
  obtain ⟨rfl, ⟨hsz, hP, hK, hD0, hN⟩, hSt⟩ := hv
  have hx := B.exec
  have hb := B.bytes
  have hr := B.returns
  have ht0 : ∀ w ∈ W0, w.before _ s = true := fun w h => atoms_spec (ws := wsX5_readWant) B.pre w (List.mem_cons_of_mem _ h)
  have hown : s.vm.findClass RX5 = some m.cls := findClass_of_methodNamed B.named
  have hlocks := B.notSynchronized
  subst hsz
  have hD : va_D A (wX5_readWant cy aR qR aH qH qU vR_j11 vR vR_tape vH vR_thingNames vR_ringNames vH_places vU vU_things vU_cells vU_nights vU_worths) := by rw [← hAe]; exact hD0.self
  have hA : ∀ q : Nat, s.heap.size ≤ q → A q := fun q h => by rw [← hAe]; exact Or.inr h
  have hS : va_S A s.heap s.heap [] := va_S.rf
  have hl := lv_entry ([.ref aR]) (n := 6) (Nat.le_of_ble_eq_true rfl)
  rw [lg_entry_eq]
  generalize (lg_sl ([.ref aR]) ++ List.replicate (6 - (lg_sl ([.ref aR])).length) Slot.unset).toArray = ls at hl ⊢
  have hl : lv_has ls 6 [(0, .ref aR)] := hl
  generalize hQe : MQ below (kQi D cy zr A (wX5_readWant cy aR qR aH qH qU z_vR_j11 z_vR vR_tape vH vR_thingNames vR_ringNames vH_places z_vU z_vU_things z_vU_cells z_vU_nights z_vU_worths)) ([.ref aR] : List Value).toArray s 0 0 A = Q
  have J122 : ∀ (vR_11_122 : Int64) (vR_122 : Nat → Int32), ∀ (H : Heap) (locs : List Loc) (ls : Array Slot), va_P D vwCl (wX5_readWant cy aR qR aH qH qU vR_11_122 vR_122 vR_tape vH vR_thingNames vR_ringNames vH_places vU vU_things vU_cells vU_nights vU_worths) H → va_D A (wX5_readWant cy aR qR aH qH qU vR_11_122 vR_122 vR_tape vH vR_thingNames vR_ringNames vH_places vU vU_things vU_cells vU_nights vU_worths) → va_S A s.heap H locs → lv_has ls 6 [] → fX5_readWant_J122 vU vU_things vU_cells vU_nights vU_worths vR_11_122 vR_122 = some (zr, z_vR_j11, z_vR, z_vU, z_vU_things, z_vU_cells, z_vU_nights, z_vU_worths) → W p l e ({ frames := 7, cells := 0, slots := 0, locals := 153 } : Room) s m ([.ref aR] : List Value).toArray below meth c H locs 0 0 Q (F0 m 122 ls []) := by
    intro vR_11_122 vR_122 H locs ls hP hD hS hl hok
    unfold fX5_readWant_J122 at hok
    refine lv_iconst (v := 0) hx hb dX5_readWant_122 (by decide) ?_
    cases hok
    subst hQe; exact W.zret hx hb hr rfl (fun t ht hW => ⟨⟨_, (), rfl, rfl, by rw [ht]; exact hP, va_K.moved hW.alike hK, hD⟩, hS.F ht⟩) hS.2.2 dX5_readWant_123
  have J96 : ∀ (vR_11_96 : Int64) (vR_96 : Nat → Int32), ∀ (H : Heap) (locs : List Loc) (ls : Array Slot), va_P D vwCl (wX5_readWant cy aR qR aH qH qU vR_11_96 vR_96 vR_tape vH vR_thingNames vR_ringNames vH_places vU vU_things vU_cells vU_nights vU_worths) H → va_D A (wX5_readWant cy aR qR aH qH qU vR_11_96 vR_96 vR_tape vH vR_thingNames vR_ringNames vH_places vU vU_things vU_cells vU_nights vU_worths) → va_S A s.heap H locs → lv_has ls 6 [] → fX5_readWant_J96 vU vU_things vU_cells vU_nights vU_worths vR_11_96 vR_96 = some (zr, z_vR_j11, z_vR, z_vU, z_vU_things, z_vU_cells, z_vU_nights, z_vU_worths) → W p l e ({ frames := 7, cells := 0, slots := 0, locals := 153 } : Room) s m ([.ref aR] : List Value).toArray below meth c H locs 0 0 Q (F0 m 96 ls []) := by
    intro vR_11_96 vR_96 H locs ls hP hD hS hl hok
    unfold fX5_readWant_J96 at hok
    refine lv_iconst (v := 0) hx hb dX5_readWant_96 (by decide) ?_
    cases hok
    subst hQe; exact W.zret hx hb hr rfl (fun t ht hW => ⟨⟨_, (), rfl, rfl, by rw [ht]; exact hP, va_K.moved hW.alike hK, hD⟩, hS.F ht⟩) hS.2.2 dX5_readWant_97
  have J64 : ∀ (vR_11_64 : Int64) (vR_64 : Nat → Int32), ∀ (H : Heap) (locs : List Loc) (ls : Array Slot), va_P D vwCl (wX5_readWant cy aR qR aH qH qU vR_11_64 vR_64 vR_tape vH vR_thingNames vR_ringNames vH_places vU vU_things vU_cells vU_nights vU_worths) H → va_D A (wX5_readWant cy aR qR aH qH qU vR_11_64 vR_64 vR_tape vH vR_thingNames vR_ringNames vH_places vU vU_things vU_cells vU_nights vU_worths) → va_S A s.heap H locs → lv_has ls 6 [] → fX5_readWant_J64 vU vU_things vU_cells vU_nights vU_worths vR_11_64 vR_64 = some (zr, z_vR_j11, z_vR, z_vU, z_vU_things, z_vU_cells, z_vU_nights, z_vU_worths) → W p l e ({ frames := 7, cells := 0, slots := 0, locals := 153 } : Room) s m ([.ref aR] : List Value).toArray below meth c H locs 0 0 Q (F0 m 64 ls []) := by
    intro vR_11_64 vR_64 H locs ls hP hD hS hl hok
    unfold fX5_readWant_J64 at hok
    refine lv_iconst (v := 0) hx hb dX5_readWant_64 (by decide) ?_
    cases hok
    subst hQe; exact W.zret hx hb hr rfl (fun t ht hW => ⟨⟨_, (), rfl, rfl, by rw [ht]; exact hP, va_K.moved hW.alike hK, hD⟩, hS.F ht⟩) hS.2.2 dX5_readWant_65
  have J33 : ∀ (vR_11_33 : Int64) (vR_33 : Nat → Int32), ∀ (H : Heap) (locs : List Loc) (ls : Array Slot), va_P D vwCl (wX5_readWant cy aR qR aH qH qU vR_11_33 vR_33 vR_tape vH vR_thingNames vR_ringNames vH_places vU vU_things vU_cells vU_nights vU_worths) H → va_D A (wX5_readWant cy aR qR aH qH qU vR_11_33 vR_33 vR_tape vH vR_thingNames vR_ringNames vH_places vU vU_things vU_cells vU_nights vU_worths) → va_S A s.heap H locs → lv_has ls 6 [] → fX5_readWant_J33 vU vU_things vU_cells vU_nights vU_worths vR_11_33 vR_33 = some (zr, z_vR_j11, z_vR, z_vU, z_vU_things, z_vU_cells, z_vU_nights, z_vU_worths) → W p l e ({ frames := 7, cells := 0, slots := 0, locals := 153 } : Room) s m ([.ref aR] : List Value).toArray below meth c H locs 0 0 Q (F0 m 33 ls []) := by
    intro vR_11_33 vR_33 H locs ls hP hD hS hl hok
    unfold fX5_readWant_J33 at hok
    refine lv_iconst (v := 0) hx hb dX5_readWant_33 (by decide) ?_
    cases hok
    subst hQe; exact W.zret hx hb hr rfl (fun t ht hW => ⟨⟨_, (), rfl, rfl, by rw [ht]; exact hP, va_K.moved hW.alike hK, hD⟩, hS.F ht⟩) hS.2.2 dX5_readWant_34
  unfold fX5_readWant at hok
  obtain ⟨H, hH⟩ : ∃ H, H = s.heap := ⟨_, rfl⟩
  obtain ⟨locs, hlc⟩ : ∃ x : List Loc, x = [] := ⟨_, rfl⟩
  have hP : va_P D vwCl (wX5_readWant cy aR qR aH qH qU vR_j11 vR vR_tape vH vR_thingNames vR_ringNames vH_places vU vU_things vU_cells vU_nights vU_worths) H := by rw [hH]; exact hP
  have hS : va_S A s.heap H locs := by rw [hH, hlc]; exact hS
  rw [show W p l e _ s m _ below meth c s.heap [] = W p l e _ s m _ below meth c H locs from by rw [hH, hlc]]
  refine lv_aload_n hx hb dX5_readWant_0 rfl (lv_at hl 0 rfl) ?_
  obtain ⟨⟨vR_j11_1, vR_1⟩, hc1, hok⟩ := k_bind hok
  try dsimp only at hok
  refine kCv (wc := (wX5_step cy aR qR aH vR_j11 vR vR_tape)) (wc2 := (wX5_step cy aR qR aH vR_j11_1 vR_1 vR_tape)) (wr := [(aH, oX4 vH qH), (qR 4, rJ cy 7 vR_thingNames), (qR 3, rJ cy 4 vR_ringNames), (qH 9, rI cy 4 vH_places), (qH 7, oX7 vU qU), (qU 1, rI cy 6 vU_things), (qU 2, rI cy 6 vU_cells), (qU 3, rI cy 6 vU_nights), (qU 4, rI cy 6 vU_worths)]) (ws2 := (wX5_readWant cy aR qR aH qH qU vR_j11_1 vR_1 vR_tape vH vR_thingNames vR_ringNames vH_places vU vU_things vU_cells vU_nights vU_worths)) (kRunV (As := []) (rest := []) ⟨hx, hb, hml, hown, ht0⟩ (kX5_step l D cy _ aR qR aH vR_j11 vR vR_tape vR_j11_1 vR_1 hc1 _ rfl) (cwV 0 ht0 (gV wd328 wd329 wd330 wd276 wd331) rfl rfl rfl (by decide +kernel) ⟨Nat.le_of_ble_eq_true rfl, Nat.le_of_ble_eq_true rfl⟩) hK hN hP hD [0, 1] rfl (by decide) 0 4 rfl rfl rfl hl.1 rfl (Nat.le_of_ble_eq_true rfl) dX5_readWant_1 ⟨Nat.zero_le _, Nat.zero_le _⟩) hP hD hS hA [0, 1] [2, 3, 4, 5, 6, 7, 8, 9, 10] rfl rfl (by decide) (by decide) [9, 10, 0, 1, 2, 3, 4, 5, 6, 7, 8] (by decide) rfl rfl (fun H locs hP hD hS => ?_)
  refine lv_aload_n hx hb dX5_readWant_4 rfl (lv_at hl 0 rfl) ?_
  refine lv_aload_n hx hb dX5_readWant_5 rfl (lv_at hl 0 rfl) ?_
  refine va_get (D := D) (ci := 4) (v := .ref (qR 4)) (C := RX5) (T := TX5) (N := 13) hx hb ht0 niX5 hown hK hP 0 rfl rfl 4 (by decide) (ht0 _ wd362) (fun _ h9 => h9) rfl dX5_readWant_6 ?_
  refine lv_aload_n hx hb dX5_readWant_9 rfl (lv_at hl 0 rfl) ?_
  refine va_get (D := D) (ci := 4) (v := .ref aH) (C := RX5) (T := TX5) (N := 13) hx hb ht0 niX5 hown hK hP 0 rfl rfl 2 (by decide) (ht0 _ wd266) (fun _ h9 => h9) rfl dX5_readWant_10 ?_
  refine va_get (D := D) (ci := 3) (v := .int (vH 5)) (C := RX4) (T := TX4) (N := 20) hx hb ht0 niX4 hown hK hP 2 rfl rfl 5 (by decide) (ht0 _ wd357) (fun _ h9 => h9) rfl dX5_readWant_13 ?_
  obtain ⟨⟨r16, vR_j11_16, vR_16⟩, hc16, hok⟩ := k_bind hok
  try dsimp only at hok
  refine kCi (wc := (wX5_takeToldName cy aR (qR 4) qR aH vR_j11_1 vR_1 vR_tape 7 vR_thingNames)) (wc2 := (wX5_takeToldName cy aR (qR 4) qR aH vR_j11_16 vR_16 vR_tape 7 vR_thingNames)) (wr := [(aH, oX4 vH qH), (qR 3, rJ cy 4 vR_ringNames), (qH 9, rI cy 4 vH_places), (qH 7, oX7 vU qU), (qU 1, rI cy 6 vU_things), (qU 2, rI cy 6 vU_cells), (qU 3, rI cy 6 vU_nights), (qU 4, rI cy 6 vU_worths)]) (ws2 := (wX5_readWant cy aR qR aH qH qU vR_j11_16 vR_16 vR_tape vH vR_thingNames vR_ringNames vH_places vU vU_things vU_cells vU_nights vU_worths)) (kRunVS (As := [.ref (qR 4), .int (vH 5)]) (rest := []) ⟨hx, hb, hml, hown, ht0⟩ (kX5_takeToldName l D cy ad _ aR (qR 4) qR aH vR_j11_1 vR_1 vR_tape 7 vR_thingNames (vH 5) r16 vR_j11_16 vR_16 hc16 _ rfl) (cwV 2 ht0 (gV wd387 wd388 wd389 wd276 wd390) rfl rfl rfl (by decide +kernel) ⟨Nat.le_of_ble_eq_true rfl, Nat.le_of_ble_eq_true rfl⟩) hK hN hP hD hSt hS hA [0, 1, 3] rfl (by decide) 0 4 rfl rfl rfl hl.1 rfl (Nat.le_of_ble_eq_true rfl) dX5_readWant_16 ⟨Nat.zero_le _, Nat.zero_le _⟩) hP hD hS hA [0, 1, 3] [2, 4, 5, 6, 7, 8, 9, 10] rfl rfl (by decide) (by decide) [8, 9, 0, 10, 1, 2, 3, 4, 5, 6, 7] (by decide) rfl rfl (fun H locs hP hD hS => ?_)
  refine lv_istore_n (lv' := [(1, .int r16), (0, .ref aR)]) hx hb dX5_readWant_19 rfl hl (by decide) rfl (fun ls hl => ?_)
  refine lv_iload_n hx hb dX5_readWant_20 rfl (lv_at hl 0 rfl) ?_
  refine lv_if_lt (tgt := 33) hx hb dX5_readWant_21 (by decide) (fun c21 => ?_) (fun c21 => ?_)
  · have hok := k_pos c21 hok
    exact J33 vR_j11_16 vR_16 H locs ls hP hD hS (lv_sub hl [] rfl) hok
  · have hok := k_neg c21 hok
    refine lv_aload_n hx hb dX5_readWant_24 rfl (lv_at hl 1 rfl) ?_
    refine va_ldcS hx hb hown (hSt.2.1 _ (List.mem_of_getElem? (i := 17) rfl)) dX5_readWant_25 ?_
    obtain ⟨⟨r27, vR_j11_27, vR_27⟩, hc27, hok⟩ := k_bind hok
    try dsimp only at hok
    refine kCi (wc := (wX5_passes cy aR qR aH vR_j11_16 vR_16 vR_tape)) (wc2 := (wX5_passes cy aR qR aH vR_j11_27 vR_27 vR_tape)) (wr := [(aH, oX4 vH qH), (qR 4, rJ cy 7 vR_thingNames), (qR 3, rJ cy 4 vR_ringNames), (qH 9, rI cy 4 vH_places), (qH 7, oX7 vU qU), (qU 1, rI cy 6 vU_things), (qU 2, rI cy 6 vU_cells), (qU 3, rI cy 6 vU_nights), (qU 4, rI cy 6 vU_worths)]) (ws2 := (wX5_readWant cy aR qR aH qH qU vR_j11_27 vR_27 vR_tape vH vR_thingNames vR_ringNames vH_places vU vU_things vU_cells vU_nights vU_worths)) (kRunVS (As := [.ref (ad.1 9)]) (rest := []) ⟨hx, hb, hml, hown, ht0⟩ (kX5_passes l D cy ad _ aR qR aH vR_j11_16 vR_16 vR_tape 9 r27 vR_j11_27 vR_27 hc27 _ rfl) (cwV 1 ht0 (gV wd341 wd342 wd343 wd276 wd344) rfl rfl rfl (by decide +kernel) ⟨Nat.le_of_ble_eq_true rfl, Nat.le_of_ble_eq_true rfl⟩) hK hN hP hD hSt hS hA [0, 1] rfl (by decide) 0 4 rfl rfl rfl hl.1 rfl (Nat.le_of_ble_eq_true rfl) dX5_readWant_27 ⟨Nat.zero_le _, Nat.zero_le _⟩) hP hD hS hA [0, 1] [2, 3, 4, 5, 6, 7, 8, 9, 10] rfl rfl (by decide) (by decide) [9, 10, 0, 1, 2, 3, 4, 5, 6, 7, 8] (by decide) rfl rfl (fun H locs hP hD hS => ?_)
    refine lv_if_ne (tgt := 35) hx hb dX5_readWant_30 (by decide) (fun c30 => ?_) (fun c30 => ?_)
    · have hok := k_neg c30 hok
      refine lv_aload_n hx hb dX5_readWant_35 rfl (lv_at hl 1 rfl) ?_
      refine lv_aload_n hx hb dX5_readWant_36 rfl (lv_at hl 1 rfl) ?_
      refine va_get (D := D) (ci := 4) (v := .ref (qR 3)) (C := RX5) (T := TX5) (N := 13) hx hb ht0 niX5 hown hK hP 0 rfl rfl 3 (by decide) (ht0 _ wd370) (fun _ h9 => h9) rfl dX5_readWant_37 ?_
      refine lv_aload_n hx hb dX5_readWant_40 rfl (lv_at hl 1 rfl) ?_
      refine va_get (D := D) (ci := 4) (v := .ref aH) (C := RX5) (T := TX5) (N := 13) hx hb ht0 niX5 hown hK hP 0 rfl rfl 2 (by decide) (ht0 _ wd266) (fun _ h9 => h9) rfl dX5_readWant_41 ?_
      refine va_get (D := D) (ci := 3) (v := .int (vH 2)) (C := RX4) (T := TX4) (N := 20) hx hb ht0 niX4 hown hK hP 2 rfl rfl 2 (by decide) (ht0 _ wd360) (fun _ h9 => h9) rfl dX5_readWant_44 ?_
      obtain ⟨⟨r47, vR_j11_47, vR_47⟩, hc47, hok⟩ := k_bind hok
      try dsimp only at hok
      refine kCi (wc := (wX5_takeToldName cy aR (qR 3) qR aH vR_j11_27 vR_27 vR_tape 4 vR_ringNames)) (wc2 := (wX5_takeToldName cy aR (qR 3) qR aH vR_j11_47 vR_47 vR_tape 4 vR_ringNames)) (wr := [(aH, oX4 vH qH), (qR 4, rJ cy 7 vR_thingNames), (qH 9, rI cy 4 vH_places), (qH 7, oX7 vU qU), (qU 1, rI cy 6 vU_things), (qU 2, rI cy 6 vU_cells), (qU 3, rI cy 6 vU_nights), (qU 4, rI cy 6 vU_worths)]) (ws2 := (wX5_readWant cy aR qR aH qH qU vR_j11_47 vR_47 vR_tape vH vR_thingNames vR_ringNames vH_places vU vU_things vU_cells vU_nights vU_worths)) (kRunVS (As := [.ref (qR 3), .int (vH 2)]) (rest := []) ⟨hx, hb, hml, hown, ht0⟩ (kX5_takeToldName l D cy ad _ aR (qR 3) qR aH vR_j11_27 vR_27 vR_tape 4 vR_ringNames (vH 2) r47 vR_j11_47 vR_47 hc47 _ rfl) (cwV 2 ht0 (gV wd387 wd388 wd389 wd276 wd390) rfl rfl rfl (by decide +kernel) ⟨Nat.le_of_ble_eq_true rfl, Nat.le_of_ble_eq_true rfl⟩) hK hN hP hD hSt hS hA [0, 1, 4] rfl (by decide) 0 4 rfl rfl rfl hl.1 rfl (Nat.le_of_ble_eq_true rfl) dX5_readWant_47 ⟨Nat.zero_le _, Nat.zero_le _⟩) hP hD hS hA [0, 1, 4] [2, 3, 5, 6, 7, 8, 9, 10] rfl rfl (by decide) (by decide) [8, 9, 0, 1, 10, 2, 3, 4, 5, 6, 7] (by decide) rfl rfl (fun H locs hP hD hS => ?_)
      refine lv_istore_n (lv' := [(2, .int r47), (1, .int r16), (0, .ref aR)]) hx hb dX5_readWant_50 rfl hl (by decide) rfl (fun ls hl => ?_)
      refine lv_iload_n hx hb dX5_readWant_51 rfl (lv_at hl 0 rfl) ?_
      refine lv_if_lt (tgt := 64) hx hb dX5_readWant_52 (by decide) (fun c52 => ?_) (fun c52 => ?_)
      · have hok := k_pos c52 hok
        exact J64 vR_j11_47 vR_47 H locs ls hP hD hS (lv_sub hl [] rfl) hok
      · have hok := k_neg c52 hok
        refine lv_aload_n hx hb dX5_readWant_55 rfl (lv_at hl 2 rfl) ?_
        refine va_ldcS hx hb hown (hSt.2.1 _ (List.mem_of_getElem? (i := 18) rfl)) dX5_readWant_56 ?_
        obtain ⟨⟨r58, vR_j11_58, vR_58⟩, hc58, hok⟩ := k_bind hok
        try dsimp only at hok
        refine kCi (wc := (wX5_passes cy aR qR aH vR_j11_47 vR_47 vR_tape)) (wc2 := (wX5_passes cy aR qR aH vR_j11_58 vR_58 vR_tape)) (wr := [(aH, oX4 vH qH), (qR 4, rJ cy 7 vR_thingNames), (qR 3, rJ cy 4 vR_ringNames), (qH 9, rI cy 4 vH_places), (qH 7, oX7 vU qU), (qU 1, rI cy 6 vU_things), (qU 2, rI cy 6 vU_cells), (qU 3, rI cy 6 vU_nights), (qU 4, rI cy 6 vU_worths)]) (ws2 := (wX5_readWant cy aR qR aH qH qU vR_j11_58 vR_58 vR_tape vH vR_thingNames vR_ringNames vH_places vU vU_things vU_cells vU_nights vU_worths)) (kRunVS (As := [.ref (ad.1 0)]) (rest := []) ⟨hx, hb, hml, hown, ht0⟩ (kX5_passes l D cy ad _ aR qR aH vR_j11_47 vR_47 vR_tape 0 r58 vR_j11_58 vR_58 hc58 _ rfl) (cwV 1 ht0 (gV wd341 wd342 wd343 wd276 wd344) rfl rfl rfl (by decide +kernel) ⟨Nat.le_of_ble_eq_true rfl, Nat.le_of_ble_eq_true rfl⟩) hK hN hP hD hSt hS hA [0, 1] rfl (by decide) 0 4 rfl rfl rfl hl.1 rfl (Nat.le_of_ble_eq_true rfl) dX5_readWant_58 ⟨Nat.zero_le _, Nat.zero_le _⟩) hP hD hS hA [0, 1] [2, 3, 4, 5, 6, 7, 8, 9, 10] rfl rfl (by decide) (by decide) [9, 10, 0, 1, 2, 3, 4, 5, 6, 7, 8] (by decide) rfl rfl (fun H locs hP hD hS => ?_)
        refine lv_if_ne (tgt := 66) hx hb dX5_readWant_61 (by decide) (fun c61 => ?_) (fun c61 => ?_)
        · have hok := k_neg c61 hok
          refine lv_aload_n hx hb dX5_readWant_66 rfl (lv_at hl 2 rfl) ?_
          refine lv_iconst (v := 0) hx hb dX5_readWant_67 (by decide) ?_
          refine lv_aload_n hx hb dX5_readWant_68 rfl (lv_at hl 2 rfl) ?_
          refine va_get (D := D) (ci := 4) (v := .ref aH) (C := RX5) (T := TX5) (N := 13) hx hb ht0 niX5 hown hK hP 0 rfl rfl 2 (by decide) (ht0 _ wd266) (fun _ h9 => h9) rfl dX5_readWant_69 ?_
          refine lv_iload_n hx hb dX5_readWant_72 rfl (lv_at hl 0 rfl) ?_
          obtain ⟨r73, hc73, hok⟩ := k_bind hok
          refine kCi (wc := (wX4_placesOf cy aH qH vH vH_places)) (wc2 := (wX4_placesOf cy aH qH vH vH_places)) (wr := [(aR, oX5 vR_58 qR vR_j11_58 aH), (qR 0, rB cy 900 vR_tape), (qR 4, rJ cy 7 vR_thingNames), (qR 3, rJ cy 4 vR_ringNames), (qH 7, oX7 vU qU), (qU 1, rI cy 6 vU_things), (qU 2, rI cy 6 vU_cells), (qU 3, rI cy 6 vU_nights), (qU 4, rI cy 6 vU_worths)]) (ws2 := (wX5_readWant cy aR qR aH qH qU vR_j11_58 vR_58 vR_tape vH vR_thingNames vR_ringNames vH_places vU vU_things vU_cells vU_nights vU_worths)) (kRunV (As := [.int r47]) (rest := [.int 0, .ref aR]) ⟨hx, hb, hml, hown, ht0⟩ (kX4_placesOf l D cy _ aH qH vH vH_places r47 r73 hc73 _ rfl) (cwV 1 ht0 (gV wd391 wd257 wd258 wd9 wd259) rfl rfl rfl (by decide +kernel) ⟨Nat.le_of_ble_eq_true rfl, Nat.le_of_ble_eq_true rfl⟩) hK hN hP hD [2, 5] rfl (by decide) 2 3 rfl rfl rfl hl.1 rfl (Nat.le_of_ble_eq_true rfl) dX5_readWant_73 ⟨Nat.zero_le _, Nat.zero_le _⟩) hP hD hS hA [2, 5] [0, 1, 3, 4, 6, 7, 8, 9, 10] rfl rfl (by decide) (by decide) [0, 1, 9, 2, 3, 10, 4, 5, 6, 7, 8] (by decide) rfl rfl (fun H locs hP hD hS => ?_)
          refine lv_iconst (v := 1) hx hb dX5_readWant_76 (by decide) ?_
          refine lv_isub hx hb dX5_readWant_77 ?_
          obtain ⟨⟨r78, vR_j11_78, vR_78⟩, hc78, hok⟩ := k_bind hok
          try dsimp only at hok
          refine kCi (wc := (wX5_takeWhole cy aR qR aH vR_j11_58 vR_58 vR_tape)) (wc2 := (wX5_takeWhole cy aR qR aH vR_j11_78 vR_78 vR_tape)) (wr := [(aH, oX4 vH qH), (qR 4, rJ cy 7 vR_thingNames), (qR 3, rJ cy 4 vR_ringNames), (qH 9, rI cy 4 vH_places), (qH 7, oX7 vU qU), (qU 1, rI cy 6 vU_things), (qU 2, rI cy 6 vU_cells), (qU 3, rI cy 6 vU_nights), (qU 4, rI cy 6 vU_worths)]) (ws2 := (wX5_readWant cy aR qR aH qH qU vR_j11_78 vR_78 vR_tape vH vR_thingNames vR_ringNames vH_places vU vU_things vU_cells vU_nights vU_worths)) (kRunV (As := [.int 0, .int (r73 - (1 : Int32))]) (rest := []) ⟨hx, hb, hml, hown, ht0⟩ (kX5_takeWhole l D cy _ aR qR aH vR_j11_58 vR_58 vR_tape (0 : Int32) (r73 - (1 : Int32)) r78 vR_j11_78 vR_78 hc78 _ rfl) (cwV 2 ht0 (gV wd345 wd346 wd347 wd276 wd348) rfl rfl rfl (by decide +kernel) ⟨Nat.le_of_ble_eq_true rfl, Nat.le_of_ble_eq_true rfl⟩) hK hN hP hD [0, 1] rfl (by decide) 0 4 rfl rfl rfl hl.1 rfl (Nat.le_of_ble_eq_true rfl) dX5_readWant_78 ⟨Nat.zero_le _, Nat.zero_le _⟩) hP hD hS hA [0, 1] [2, 3, 4, 5, 6, 7, 8, 9, 10] rfl rfl (by decide) (by decide) [9, 10, 0, 1, 2, 3, 4, 5, 6, 7, 8] (by decide) rfl rfl (fun H locs hP hD hS => ?_)
          refine lv_istore_n (lv' := [(3, .int r78), (2, .int r47), (1, .int r16), (0, .ref aR)]) hx hb dX5_readWant_81 rfl hl (by decide) rfl (fun ls hl => ?_)
          refine lv_iload_n hx hb dX5_readWant_82 rfl (lv_at hl 0 rfl) ?_
          refine lv_if_lt (tgt := 96) hx hb dX5_readWant_83 (by decide) (fun c83 => ?_) (fun c83 => ?_)
          · have hok := k_pos c83 hok
            exact J96 vR_j11_78 vR_78 H locs ls hP hD hS (lv_sub hl [] rfl) hok
          · have hok := k_neg c83 hok
            refine lv_aload_n hx hb dX5_readWant_86 rfl (lv_at hl 3 rfl) ?_
            refine va_ldcSw hx hb hown (hSt.2.1 _ (List.mem_of_getElem? (i := 20) rfl)) dX5_readWant_87 ?_
            obtain ⟨⟨r90, vR_j11_90, vR_90⟩, hc90, hok⟩ := k_bind hok
            try dsimp only at hok
            refine kCi (wc := (wX5_passes cy aR qR aH vR_j11_78 vR_78 vR_tape)) (wc2 := (wX5_passes cy aR qR aH vR_j11_90 vR_90 vR_tape)) (wr := [(aH, oX4 vH qH), (qR 4, rJ cy 7 vR_thingNames), (qR 3, rJ cy 4 vR_ringNames), (qH 9, rI cy 4 vH_places), (qH 7, oX7 vU qU), (qU 1, rI cy 6 vU_things), (qU 2, rI cy 6 vU_cells), (qU 3, rI cy 6 vU_nights), (qU 4, rI cy 6 vU_worths)]) (ws2 := (wX5_readWant cy aR qR aH qH qU vR_j11_90 vR_90 vR_tape vH vR_thingNames vR_ringNames vH_places vU vU_things vU_cells vU_nights vU_worths)) (kRunVS (As := [.ref (ad.1 12)]) (rest := []) ⟨hx, hb, hml, hown, ht0⟩ (kX5_passes l D cy ad _ aR qR aH vR_j11_78 vR_78 vR_tape 12 r90 vR_j11_90 vR_90 hc90 _ rfl) (cwV 1 ht0 (gV wd341 wd342 wd343 wd276 wd344) rfl rfl rfl (by decide +kernel) ⟨Nat.le_of_ble_eq_true rfl, Nat.le_of_ble_eq_true rfl⟩) hK hN hP hD hSt hS hA [0, 1] rfl (by decide) 0 4 rfl rfl rfl hl.1 rfl (Nat.le_of_ble_eq_true rfl) dX5_readWant_90 ⟨Nat.zero_le _, Nat.zero_le _⟩) hP hD hS hA [0, 1] [2, 3, 4, 5, 6, 7, 8, 9, 10] rfl rfl (by decide) (by decide) [9, 10, 0, 1, 2, 3, 4, 5, 6, 7, 8] (by decide) rfl rfl (fun H locs hP hD hS => ?_)
            refine lv_if_ne (tgt := 98) hx hb dX5_readWant_93 (by decide) (fun c93 => ?_) (fun c93 => ?_)
            · have hok := k_neg c93 hok
              refine lv_aload_n hx hb dX5_readWant_98 rfl (lv_at hl 3 rfl) ?_
              refine lv_iconst (v := 1) hx hb dX5_readWant_99 (by decide) ?_
              refine lv_bipush (v := 60) hx hb dX5_readWant_100 (by decide) ?_
              obtain ⟨⟨r102, vR_j11_102, vR_102⟩, hc102, hok⟩ := k_bind hok
              try dsimp only at hok
              refine kCi (wc := (wX5_takeWhole cy aR qR aH vR_j11_90 vR_90 vR_tape)) (wc2 := (wX5_takeWhole cy aR qR aH vR_j11_102 vR_102 vR_tape)) (wr := [(aH, oX4 vH qH), (qR 4, rJ cy 7 vR_thingNames), (qR 3, rJ cy 4 vR_ringNames), (qH 9, rI cy 4 vH_places), (qH 7, oX7 vU qU), (qU 1, rI cy 6 vU_things), (qU 2, rI cy 6 vU_cells), (qU 3, rI cy 6 vU_nights), (qU 4, rI cy 6 vU_worths)]) (ws2 := (wX5_readWant cy aR qR aH qH qU vR_j11_102 vR_102 vR_tape vH vR_thingNames vR_ringNames vH_places vU vU_things vU_cells vU_nights vU_worths)) (kRunV (As := [.int 1, .int 60]) (rest := []) ⟨hx, hb, hml, hown, ht0⟩ (kX5_takeWhole l D cy _ aR qR aH vR_j11_90 vR_90 vR_tape (1 : Int32) (60 : Int32) r102 vR_j11_102 vR_102 hc102 _ rfl) (cwV 2 ht0 (gV wd345 wd346 wd347 wd276 wd348) rfl rfl rfl (by decide +kernel) ⟨Nat.le_of_ble_eq_true rfl, Nat.le_of_ble_eq_true rfl⟩) hK hN hP hD [0, 1] rfl (by decide) 0 4 rfl rfl rfl hl.1 rfl (Nat.le_of_ble_eq_true rfl) dX5_readWant_102 ⟨Nat.zero_le _, Nat.zero_le _⟩) hP hD hS hA [0, 1] [2, 3, 4, 5, 6, 7, 8, 9, 10] rfl rfl (by decide) (by decide) [9, 10, 0, 1, 2, 3, 4, 5, 6, 7, 8] (by decide) rfl rfl (fun H locs hP hD hS => ?_)
              refine lv_istore (lv' := [(4, .int r102), (3, .int r78), (2, .int r47), (1, .int r16), (0, .ref aR)]) hx hb dX5_readWant_105 hl (by decide) rfl (fun ls hl => ?_)
              refine lv_iload hx hb dX5_readWant_107 (lv_at hl 0 rfl) ?_
              refine lv_if_lt (tgt := 122) hx hb dX5_readWant_109 (by decide) (fun c109 => ?_) (fun c109 => ?_)
              · have hok := k_pos c109 hok
                exact J122 vR_j11_102 vR_102 H locs ls hP hD hS (lv_sub hl [] rfl) hok
              · have hok := k_neg c109 hok
                refine lv_aload_n hx hb dX5_readWant_112 rfl (lv_at hl 4 rfl) ?_
                refine va_ldcSw hx hb hown (hSt.2.1 _ (List.mem_of_getElem? (i := 21) rfl)) dX5_readWant_113 ?_
                obtain ⟨⟨r116, vR_j11_116, vR_116⟩, hc116, hok⟩ := k_bind hok
                try dsimp only at hok
                refine kCi (wc := (wX5_passes cy aR qR aH vR_j11_102 vR_102 vR_tape)) (wc2 := (wX5_passes cy aR qR aH vR_j11_116 vR_116 vR_tape)) (wr := [(aH, oX4 vH qH), (qR 4, rJ cy 7 vR_thingNames), (qR 3, rJ cy 4 vR_ringNames), (qH 9, rI cy 4 vH_places), (qH 7, oX7 vU qU), (qU 1, rI cy 6 vU_things), (qU 2, rI cy 6 vU_cells), (qU 3, rI cy 6 vU_nights), (qU 4, rI cy 6 vU_worths)]) (ws2 := (wX5_readWant cy aR qR aH qH qU vR_j11_116 vR_116 vR_tape vH vR_thingNames vR_ringNames vH_places vU vU_things vU_cells vU_nights vU_worths)) (kRunVS (As := [.ref (ad.1 13)]) (rest := []) ⟨hx, hb, hml, hown, ht0⟩ (kX5_passes l D cy ad _ aR qR aH vR_j11_102 vR_102 vR_tape 13 r116 vR_j11_116 vR_116 hc116 _ rfl) (cwV 1 ht0 (gV wd341 wd342 wd343 wd276 wd344) rfl rfl rfl (by decide +kernel) ⟨Nat.le_of_ble_eq_true rfl, Nat.le_of_ble_eq_true rfl⟩) hK hN hP hD hSt hS hA [0, 1] rfl (by decide) 0 4 rfl rfl rfl hl.1 rfl (Nat.le_of_ble_eq_true rfl) dX5_readWant_116 ⟨Nat.zero_le _, Nat.zero_le _⟩) hP hD hS hA [0, 1] [2, 3, 4, 5, 6, 7, 8, 9, 10] rfl rfl (by decide) (by decide) [9, 10, 0, 1, 2, 3, 4, 5, 6, 7, 8] (by decide) rfl rfl (fun H locs hP hD hS => ?_)
                refine lv_if_ne (tgt := 124) hx hb dX5_readWant_119 (by decide) (fun c119 => ?_) (fun c119 => ?_)
                · have hok := k_neg c119 hok
                  refine lv_aload_n hx hb dX5_readWant_124 rfl (lv_at hl 4 rfl) ?_
                  refine lv_iconst (v := 1) hx hb dX5_readWant_125 (by decide) ?_
                  refine lv_bipush (v := 99) hx hb dX5_readWant_126 (by decide) ?_
                  obtain ⟨⟨r128, vR_j11_128, vR_128⟩, hc128, hok⟩ := k_bind hok
                  try dsimp only at hok
                  refine kCi (wc := (wX5_takeWhole cy aR qR aH vR_j11_116 vR_116 vR_tape)) (wc2 := (wX5_takeWhole cy aR qR aH vR_j11_128 vR_128 vR_tape)) (wr := [(aH, oX4 vH qH), (qR 4, rJ cy 7 vR_thingNames), (qR 3, rJ cy 4 vR_ringNames), (qH 9, rI cy 4 vH_places), (qH 7, oX7 vU qU), (qU 1, rI cy 6 vU_things), (qU 2, rI cy 6 vU_cells), (qU 3, rI cy 6 vU_nights), (qU 4, rI cy 6 vU_worths)]) (ws2 := (wX5_readWant cy aR qR aH qH qU vR_j11_128 vR_128 vR_tape vH vR_thingNames vR_ringNames vH_places vU vU_things vU_cells vU_nights vU_worths)) (kRunV (As := [.int 1, .int 99]) (rest := []) ⟨hx, hb, hml, hown, ht0⟩ (kX5_takeWhole l D cy _ aR qR aH vR_j11_116 vR_116 vR_tape (1 : Int32) (99 : Int32) r128 vR_j11_128 vR_128 hc128 _ rfl) (cwV 2 ht0 (gV wd345 wd346 wd347 wd276 wd348) rfl rfl rfl (by decide +kernel) ⟨Nat.le_of_ble_eq_true rfl, Nat.le_of_ble_eq_true rfl⟩) hK hN hP hD [0, 1] rfl (by decide) 0 4 rfl rfl rfl hl.1 rfl (Nat.le_of_ble_eq_true rfl) dX5_readWant_128 ⟨Nat.zero_le _, Nat.zero_le _⟩) hP hD hS hA [0, 1] [2, 3, 4, 5, 6, 7, 8, 9, 10] rfl rfl (by decide) (by decide) [9, 10, 0, 1, 2, 3, 4, 5, 6, 7, 8] (by decide) rfl rfl (fun H locs hP hD hS => ?_)
                  refine lv_istore (lv' := [(5, .int r128), (4, .int r102), (3, .int r78), (2, .int r47), (1, .int r16), (0, .ref aR)]) hx hb dX5_readWant_131 hl (by decide) rfl (fun ls hl => ?_)
                  refine lv_iload hx hb dX5_readWant_133 (lv_at hl 0 rfl) ?_
                  refine lv_if_ge (tgt := 140) hx hb dX5_readWant_135 (by decide) (fun c135 => ?_) (fun c135 => ?_)
                  · have hok := k_pos c135 hok
                    refine lv_aload_n hx hb dX5_readWant_140 rfl (lv_at hl 5 rfl) ?_
                    refine va_get (D := D) (ci := 4) (v := .ref aH) (C := RX5) (T := TX5) (N := 13) hx hb ht0 niX5 hown hK hP 0 rfl rfl 2 (by decide) (ht0 _ wd266) (fun _ h9 => h9) rfl dX5_readWant_141 ?_
                    refine va_get (D := D) (ci := 3) (v := .ref (qH 7)) (C := RX4) (T := TX4) (N := 20) hx hb ht0 niX4 hown hK hP 2 rfl rfl 7 (by decide) (ht0 _ wd352) (fun _ h9 => h9) rfl dX5_readWant_144 ?_
                    refine lv_iload_n hx hb dX5_readWant_147 rfl (lv_at hl 4 rfl) ?_
                    refine lv_iload_n hx hb dX5_readWant_148 rfl (lv_at hl 3 rfl) ?_
                    refine lv_iload_n hx hb dX5_readWant_149 rfl (lv_at hl 2 rfl) ?_
                    obtain ⟨r150, hc150, hok⟩ := k_bind hok
                    refine kCi (wc := (wX8_cellAt cy )) (wc2 := (wX8_cellAt cy )) (wr := [(aR, oX5 vR_128 qR vR_j11_128 aH), (qR 0, rB cy 900 vR_tape), (aH, oX4 vH qH), (qR 4, rJ cy 7 vR_thingNames), (qR 3, rJ cy 4 vR_ringNames), (qH 9, rI cy 4 vH_places), (qH 7, oX7 vU qU), (qU 1, rI cy 6 vU_things), (qU 2, rI cy 6 vU_cells), (qU 3, rI cy 6 vU_nights), (qU 4, rI cy 6 vU_worths)]) (ws2 := (wX5_readWant cy aR qR aH qH qU vR_j11_128 vR_128 vR_tape vH vR_thingNames vR_ringNames vH_places vU vU_things vU_cells vU_nights vU_worths)) (kRunSN (As := [.int r47, .int r78]) (rest := [.int r16, .ref (qH 7)]) ⟨hx, hb, hml, hown, ht0⟩ (kX8_cellAt l D cy _ r47 r78 r150 hc150 _ rfl) ⟨va_cnB 2 ht0 (gN wd260) rfl rfl rfl (hN _ (List.mem_of_getElem? (i := 5) rfl)) (ht0 _ wd57) (by decide +kernel) ⟨Nat.le_of_ble_eq_true rfl, Nat.le_of_ble_eq_true rfl⟩, ht0 _ wd261, trivial⟩ hK hN hP hD [] rfl (by decide) rfl hl.1 rfl (Nat.le_of_ble_eq_true rfl) dX5_readWant_150 ⟨Nat.zero_le _, Nat.zero_le _⟩) hP hD hS hA [] [0, 1, 2, 3, 4, 5, 6, 7, 8, 9, 10] rfl rfl (by decide) (by decide) [0, 1, 2, 3, 4, 5, 6, 7, 8, 9, 10] (by decide) rfl rfl (fun H locs hP hD hS => ?_)
                    refine lv_iload hx hb dX5_readWant_153 (lv_at hl 1 rfl) ?_
                    refine lv_iload hx hb dX5_readWant_155 (lv_at hl 0 rfl) ?_
                    obtain ⟨⟨vU_157, vU_things_157, vU_cells_157, vU_nights_157, vU_worths_157⟩, hc157, hok⟩ := k_bind hok
                    try dsimp only at hok
                    refine kCv (wc := (wX7_add cy (qH 7) qU vU vU_things vU_cells vU_nights vU_worths)) (wc2 := (wX7_add cy (qH 7) qU vU_157 vU_things_157 vU_cells_157 vU_nights_157 vU_worths_157)) (wr := [(aR, oX5 vR_128 qR vR_j11_128 aH), (qR 0, rB cy 900 vR_tape), (aH, oX4 vH qH), (qR 4, rJ cy 7 vR_thingNames), (qR 3, rJ cy 4 vR_ringNames), (qH 9, rI cy 4 vH_places)]) (ws2 := (wX5_readWant cy aR qR aH qH qU vR_j11_128 vR_128 vR_tape vH vR_thingNames vR_ringNames vH_places vU_157 vU_things_157 vU_cells_157 vU_nights_157 vU_worths_157)) (kRunV (As := [.int r16, .int r150, .int r102, .int r128]) (rest := []) ⟨hx, hb, hml, hown, ht0⟩ (kX7_add l D cy _ (qH 7) qU vU vU_things vU_cells vU_nights vU_worths r16 r150 r102 r128 vU_157 vU_things_157 vU_cells_157 vU_nights_157 vU_worths_157 hc157 _ rfl) (cwV 4 ht0 (gV wd417 wd418 wd419 wd218 wd420) rfl rfl rfl (by decide +kernel) ⟨Nat.le_of_ble_eq_true rfl, Nat.le_of_ble_eq_true rfl⟩) hK hN hP hD [6, 7, 8, 9, 10] rfl (by decide) 6 6 rfl rfl rfl hl.1 rfl (Nat.le_of_ble_eq_true rfl) dX5_readWant_157 ⟨Nat.zero_le _, Nat.zero_le _⟩) hP hD hS hA [6, 7, 8, 9, 10] [0, 1, 2, 3, 4, 5] rfl rfl (by decide) (by decide) [0, 1, 2, 3, 4, 5, 6, 7, 8, 9, 10] (by decide) rfl rfl (fun H locs hP hD hS => ?_)
                    refine lv_iconst (v := 1) hx hb dX5_readWant_160 (by decide) ?_
                    cases hok
                    subst hQe; exact W.zret hx hb hr rfl (fun t ht hW => ⟨⟨_, (), rfl, rfl, by rw [ht]; exact hP, va_K.moved hW.alike hK, hD⟩, hS.F ht⟩) hS.2.2 dX5_readWant_161
                  · have hok := k_neg c135 hok
                    refine lv_iconst (v := 0) hx hb dX5_readWant_138 (by decide) ?_
                    cases hok
                    subst hQe; exact W.zret hx hb hr rfl (fun t ht hW => ⟨⟨_, (), rfl, rfl, by rw [ht]; exact hP, va_K.moved hW.alike hK, hD⟩, hS.F ht⟩) hS.2.2 dX5_readWant_139
                · have hok := k_pos c119 hok
                  exact J122 vR_j11_116 vR_116 H locs ls hP hD hS (lv_sub hl [] rfl) hok
            · have hok := k_pos c93 hok
              exact J96 vR_j11_90 vR_90 H locs ls hP hD hS (lv_sub hl [] rfl) hok
        · have hok := k_pos c61 hok
          exact J64 vR_j11_58 vR_58 H locs ls hP hD hS (lv_sub hl [] rfl) hok
    · have hok := k_pos c30 hok
      exact J33 vR_j11_27 vR_27 H locs ls hP hD hS (lv_sub hl [] rfl) hok
def wsX5_readMark : List Cond := .code yX5_readMark cX5_readMark 4 (some .boolean) :: W0
abbrev wX5_readMark (cy : Nat → ClassId) (aR : Nat) (qR : Nat → Nat) (aH : Nat) (qH : Nat → Nat) (vR_j11 : Int64) (vR : Nat → Int32) (vR_tape : Nat → Int32) (vH : Nat → Int32) (vH_markNights : Nat → Int32) (vH_markPlaces : Nat → Int32) (vH_markFound : Nat → Int32) : va_W := [(aR, oX5 vR qR vR_j11 aH), (qR 0, rB cy 900 vR_tape), (aH, oX4 vH qH), (qH 17, rI cy 6 vH_markNights), (qH 18, rI cy 6 vH_markPlaces), (qH 19, rZ cy 6 vH_markFound)]
set_option maxHeartbeats 4000000 in
set_option maxRecDepth 100000 in
theorem kX5_readMark (l : Launch) (D : va_G) (cy : Nat → ClassId) (ad : (Nat → Nat) × (Nat → Nat)) (sz : Nat) (aR : Nat) (qR : Nat → Nat) (aH : Nat) (qH : Nat → Nat) (vR_j11 : Int64) (vR : Nat → Int32) (vR_tape : Nat → Int32) (vH : Nat → Int32) (vH_markNights : Nat → Int32) (vH_markPlaces : Nat → Int32) (vH_markFound : Nat → Int32) (zr : Int32) (z_vR_j11 : Int64) (z_vR : Nat → Int32) (z_vH : Nat → Int32) (z_vH_markNights : Nat → Int32) (z_vH_markPlaces : Nat → Int32) (z_vH_markFound : Nat → Int32) (hok : fX5_readMark vR_j11 vR vR_tape vH vH_markNights vH_markPlaces vH_markFound = some (zr, z_vR_j11, z_vR, z_vH, z_vH_markNights, z_vH_markPlaces, z_vH_markFound)) (A : Nat → Prop) (hAe : va_A (wX5_readMark cy aR qR aH qH vR_j11 vR vR_tape vH vH_markNights vH_markPlaces vH_markFound) sz = A) : Met l yX5_readMark wsX5_readMark ({ frames := 6, cells := 0, slots := 0, locals := 129 } : Room) (kPreS D cy ad [.ref aR] (wX5_readMark cy aR qR aH qH vR_j11 vR vR_tape vH vH_markNights vH_markPlaces vH_markFound) sz A) (kQi D cy zr A (wX5_readMark cy aR qR aH qH z_vR_j11 z_vR vR_tape z_vH z_vH_markNights z_vH_markPlaces z_vH_markFound)) 0 0 A := by
  refine Met.ofW (cc := cX5_readMark) (maxL := 4) (ret := (some .boolean)) (by decide) rfl ?_
  intro p e s m args below meth c s₁ B hml hv
  obtain ⟨rfl, ⟨hsz, hP, hK, hD0, hN⟩, hSt⟩ := hv
  have hx := B.exec
  have hb := B.bytes
  have hr := B.returns
  have ht0 : ∀ w ∈ W0, w.before _ s = true := fun w h => atoms_spec (ws := wsX5_readMark) B.pre w (List.mem_cons_of_mem _ h)
  have hown : s.vm.findClass RX5 = some m.cls := findClass_of_methodNamed B.named
  have hlocks := B.notSynchronized
  subst hsz
  have hD : va_D A (wX5_readMark cy aR qR aH qH vR_j11 vR vR_tape vH vH_markNights vH_markPlaces vH_markFound) := by rw [← hAe]; exact hD0.self
  have hA : ∀ q : Nat, s.heap.size ≤ q → A q := fun q h => by rw [← hAe]; exact Or.inr h
  have hS : va_S A s.heap s.heap [] := va_S.rf
  have hl := lv_entry ([.ref aR]) (n := 4) (Nat.le_of_ble_eq_true rfl)
  rw [lg_entry_eq]
  generalize (lg_sl ([.ref aR]) ++ List.replicate (4 - (lg_sl ([.ref aR])).length) Slot.unset).toArray = ls at hl ⊢
  have hl : lv_has ls 4 [(0, .ref aR)] := hl
  unfold fX5_readMark at hok
  obtain ⟨H, hH⟩ : ∃ H, H = s.heap := ⟨_, rfl⟩
  obtain ⟨locs, hlc⟩ : ∃ x : List Loc, x = [] := ⟨_, rfl⟩
  have hP : va_P D vwCl (wX5_readMark cy aR qR aH qH vR_j11 vR vR_tape vH vH_markNights vH_markPlaces vH_markFound) H := by rw [hH]; exact hP
  have hS : va_S A s.heap H locs := by rw [hH, hlc]; exact hS
  rw [show W p l e _ s m _ below meth c s.heap [] = W p l e _ s m _ below meth c H locs from by rw [hH, hlc]]
  refine lv_aload_n hx hb dX5_readMark_0 rfl (lv_at hl 0 rfl) ?_
  refine va_ldcS hx hb hown (hSt.2.1 _ (List.mem_of_getElem? (i := 6) rfl)) dX5_readMark_1 ?_
  obtain ⟨r3, hc3, hok⟩ := k_bind hok
  refine kCi (wc := (wX5_says cy aR qR aH vR_j11 vR vR_tape)) (wc2 := (wX5_says cy aR qR aH vR_j11 vR vR_tape)) (wr := [(aH, oX4 vH qH), (qH 17, rI cy 6 vH_markNights), (qH 18, rI cy 6 vH_markPlaces), (qH 19, rZ cy 6 vH_markFound)]) (ws2 := (wX5_readMark cy aR qR aH qH vR_j11 vR vR_tape vH vH_markNights vH_markPlaces vH_markFound)) (kRunVS (As := [.ref (ad.1 7)]) (rest := []) ⟨hx, hb, hml, hown, ht0⟩ (kX5_says l D cy ad _ aR qR aH vR_j11 vR vR_tape 7 r3 hc3 _ rfl) (cwV 1 ht0 (gV wd324 wd325 wd326 wd276 wd327) rfl rfl rfl (by decide +kernel) ⟨Nat.le_of_ble_eq_true rfl, Nat.le_of_ble_eq_true rfl⟩) hK hN hP hD hSt hS hA [0, 1] rfl (by decide) 0 4 rfl rfl rfl hl.1 rfl (Nat.le_of_ble_eq_true rfl) dX5_readMark_3 ⟨Nat.zero_le _, Nat.zero_le _⟩) hP hD hS hA [0, 1] [2, 3, 4, 5] rfl rfl (by decide) (by decide) [4, 5, 0, 1, 2, 3] (by decide) rfl rfl (fun H locs hP hD hS => ?_)
  refine lv_istore_n (lv' := [(1, .int r3), (0, .ref aR)]) hx hb dX5_readMark_6 rfl hl (by decide) rfl (fun ls hl => ?_)
  refine lv_aload_n hx hb dX5_readMark_7 rfl (lv_at hl 1 rfl) ?_
  obtain ⟨⟨vR_j11_8, vR_8⟩, hc8, hok⟩ := k_bind hok
  try dsimp only at hok
  refine kCv (wc := (wX5_step cy aR qR aH vR_j11 vR vR_tape)) (wc2 := (wX5_step cy aR qR aH vR_j11_8 vR_8 vR_tape)) (wr := [(aH, oX4 vH qH), (qH 17, rI cy 6 vH_markNights), (qH 18, rI cy 6 vH_markPlaces), (qH 19, rZ cy 6 vH_markFound)]) (ws2 := (wX5_readMark cy aR qR aH qH vR_j11_8 vR_8 vR_tape vH vH_markNights vH_markPlaces vH_markFound)) (kRunV (As := []) (rest := []) ⟨hx, hb, hml, hown, ht0⟩ (kX5_step l D cy _ aR qR aH vR_j11 vR vR_tape vR_j11_8 vR_8 hc8 _ rfl) (cwV 0 ht0 (gV wd328 wd329 wd330 wd276 wd331) rfl rfl rfl (by decide +kernel) ⟨Nat.le_of_ble_eq_true rfl, Nat.le_of_ble_eq_true rfl⟩) hK hN hP hD [0, 1] rfl (by decide) 0 4 rfl rfl rfl hl.1 rfl (Nat.le_of_ble_eq_true rfl) dX5_readMark_8 ⟨Nat.zero_le _, Nat.zero_le _⟩) hP hD hS hA [0, 1] [2, 3, 4, 5] rfl rfl (by decide) (by decide) [4, 5, 0, 1, 2, 3] (by decide) rfl rfl (fun H locs hP hD hS => ?_)
  refine lv_aload_n hx hb dX5_readMark_11 rfl (lv_at hl 1 rfl) ?_
  refine lv_iconst (v := 0) hx hb dX5_readMark_12 (by decide) ?_
  refine lv_bipush (v := 99) hx hb dX5_readMark_13 (by decide) ?_
  obtain ⟨⟨r15, vR_15⟩, hc15, hok⟩ := k_bind hok
  try dsimp only at hok
  refine kCi (wc := (wX5_isWhole cy aR qR aH vR_j11_8 vR_8)) (wc2 := (wX5_isWhole cy aR qR aH vR_j11_8 vR_15)) (wr := [(qR 0, rB cy 900 vR_tape), (aH, oX4 vH qH), (qH 17, rI cy 6 vH_markNights), (qH 18, rI cy 6 vH_markPlaces), (qH 19, rZ cy 6 vH_markFound)]) (ws2 := (wX5_readMark cy aR qR aH qH vR_j11_8 vR_15 vR_tape vH vH_markNights vH_markPlaces vH_markFound)) (kRunV (As := [.int 0, .int 99]) (rest := []) ⟨hx, hb, hml, hown, ht0⟩ (kX5_isWhole l D cy _ aR qR aH vR_j11_8 vR_8 (0 : Int32) (99 : Int32) r15 vR_15 hc15 _ rfl) (cwV 2 ht0 (gV wd336 wd337 wd338 wd276 wd339) rfl rfl rfl (by decide +kernel) ⟨Nat.le_of_ble_eq_true rfl, Nat.le_of_ble_eq_true rfl⟩) hK hN hP hD [0] rfl (by decide) 0 4 rfl rfl rfl hl.1 rfl (Nat.le_of_ble_eq_true rfl) dX5_readMark_15 ⟨Nat.zero_le _, Nat.zero_le _⟩) hP hD hS hA [0] [1, 2, 3, 4, 5] rfl rfl (by decide) (by decide) [5, 0, 1, 2, 3, 4] (by decide) rfl rfl (fun H locs hP hD hS => ?_)
  refine lv_if_ne (tgt := 23) hx hb dX5_readMark_18 (by decide) (fun c18 => ?_) (fun c18 => ?_)
  · have hok := k_neg c18 hok
    refine lv_aload_n hx hb dX5_readMark_23 rfl (lv_at hl 1 rfl) ?_
    refine va_get (D := D) (ci := 4) (v := .int (vR_15 10)) (C := RX5) (T := TX5) (N := 13) hx hb ht0 niX5 hown hK hP 0 rfl rfl 10 (by decide) (ht0 _ wd272) (fun _ h9 => h9) rfl dX5_readMark_24 ?_
    refine lv_istore_n (lv' := [(2, .int (vR_15 10)), (1, .int r3), (0, .ref aR)]) hx hb dX5_readMark_27 rfl hl (by decide) rfl (fun ls hl => ?_)
    refine lv_aload_n hx hb dX5_readMark_28 rfl (lv_at hl 2 rfl) ?_
    refine va_get (D := D) (ci := 4) (v := .ref aH) (C := RX5) (T := TX5) (N := 13) hx hb ht0 niX5 hown hK hP 0 rfl rfl 2 (by decide) (ht0 _ wd266) (fun _ h9 => h9) rfl dX5_readMark_29 ?_
    refine lv_iload_n hx hb dX5_readMark_32 rfl (lv_at hl 0 rfl) ?_
    obtain ⟨r33, hc33, hok⟩ := k_bind hok
    refine kCi (wc := (wX4_hasMark cy aH qH vH vH_markNights)) (wc2 := (wX4_hasMark cy aH qH vH vH_markNights)) (wr := [(aR, oX5 vR_15 qR vR_j11_8 aH), (qR 0, rB cy 900 vR_tape), (qH 18, rI cy 6 vH_markPlaces), (qH 19, rZ cy 6 vH_markFound)]) (ws2 := (wX5_readMark cy aR qR aH qH vR_j11_8 vR_15 vR_tape vH vH_markNights vH_markPlaces vH_markFound)) (kRunV (As := [.int (vR_15 10)]) (rest := []) ⟨hx, hb, hml, hown, ht0⟩ (kX4_hasMark l D cy _ aH qH vH vH_markNights (vR_15 10) r33 hc33 _ rfl) (cwV 1 ht0 (gV wd421 wd422 wd423 wd9 wd424) rfl rfl rfl (by decide +kernel) ⟨Nat.le_of_ble_eq_true rfl, Nat.le_of_ble_eq_true rfl⟩) hK hN hP hD [2, 3] rfl (by decide) 2 3 rfl rfl rfl hl.1 rfl (Nat.le_of_ble_eq_true rfl) dX5_readMark_33 ⟨Nat.zero_le _, Nat.zero_le _⟩) hP hD hS hA [2, 3] [0, 1, 4, 5] rfl rfl (by decide) (by decide) [0, 1, 4, 5, 2, 3] (by decide) rfl rfl (fun H locs hP hD hS => ?_)
    refine lv_if_eq (tgt := 45) hx hb dX5_readMark_36 (by decide) (fun c36 => ?_) (fun c36 => ?_)
    · have hok := k_pos c36 hok
      refine lv_aload_n hx hb dX5_readMark_45 rfl (lv_at hl 2 rfl) ?_
      obtain ⟨⟨vR_j11_46, vR_46⟩, hc46, hok⟩ := k_bind hok
      try dsimp only at hok
      refine kCv (wc := (wX5_step cy aR qR aH vR_j11_8 vR_15 vR_tape)) (wc2 := (wX5_step cy aR qR aH vR_j11_46 vR_46 vR_tape)) (wr := [(aH, oX4 vH qH), (qH 17, rI cy 6 vH_markNights), (qH 18, rI cy 6 vH_markPlaces), (qH 19, rZ cy 6 vH_markFound)]) (ws2 := (wX5_readMark cy aR qR aH qH vR_j11_46 vR_46 vR_tape vH vH_markNights vH_markPlaces vH_markFound)) (kRunV (As := []) (rest := []) ⟨hx, hb, hml, hown, ht0⟩ (kX5_step l D cy _ aR qR aH vR_j11_8 vR_15 vR_tape vR_j11_46 vR_46 hc46 _ rfl) (cwV 0 ht0 (gV wd328 wd329 wd330 wd276 wd331) rfl rfl rfl (by decide +kernel) ⟨Nat.le_of_ble_eq_true rfl, Nat.le_of_ble_eq_true rfl⟩) hK hN hP hD [0, 1] rfl (by decide) 0 4 rfl rfl rfl hl.1 rfl (Nat.le_of_ble_eq_true rfl) dX5_readMark_46 ⟨Nat.zero_le _, Nat.zero_le _⟩) hP hD hS hA [0, 1] [2, 3, 4, 5] rfl rfl (by decide) (by decide) [4, 5, 0, 1, 2, 3] (by decide) rfl rfl (fun H locs hP hD hS => ?_)
      refine lv_aload_n hx hb dX5_readMark_49 rfl (lv_at hl 2 rfl) ?_
      refine va_ldcS hx hb hown (hSt.2.1 _ (List.mem_of_getElem? (i := 18) rfl)) dX5_readMark_50 ?_
      obtain ⟨⟨r52, vR_j11_52, vR_52⟩, hc52, hok⟩ := k_bind hok
      try dsimp only at hok
      refine kCi (wc := (wX5_passes cy aR qR aH vR_j11_46 vR_46 vR_tape)) (wc2 := (wX5_passes cy aR qR aH vR_j11_52 vR_52 vR_tape)) (wr := [(aH, oX4 vH qH), (qH 17, rI cy 6 vH_markNights), (qH 18, rI cy 6 vH_markPlaces), (qH 19, rZ cy 6 vH_markFound)]) (ws2 := (wX5_readMark cy aR qR aH qH vR_j11_52 vR_52 vR_tape vH vH_markNights vH_markPlaces vH_markFound)) (kRunVS (As := [.ref (ad.1 0)]) (rest := []) ⟨hx, hb, hml, hown, ht0⟩ (kX5_passes l D cy ad _ aR qR aH vR_j11_46 vR_46 vR_tape 0 r52 vR_j11_52 vR_52 hc52 _ rfl) (cwV 1 ht0 (gV wd341 wd342 wd343 wd276 wd344) rfl rfl rfl (by decide +kernel) ⟨Nat.le_of_ble_eq_true rfl, Nat.le_of_ble_eq_true rfl⟩) hK hN hP hD hSt hS hA [0, 1] rfl (by decide) 0 4 rfl rfl rfl hl.1 rfl (Nat.le_of_ble_eq_true rfl) dX5_readMark_52 ⟨Nat.zero_le _, Nat.zero_le _⟩) hP hD hS hA [0, 1] [2, 3, 4, 5] rfl rfl (by decide) (by decide) [4, 5, 0, 1, 2, 3] (by decide) rfl rfl (fun H locs hP hD hS => ?_)
      refine lv_if_ne (tgt := 60) hx hb dX5_readMark_55 (by decide) (fun c55 => ?_) (fun c55 => ?_)
      · have hok := k_neg c55 hok
        refine lv_aload_n hx hb dX5_readMark_60 rfl (lv_at hl 2 rfl) ?_
        refine lv_iconst (v := 0) hx hb dX5_readMark_61 (by decide) ?_
        refine lv_bipush (v := 11) hx hb dX5_readMark_62 (by decide) ?_
        obtain ⟨⟨r64, vR_j11_64, vR_64⟩, hc64, hok⟩ := k_bind hok
        try dsimp only at hok
        refine kCi (wc := (wX5_takeWhole cy aR qR aH vR_j11_52 vR_52 vR_tape)) (wc2 := (wX5_takeWhole cy aR qR aH vR_j11_64 vR_64 vR_tape)) (wr := [(aH, oX4 vH qH), (qH 17, rI cy 6 vH_markNights), (qH 18, rI cy 6 vH_markPlaces), (qH 19, rZ cy 6 vH_markFound)]) (ws2 := (wX5_readMark cy aR qR aH qH vR_j11_64 vR_64 vR_tape vH vH_markNights vH_markPlaces vH_markFound)) (kRunV (As := [.int 0, .int 11]) (rest := []) ⟨hx, hb, hml, hown, ht0⟩ (kX5_takeWhole l D cy _ aR qR aH vR_j11_52 vR_52 vR_tape (0 : Int32) (11 : Int32) r64 vR_j11_64 vR_64 hc64 _ rfl) (cwV 2 ht0 (gV wd345 wd346 wd347 wd276 wd348) rfl rfl rfl (by decide +kernel) ⟨Nat.le_of_ble_eq_true rfl, Nat.le_of_ble_eq_true rfl⟩) hK hN hP hD [0, 1] rfl (by decide) 0 4 rfl rfl rfl hl.1 rfl (Nat.le_of_ble_eq_true rfl) dX5_readMark_64 ⟨Nat.zero_le _, Nat.zero_le _⟩) hP hD hS hA [0, 1] [2, 3, 4, 5] rfl rfl (by decide) (by decide) [4, 5, 0, 1, 2, 3] (by decide) rfl rfl (fun H locs hP hD hS => ?_)
        refine lv_istore_n (lv' := [(3, .int r64), (2, .int (vR_15 10)), (1, .int r3), (0, .ref aR)]) hx hb dX5_readMark_67 rfl hl (by decide) rfl (fun ls hl => ?_)
        refine lv_iload_n hx hb dX5_readMark_68 rfl (lv_at hl 0 rfl) ?_
        refine lv_if_ge (tgt := 74) hx hb dX5_readMark_69 (by decide) (fun c69 => ?_) (fun c69 => ?_)
        · have hok := k_pos c69 hok
          refine lv_aload_n hx hb dX5_readMark_74 rfl (lv_at hl 3 rfl) ?_
          refine va_get (D := D) (ci := 4) (v := .ref aH) (C := RX5) (T := TX5) (N := 13) hx hb ht0 niX5 hown hK hP 0 rfl rfl 2 (by decide) (ht0 _ wd266) (fun _ h9 => h9) rfl dX5_readMark_75 ?_
          refine lv_iload_n hx hb dX5_readMark_78 rfl (lv_at hl 1 rfl) ?_
          refine lv_iload_n hx hb dX5_readMark_79 rfl (lv_at hl 0 rfl) ?_
          refine lv_iload_n hx hb dX5_readMark_80 rfl (lv_at hl 2 rfl) ?_
          obtain ⟨⟨vH_81, vH_markNights_81, vH_markPlaces_81, vH_markFound_81⟩, hc81, hok⟩ := k_bind hok
          try dsimp only at hok
          refine kCv (wc := (wX4_addMark cy aH qH vH vH_markNights vH_markPlaces vH_markFound)) (wc2 := (wX4_addMark cy aH qH vH_81 vH_markNights_81 vH_markPlaces_81 vH_markFound_81)) (wr := [(aR, oX5 vR_64 qR vR_j11_64 aH), (qR 0, rB cy 900 vR_tape)]) (ws2 := (wX5_readMark cy aR qR aH qH vR_j11_64 vR_64 vR_tape vH_81 vH_markNights_81 vH_markPlaces_81 vH_markFound_81)) (kRunV (As := [.int (vR_15 10), .int r64, .int r3]) (rest := []) ⟨hx, hb, hml, hown, ht0⟩ (kX4_addMark l D cy _ aH qH vH vH_markNights vH_markPlaces vH_markFound (vR_15 10) r64 r3 vH_81 vH_markNights_81 vH_markPlaces_81 vH_markFound_81 hc81 _ rfl) (cwV 3 ht0 (gV wd425 wd426 wd427 wd9 wd428) rfl rfl rfl (by decide +kernel) ⟨Nat.le_of_ble_eq_true rfl, Nat.le_of_ble_eq_true rfl⟩) hK hN hP hD [2, 3, 4, 5] rfl (by decide) 2 3 rfl rfl rfl hl.1 rfl (Nat.le_of_ble_eq_true rfl) dX5_readMark_81 ⟨Nat.zero_le _, Nat.zero_le _⟩) hP hD hS hA [2, 3, 4, 5] [0, 1] rfl rfl (by decide) (by decide) [0, 1, 2, 3, 4, 5] (by decide) rfl rfl (fun H locs hP hD hS => ?_)
          refine lv_iconst (v := 1) hx hb dX5_readMark_84 (by decide) ?_
          cases hok
          exact W.zret hx hb hr rfl (fun t ht hW => ⟨⟨_, (), rfl, rfl, by rw [ht]; exact hP, va_K.moved hW.alike hK, hD⟩, hS.F ht⟩) hS.2.2 dX5_readMark_85
        · have hok := k_neg c69 hok
          refine lv_iconst (v := 0) hx hb dX5_readMark_72 (by decide) ?_
          cases hok
          exact W.zret hx hb hr rfl (fun t ht hW => ⟨⟨_, (), rfl, rfl, by rw [ht]; exact hP, va_K.moved hW.alike hK, hD⟩, hS.F ht⟩) hS.2.2 dX5_readMark_73
      · have hok := k_pos c55 hok
        refine lv_iconst (v := 0) hx hb dX5_readMark_58 (by decide) ?_
        cases hok
        exact W.zret hx hb hr rfl (fun t ht hW => ⟨⟨_, (), rfl, rfl, by rw [ht]; exact hP, va_K.moved hW.alike hK, hD⟩, hS.F ht⟩) hS.2.2 dX5_readMark_59
    · have hok := k_neg c36 hok
      refine lv_aload_n hx hb dX5_readMark_39 rfl (lv_at hl 2 rfl) ?_
      refine lv_iconst (v := 3) hx hb dX5_readMark_40 (by decide) ?_
      obtain ⟨⟨r41, vR_41⟩, hc41, hok⟩ := k_bind hok
      try dsimp only at hok
      refine kCi (wc := (wX5_fails cy aR qR aH vR_j11_8 vR_15)) (wc2 := (wX5_fails cy aR qR aH vR_j11_8 vR_41)) (wr := [(qR 0, rB cy 900 vR_tape), (aH, oX4 vH qH), (qH 17, rI cy 6 vH_markNights), (qH 18, rI cy 6 vH_markPlaces), (qH 19, rZ cy 6 vH_markFound)]) (ws2 := (wX5_readMark cy aR qR aH qH vR_j11_8 vR_41 vR_tape vH vH_markNights vH_markPlaces vH_markFound)) (kRunV (As := [.int 3]) (rest := []) ⟨hx, hb, hml, hown, ht0⟩ (kX5_fails l D cy _ aR qR aH vR_j11_8 vR_15 (3 : Int32) r41 vR_41 hc41 _ rfl) (cwV 1 ht0 (gV wd332 wd333 wd334 wd276 wd335) rfl rfl rfl (by decide +kernel) ⟨Nat.le_of_ble_eq_true rfl, Nat.le_of_ble_eq_true rfl⟩) hK hN hP hD [0] rfl (by decide) 0 4 rfl rfl rfl hl.1 rfl (Nat.le_of_ble_eq_true rfl) dX5_readMark_41 ⟨Nat.zero_le _, Nat.zero_le _⟩) hP hD hS hA [0] [1, 2, 3, 4, 5] rfl rfl (by decide) (by decide) [5, 0, 1, 2, 3, 4] (by decide) rfl rfl (fun H locs hP hD hS => ?_)
      obtain ⟨g44, hok⟩ := gd_some hok
      cases hok
      exact W.zret hx hb hr (isB_nar g44) (fun t ht hW => ⟨⟨_, (), rfl, rfl, by rw [ht]; exact hP, va_K.moved hW.alike hK, hD⟩, hS.F ht⟩) hS.2.2 dX5_readMark_44
  · have hok := k_pos c18 hok
    refine lv_iconst (v := 0) hx hb dX5_readMark_21 (by decide) ?_
    cases hok
    exact W.zret hx hb hr rfl (fun t ht hW => ⟨⟨_, (), rfl, rfl, by rw [ht]; exact hP, va_K.moved hW.alike hK, hD⟩, hS.F ht⟩) hS.2.2 dX5_readMark_22
