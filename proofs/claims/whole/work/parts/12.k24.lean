def wsX9_note : List Cond := .code yX9_note cX9_note 2 none :: W0
abbrev wX9_note (cy : Nat → ClassId) (aM : Nat) (qM : Nat → Nat) (vM : Nat → Int32) (vM_undone : Nat → Int32) (vM_st : Nat → Int32) : va_W := [(aM, oX9 vM qM), (qM 18, rI cy 144 vM_undone), (qM 17, rI cy 9 vM_st)]
set_option maxHeartbeats 4000000 in
set_option maxRecDepth 100000 in
theorem kX9_note (l : Launch) (D : va_G) (cy : Nat → ClassId) (sz : Nat) (aM : Nat) (qM : Nat → Nat) (vM : Nat → Int32) (vM_undone : Nat → Int32) (vM_st : Nat → Int32) (z_vM : Nat → Int32) (z_vM_undone : Nat → Int32) (hok : fX9_note vM vM_undone vM_st = some (z_vM, z_vM_undone)) (A : Nat → Prop) (hAe : va_A (wX9_note cy aM qM vM vM_undone vM_st) sz = A) : Met l yX9_note wsX9_note ({ frames := 1, cells := 0, slots := 0, locals := 25 } : Room) (kPre D cy [.ref aM] (wX9_note cy aM qM vM vM_undone vM_st) sz) (kQv D cy A (wX9_note cy aM qM z_vM z_vM_undone vM_st)) 0 0 A := by
  refine Met.ofW (cc := cX9_note) (maxL := 2) (ret := none) (by decide) rfl ?_
  intro p e s m args below meth c s₁ B hml hv
  obtain ⟨rfl, hsz, hP, hK, hD0, hN⟩ := hv
  have hx := B.exec
  have hb := B.bytes
  have hr := B.returns
  have ht0 : ∀ w ∈ W0, w.before _ s = true := fun w h => atoms_spec (ws := wsX9_note) B.pre w (List.mem_cons_of_mem _ h)
  have hown : s.vm.findClass RX9 = some m.cls := findClass_of_methodNamed B.named
  have hlocks := B.notSynchronized
  subst hsz
  have hD : va_D A (wX9_note cy aM qM vM vM_undone vM_st) := by rw [← hAe]; exact hD0.self
  have hA : ∀ q : Nat, s.heap.size ≤ q → A q := fun q h => by rw [← hAe]; exact Or.inr h
  have hS : va_S A s.heap s.heap [] := va_S.rf
  have hl := lv_entry ([.ref aM]) (n := 2) (Nat.le_of_ble_eq_true rfl)
  rw [lg_entry_eq]
  generalize (lg_sl ([.ref aM]) ++ List.replicate (2 - (lg_sl ([.ref aM])).length) Slot.unset).toArray = ls at hl ⊢
  have hl : lv_has ls 2 [(0, .ref aM)] := hl
  generalize hQe : MQ below (kQv D cy A (wX9_note cy aM qM z_vM z_vM_undone vM_st)) ([.ref aM] : List Value).toArray s 0 0 A = Q
  have J49 : ∀ (vM_undone_49 : Nat → Int32) (vM_49 : Nat → Int32), ∀ (H : Heap) (locs : List Loc) (ls : Array Slot), va_P D vwCl (wX9_note cy aM qM vM_49 vM_undone_49 vM_st) H → va_D A (wX9_note cy aM qM vM_49 vM_undone_49 vM_st) → va_S A s.heap H locs → lv_has ls 2 [(0, .ref aM)] → fX9_note_J49 vM_st vM_undone_49 vM_49 = some (z_vM, z_vM_undone) → W p l e ({ frames := 1, cells := 0, slots := 0, locals := 25 } : Room) s m ([.ref aM] : List Value).toArray below meth c H locs 0 0 Q (F0 m 49 ls []) := by
    intro vM_undone_49 vM_49 H locs ls hP hD hS hl hok
    unfold fX9_note_J49 at hok
    refine lv_aload_n hx hb dX9_note_49 rfl (lv_at hl 0 rfl) ?_
    refine va_get (D := D) (ci := 8) (v := .ref (qM 17)) (C := RX9) (T := TX9) (N := 29) hx hb ht0 niX9 hown hK hP 0 rfl rfl 17 (by decide) (ht0 _ wd858) (fun _ h9 => h9) rfl dX9_note_50 ?_
    refine lv_iconst (v := 0) hx hb dX9_note_53 (by decide) ?_
    refine lv_aload_n hx hb dX9_note_54 rfl (lv_at hl 0 rfl) ?_
    refine va_get (D := D) (ci := 8) (v := .ref (qM 18)) (C := RX9) (T := TX9) (N := 29) hx hb ht0 niX9 hown hK hP 0 rfl rfl 18 (by decide) (ht0 _ wd1019) (fun _ h9 => h9) rfl dX9_note_55 ?_
    refine lv_bipush (v := 9) hx hb dX9_note_58 (by decide) ?_
    refine lv_aload_n hx hb dX9_note_60 rfl (lv_at hl 0 rfl) ?_
    refine va_get (D := D) (ci := 8) (v := .int (vM_49 20)) (C := RX9) (T := TX9) (N := 29) hx hb ht0 niX9 hown hK hP 0 rfl rfl 20 (by decide) (ht0 _ wd856) (fun _ h9 => h9) rfl dX9_note_61 ?_
    refine lv_imul hx hb dX9_note_64 ?_
    refine lv_bipush (v := 9) hx hb dX9_note_65 (by decide) ?_
    obtain ⟨p2_67, hc67, hok⟩ := k_bind hok
    refine kCv (wc := (wX9_copy cy (qM 17) (qM 18) 9 vM_st 144 vM_undone_49)) (wc2 := (wX9_copy cy (qM 17) (qM 18) 9 vM_st 144 p2_67)) (wr := [(aM, oX9 vM_49 qM)]) (ws2 := (wX9_note cy aM qM vM_49 p2_67 vM_st)) (kRunS (As := [.ref (qM 17), .int 0, .ref (qM 18), .int ((9 : Int32) * (vM_49 20)), .int 9]) (rest := []) ⟨hx, hb, hml, hown, ht0⟩ (kX9_copy l D cy _ (qM 17) (qM 18) 9 vM_st 144 vM_undone_49 (0 : Int32) ((9 : Int32) * (vM_49 20)) (9 : Int32) p2_67 hc67 _ rfl) (va_cwS 5 ht0 (gS wd859 wd860 wd744 wd861) rfl rfl rfl (by decide +kernel) ⟨Nat.le_of_ble_eq_true rfl, Nat.le_of_ble_eq_true rfl⟩) hK hN hP hD [2, 1] rfl (by decide) rfl hl.1 rfl (Nat.le_of_ble_eq_true rfl) dX9_note_67 ⟨Nat.zero_le _, Nat.zero_le _⟩) hP hD hS hA [2, 1] [0] rfl rfl (by decide) (by decide) [0, 2, 1] (by decide) rfl rfl (fun H locs hP hD hS => ?_)
    refine lv_aload_n hx hb dX9_note_70 rfl (lv_at hl 0 rfl) ?_
    refine lv_dup hx hb dX9_note_71 rfl ?_
    refine va_get (D := D) (ci := 8) (v := .int (vM_49 20)) (C := RX9) (T := TX9) (N := 29) hx hb ht0 niX9 hown hK hP 0 rfl rfl 20 (by decide) (ht0 _ wd856) (fun _ h9 => h9) rfl dX9_note_72 ?_
    refine lv_iconst (v := 1) hx hb dX9_note_75 (by decide) ?_
    refine lv_iadd hx hb dX9_note_76 ?_
    refine va_put (D := D) (ci := 8) (v := .int ((vM_49 20) + (1 : Int32))) (ty := .int) (C := RX9) (T := TX9) (N := 29) hx hb ht0 niX9 tyX9 tyX9_ok nmX9 hown hK hP hD hS 0 rfl rfl 20 (by decide) (ht0 _ wd856) (fun _ h9 => h9) rfl (by decide +kernel) rfl rfl (Nat.le_of_ble_eq_true rfl) dX9_note_77 (fun H locs hP hD hS => ?_)
    have hP : va_P D vwCl (wX9_note cy aM qM (upd vM_49 20 ((vM_49 20) + (1 : Int32))) p2_67 vM_st) H := hP
    have hD : va_D A (wX9_note cy aM qM (upd vM_49 20 ((vM_49 20) + (1 : Int32))) p2_67 vM_st) := hD
    cases hok
    subst hQe; exact W.vret hx hb hr (fun t ht hW => ⟨⟨(), rfl, trivial, by rw [ht]; exact hP, va_K.moved hW.alike hK, hD⟩, hS.F ht⟩) hS.2.2 dX9_note_80
  have L11 : ∀ (fuel : Nat) (y1_11 : Int32) (vM_undone_11 : Nat → Int32), ∀ (H : Heap) (locs : List Loc) (ls : Array Slot), va_P D vwCl (wX9_note cy aM qM vM vM_undone_11 vM_st) H → va_D A (wX9_note cy aM qM vM vM_undone_11 vM_st) → va_S A s.heap H locs → lv_has ls 2 [(0, .ref aM), (1, .int y1_11)] → lp (fX9_note_B11 vM vM_st) fuel (y1_11, vM_undone_11) = some (z_vM, z_vM_undone) → W p l e ({ frames := 1, cells := 0, slots := 0, locals := 25 } : Room) s m ([.ref aM] : List Value).toArray below meth c H locs 0 0 Q (F0 m 11 ls []) := by
    intro fuel
    induction fuel with
    | zero => intro y1_11 vM_undone_11 H locs ls hP hD hS hl hok; exact (lp_0 hok).elim
    | succ fuel ih11 =>
      intro y1_11 vM_undone_11 H locs ls hP hD hS hl hok
      obtain ⟨y11, hok, hL11, hR11⟩ := lp_step hok
      unfold fX9_note_B11 at hok
      try dsimp only at hok
      refine lv_iload_n hx hb dX9_note_11 rfl (lv_at hl 1 rfl) ?_
      refine lv_sipush (v := 135) hx hb dX9_note_12 (by decide) ?_
      refine lv_icmp_ge (tgt := 39) hx hb dX9_note_15 (by decide) (fun c15 => ?_) (fun c15 => ?_)
      · have hok := k_pos c15 hok
        obtain ⟨e11, hok, he11⟩ := ex_some hok
        have hok := hok.trans (congrArg some (hL11 _ he11))
        refine lv_aload_n hx hb dX9_note_39 rfl (lv_at hl 0 rfl) ?_
        refine lv_dup hx hb dX9_note_40 rfl ?_
        refine va_get (D := D) (ci := 8) (v := .int (vM 20)) (C := RX9) (T := TX9) (N := 29) hx hb ht0 niX9 hown hK hP 0 rfl rfl 20 (by decide) (ht0 _ wd856) (fun _ h9 => h9) rfl dX9_note_41 ?_
        refine lv_iconst (v := 1) hx hb dX9_note_44 (by decide) ?_
        refine lv_isub hx hb dX9_note_45 ?_
        refine va_put (D := D) (ci := 8) (v := .int ((vM 20) - (1 : Int32))) (ty := .int) (C := RX9) (T := TX9) (N := 29) hx hb ht0 niX9 tyX9 tyX9_ok nmX9 hown hK hP hD hS 0 rfl rfl 20 (by decide) (ht0 _ wd856) (fun _ h9 => h9) rfl (by decide +kernel) rfl rfl (Nat.le_of_ble_eq_true rfl) dX9_note_46 (fun H locs hP hD hS => ?_)
        have hP : va_P D vwCl (wX9_note cy aM qM (upd vM 20 ((vM 20) - (1 : Int32))) vM_undone_11 vM_st) H := hP
        have hD : va_D A (wX9_note cy aM qM (upd vM 20 ((vM 20) - (1 : Int32))) vM_undone_11 vM_st) := hD
        exact J49 vM_undone_11 (upd vM 20 ((vM 20) - (1 : Int32))) H locs ls hP hD hS (lv_sub hl [0] rfl) hok
      · have hok := k_neg c15 hok
        refine lv_aload_n hx hb dX9_note_18 rfl (lv_at hl 0 rfl) ?_
        refine va_get (D := D) (ci := 8) (v := .ref (qM 18)) (C := RX9) (T := TX9) (N := 29) hx hb ht0 niX9 hown hK hP 0 rfl rfl 18 (by decide) (ht0 _ wd1019) (fun _ h9 => h9) rfl dX9_note_19 ?_
        refine lv_iload_n hx hb dX9_note_22 rfl (lv_at hl 1 rfl) ?_
        refine lv_aload_n hx hb dX9_note_23 rfl (lv_at hl 0 rfl) ?_
        refine va_get (D := D) (ci := 8) (v := .ref (qM 18)) (C := RX9) (T := TX9) (N := 29) hx hb ht0 niX9 hown hK hP 0 rfl rfl 18 (by decide) (ht0 _ wd1019) (fun _ h9 => h9) rfl dX9_note_24 ?_
        refine lv_iload_n hx hb dX9_note_27 rfl (lv_at hl 1 rfl) ?_
        refine lv_bipush (v := 9) hx hb dX9_note_28 (by decide) ?_
        refine lv_iadd hx hb dX9_note_30 ?_
        obtain ⟨g31, hok⟩ := gd_some hok
        refine va_iald hx hb hK hP 1 0 rfl rfl (okI_in g31) dX9_note_31 ?_
        obtain ⟨g32, hok⟩ := gd_some hok
        refine va_iast hx hb hK hP hD hS 1 0 rfl rfl (okI_in g32) dX9_note_32 (fun H locs hP hD hS => ?_)
        have hP : va_P D vwCl (wX9_note cy aM qM vM (upd vM_undone_11 y1_11.toNatClampNeg (vM_undone_11 (y1_11 + (9 : Int32)).toNatClampNeg)) vM_st) H := hP
        have hD : va_D A (wX9_note cy aM qM vM (upd vM_undone_11 y1_11.toNatClampNeg (vM_undone_11 (y1_11 + (9 : Int32)).toNatClampNeg)) vM_st) := hD
        refine lv_iinc (v := (y1_11 + 1)) (lv' := [(1, .int (y1_11 + 1)), (0, .ref aM)]) hx hb dX9_note_33 hl (k := 1) rfl (by first | rfl | decide) (by decide) rfl (fun ls hl => ?_)
        refine lv_goto (tgt := 11) hx hb dX9_note_36 (by decide) ?_
        exact ih11 (y1_11 + 1) (upd vM_undone_11 y1_11.toNatClampNeg (vM_undone_11 (y1_11 + (9 : Int32)).toNatClampNeg)) H locs ls hP hD hS (lv_sub hl [1, 0] rfl) (hR11 _ (Option.some.inj hok).symm)
  unfold fX9_note at hok
  obtain ⟨H, hH⟩ : ∃ H, H = s.heap := ⟨_, rfl⟩
  obtain ⟨locs, hlc⟩ : ∃ x : List Loc, x = [] := ⟨_, rfl⟩
  have hP : va_P D vwCl (wX9_note cy aM qM vM vM_undone vM_st) H := by rw [hH]; exact hP
  have hS : va_S A s.heap H locs := by rw [hH, hlc]; exact hS
  rw [show W p l e _ s m _ below meth c s.heap [] = W p l e _ s m _ below meth c H locs from by rw [hH, hlc]]
  refine lv_aload_n hx hb dX9_note_0 rfl (lv_at hl 0 rfl) ?_
  refine va_get (D := D) (ci := 8) (v := .int (vM 20)) (C := RX9) (T := TX9) (N := 29) hx hb ht0 niX9 hown hK hP 0 rfl rfl 20 (by decide) (ht0 _ wd856) (fun _ h9 => h9) rfl dX9_note_1 ?_
  refine lv_bipush (v := 16) hx hb dX9_note_4 (by decide) ?_
  refine lv_icmp_ne (tgt := 49) hx hb dX9_note_6 (by decide) (fun c6 => ?_) (fun c6 => ?_)
  · have hok := k_neg c6 hok
    exact J49 vM_undone vM H locs ls hP hD hS (lv_sub hl [0] rfl) hok
  · have hok := k_pos c6 hok
    refine lv_iconst (v := 0) hx hb dX9_note_9 (by decide) ?_
    refine lv_istore_n (lv' := [(1, .int 0), (0, .ref aM)]) hx hb dX9_note_10 rfl hl (by decide) rfl (fun ls hl => ?_)
    exact L11 5000 (0 : Int32) vM_undone H locs ls hP hD hS (lv_sub hl [1, 0] rfl) hok
def wsX9_turnsTo : List Cond := .code yX9_turnsTo cX9_turnsTo 3 (some .boolean) :: W0
abbrev wX9_turnsTo (cy : Nat → ClassId) (aM : Nat) (qM : Nat → Nat) (vM : Nat → Int32) (vM_r : Nat → Int32) (vM_st : Nat → Int32) (vM_undone : Nat → Int32) : va_W := [(aM, oX9 vM qM), (qM 15, rI cy 224 vM_r), (qM 17, rI cy 9 vM_st), (qM 18, rI cy 144 vM_undone)]
set_option maxHeartbeats 4000000 in
set_option maxRecDepth 100000 in
theorem kX9_turnsTo (l : Launch) (D : va_G) (cy : Nat → ClassId) (sz : Nat) (aM : Nat) (qM : Nat → Nat) (vM : Nat → Int32) (vM_r : Nat → Int32) (vM_st : Nat → Int32) (vM_undone : Nat → Int32) (x1 : Int32) (x2 : Int32) (zr : Int32) (z_vM : Nat → Int32) (z_vM_st : Nat → Int32) (z_vM_undone : Nat → Int32) (hok : fX9_turnsTo vM vM_r vM_st vM_undone x1 x2 = some (zr, z_vM, z_vM_st, z_vM_undone)) (A : Nat → Prop) (hAe : va_A (wX9_turnsTo cy aM qM vM vM_r vM_st vM_undone) sz = A) : Met l yX9_turnsTo wsX9_turnsTo ({ frames := 2, cells := 0, slots := 0, locals := 46 } : Room) (kPre D cy [.ref aM, .int x1, .int x2] (wX9_turnsTo cy aM qM vM vM_r vM_st vM_undone) sz) (kQi D cy zr A (wX9_turnsTo cy aM qM z_vM vM_r z_vM_st z_vM_undone)) 0 0 A := by
  refine Met.ofW (cc := cX9_turnsTo) (maxL := 3) (ret := (some .boolean)) (by decide) rfl ?_
  intro p e s m args below meth c s₁ B hml hv
  obtain ⟨rfl, hsz, hP, hK, hD0, hN⟩ := hv
  have hx := B.exec
  have hb := B.bytes
  have hr := B.returns
  have ht0 : ∀ w ∈ W0, w.before _ s = true := fun w h => atoms_spec (ws := wsX9_turnsTo) B.pre w (List.mem_cons_of_mem _ h)
  have hown : s.vm.findClass RX9 = some m.cls := findClass_of_methodNamed B.named
  have hlocks := B.notSynchronized
  subst hsz
  have hD : va_D A (wX9_turnsTo cy aM qM vM vM_r vM_st vM_undone) := by rw [← hAe]; exact hD0.self
  have hA : ∀ q : Nat, s.heap.size ≤ q → A q := fun q h => by rw [← hAe]; exact Or.inr h
  have hS : va_S A s.heap s.heap [] := va_S.rf
  have hl := lv_entry ([.ref aM, .int x1, .int x2]) (n := 3) (Nat.le_of_ble_eq_true rfl)
  rw [lg_entry_eq]
  generalize (lg_sl ([.ref aM, .int x1, .int x2]) ++ List.replicate (3 - (lg_sl ([.ref aM, .int x1, .int x2])).length) Slot.unset).toArray = ls at hl ⊢
  have hl : lv_has ls 3 [(0, .ref aM), (1, .int x1), (2, .int x2)] := hl
  unfold fX9_turnsTo at hok
  obtain ⟨H, hH⟩ : ∃ H, H = s.heap := ⟨_, rfl⟩
  obtain ⟨locs, hlc⟩ : ∃ x : List Loc, x = [] := ⟨_, rfl⟩
  have hP : va_P D vwCl (wX9_turnsTo cy aM qM vM vM_r vM_st vM_undone) H := by rw [hH]; exact hP
  have hS : va_S A s.heap H locs := by rw [hH, hlc]; exact hS
  rw [show W p l e _ s m _ below meth c s.heap [] = W p l e _ s m _ below meth c H locs from by rw [hH, hlc]]
  refine lv_aload_n hx hb dX9_turnsTo_0 rfl (lv_at hl 0 rfl) ?_
  refine lv_iload_n hx hb dX9_turnsTo_1 rfl (lv_at hl 1 rfl) ?_
  obtain ⟨r2, hc2, hok⟩ := k_bind hok
  refine kCi (wc := (wX9_isThing cy aM qM vM vM_r)) (wc2 := (wX9_isThing cy aM qM vM vM_r)) (wr := [(qM 17, rI cy 9 vM_st), (qM 18, rI cy 144 vM_undone)]) (ws2 := (wX9_turnsTo cy aM qM vM vM_r vM_st vM_undone)) (kRunV (As := [.int x1]) (rest := []) ⟨hx, hb, hml, hown, ht0⟩ (kX9_isThing l D cy _ aM qM vM vM_r x1 r2 hc2 _ rfl) (cwV 1 ht0 (gV wd925 wd926 wd927 wd744 wd928) rfl rfl rfl (by decide +kernel) ⟨Nat.le_of_ble_eq_true rfl, Nat.le_of_ble_eq_true rfl⟩) hK hN hP hD [0, 1] rfl (by decide) 0 8 rfl rfl rfl hl.1 rfl (Nat.le_of_ble_eq_true rfl) dX9_turnsTo_2 ⟨Nat.zero_le _, Nat.zero_le _⟩) hP hD hS hA [0, 1] [2, 3] rfl rfl (by decide) (by decide) [2, 3, 0, 1] (by decide) rfl rfl (fun H locs hP hD hS => ?_)
  refine lv_if_ne (tgt := 14) hx hb dX9_turnsTo_5 (by decide) (fun c5 => ?_) (fun c5 => ?_)
  · have hok := k_neg c5 hok
    refine lv_aload_n hx hb dX9_turnsTo_14 rfl (lv_at hl 0 rfl) ?_
    refine va_get (D := D) (ci := 8) (v := .ref (qM 17)) (C := RX9) (T := TX9) (N := 29) hx hb ht0 niX9 hown hK hP 0 rfl rfl 17 (by decide) (ht0 _ wd858) (fun _ h9 => h9) rfl dX9_turnsTo_15 ?_
    refine lv_bipush (v := 7) hx hb dX9_turnsTo_18 (by decide) ?_
    obtain ⟨g20, hok⟩ := gd_some hok
    refine va_iald hx hb hK hP 2 0 rfl rfl (okI_in g20) dX9_turnsTo_20 ?_
    refine lv_iload_n hx hb dX9_turnsTo_21 rfl (lv_at hl 1 rfl) ?_
    obtain ⟨r22, hc22, hok⟩ := k_bind hok
    refine kCi (wc := (wX9_hasBit cy )) (wc2 := (wX9_hasBit cy )) (wr := [(aM, oX9 vM qM), (qM 15, rI cy 224 vM_r), (qM 17, rI cy 9 vM_st), (qM 18, rI cy 144 vM_undone)]) (ws2 := (wX9_turnsTo cy aM qM vM vM_r vM_st vM_undone)) (kRunS (As := [.int (vM_st (7 : Int32).toNatClampNeg), .int x1]) (rest := []) ⟨hx, hb, hml, hown, ht0⟩ (kX9_hasBit l D cy _ (vM_st (7 : Int32).toNatClampNeg) x1 r22 hc22 _ rfl) (va_cwS 2 ht0 (gS wd894 wd895 wd744 wd896) rfl rfl rfl (by decide +kernel) ⟨Nat.le_of_ble_eq_true rfl, Nat.le_of_ble_eq_true rfl⟩) hK hN hP hD [] rfl (by decide) rfl hl.1 rfl (Nat.le_of_ble_eq_true rfl) dX9_turnsTo_22 ⟨Nat.zero_le _, Nat.zero_le _⟩) hP hD hS hA [] [0, 1, 2, 3] rfl rfl (by decide) (by decide) [0, 1, 2, 3] (by decide) rfl rfl (fun H locs hP hD hS => ?_)
    refine lv_iload_n hx hb dX9_turnsTo_25 rfl (lv_at hl 2 rfl) ?_
    refine lv_icmp_ne (tgt := 35) hx hb dX9_turnsTo_26 (by decide) (fun c26 => ?_) (fun c26 => ?_)
    · have hok := k_neg c26 hok
      refine lv_aload_n hx hb dX9_turnsTo_35 rfl (lv_at hl 0 rfl) ?_
      obtain ⟨⟨vM_36, vM_undone_36⟩, hc36, hok⟩ := k_bind hok
      try dsimp only at hok
      refine kCv (wc := (wX9_note cy aM qM vM vM_undone vM_st)) (wc2 := (wX9_note cy aM qM vM_36 vM_undone_36 vM_st)) (wr := [(qM 15, rI cy 224 vM_r)]) (ws2 := (wX9_turnsTo cy aM qM vM_36 vM_r vM_st vM_undone_36)) (kRunV (As := []) (rest := []) ⟨hx, hb, hml, hown, ht0⟩ (kX9_note l D cy _ aM qM vM vM_undone vM_st vM_36 vM_undone_36 hc36 _ rfl) (cwV 0 ht0 (gV wd1020 wd1021 wd1022 wd744 wd1023) rfl rfl rfl (by decide +kernel) ⟨Nat.le_of_ble_eq_true rfl, Nat.le_of_ble_eq_true rfl⟩) hK hN hP hD [0, 3, 2] rfl (by decide) 0 8 rfl rfl rfl hl.1 rfl (Nat.le_of_ble_eq_true rfl) dX9_turnsTo_36 ⟨Nat.zero_le _, Nat.zero_le _⟩) hP hD hS hA [0, 3, 2] [1] rfl rfl (by decide) (by decide) [1, 0, 3, 2] (by decide) rfl rfl (fun H locs hP hD hS => ?_)
      refine lv_aload_n hx hb dX9_turnsTo_39 rfl (lv_at hl 0 rfl) ?_
      refine va_get (D := D) (ci := 8) (v := .ref (qM 17)) (C := RX9) (T := TX9) (N := 29) hx hb ht0 niX9 hown hK hP 0 rfl rfl 17 (by decide) (ht0 _ wd858) (fun _ h9 => h9) rfl dX9_turnsTo_40 ?_
      refine lv_bipush (v := 7) hx hb dX9_turnsTo_43 (by decide) ?_
      refine lv_dup2_11 hx hb dX9_turnsTo_45 rfl rfl ?_
      obtain ⟨g46, hok⟩ := gd_some hok
      refine va_iald hx hb hK hP 2 0 rfl rfl (okI_in g46) dX9_turnsTo_46 ?_
      refine lv_iconst (v := 1) hx hb dX9_turnsTo_47 (by decide) ?_
      refine lv_iload_n hx hb dX9_turnsTo_48 rfl (lv_at hl 1 rfl) ?_
      refine lv_ishl hx hb dX9_turnsTo_49 ?_
      refine lv_ixor hx hb dX9_turnsTo_50 ?_
      obtain ⟨g51, hok⟩ := gd_some hok
      refine va_iast hx hb hK hP hD hS 2 0 rfl rfl (okI_in g51) dX9_turnsTo_51 (fun H locs hP hD hS => ?_)
      have hP : va_P D vwCl (wX9_turnsTo cy aM qM vM_36 vM_r (upd vM_st (7 : Int32).toNatClampNeg ((vM_st (7 : Int32).toNatClampNeg) ^^^ (isl (1 : Int32) x1))) vM_undone_36) H := hP
      have hD : va_D A (wX9_turnsTo cy aM qM vM_36 vM_r (upd vM_st (7 : Int32).toNatClampNeg ((vM_st (7 : Int32).toNatClampNeg) ^^^ (isl (1 : Int32) x1))) vM_undone_36) := hD
      refine lv_iconst (v := 1) hx hb dX9_turnsTo_52 (by decide) ?_
      cases hok
      exact W.zret hx hb hr rfl (fun t ht hW => ⟨⟨_, (), rfl, rfl, by rw [ht]; exact hP, va_K.moved hW.alike hK, hD⟩, hS.F ht⟩) hS.2.2 dX9_turnsTo_53
    · have hok := k_pos c26 hok
      refine lv_aload_n hx hb dX9_turnsTo_29 rfl (lv_at hl 0 rfl) ?_
      refine lv_iconst (v := 5) hx hb dX9_turnsTo_30 (by decide) ?_
      obtain ⟨⟨r31, vM_31⟩, hc31, hok⟩ := k_bind hok
      try dsimp only at hok
      refine kCi (wc := (wX9_isNot cy aM qM vM)) (wc2 := (wX9_isNot cy aM qM vM_31)) (wr := [(qM 15, rI cy 224 vM_r), (qM 17, rI cy 9 vM_st), (qM 18, rI cy 144 vM_undone)]) (ws2 := (wX9_turnsTo cy aM qM vM_31 vM_r vM_st vM_undone)) (kRunV (As := [.int 5]) (rest := []) ⟨hx, hb, hml, hown, ht0⟩ (kX9_isNot l D cy _ aM qM vM (5 : Int32) r31 vM_31 hc31 _ rfl) (cwV 1 ht0 (gV wd1024 wd1025 wd1026 wd744 wd1027) rfl rfl rfl (by decide +kernel) ⟨Nat.le_of_ble_eq_true rfl, Nat.le_of_ble_eq_true rfl⟩) hK hN hP hD [0] rfl (by decide) 0 8 rfl rfl rfl hl.1 rfl (Nat.le_of_ble_eq_true rfl) dX9_turnsTo_31 ⟨Nat.zero_le _, Nat.zero_le _⟩) hP hD hS hA [0] [1, 2, 3] rfl rfl (by decide) (by decide) [3, 0, 1, 2] (by decide) rfl rfl (fun H locs hP hD hS => ?_)
      obtain ⟨g34, hok⟩ := gd_some hok
      cases hok
      exact W.zret hx hb hr (isB_nar g34) (fun t ht hW => ⟨⟨_, (), rfl, rfl, by rw [ht]; exact hP, va_K.moved hW.alike hK, hD⟩, hS.F ht⟩) hS.2.2 dX9_turnsTo_34
  · have hok := k_pos c5 hok
    refine lv_aload_n hx hb dX9_turnsTo_8 rfl (lv_at hl 0 rfl) ?_
    refine lv_iconst (v := 1) hx hb dX9_turnsTo_9 (by decide) ?_
    obtain ⟨⟨r10, vM_10⟩, hc10, hok⟩ := k_bind hok
    try dsimp only at hok
    refine kCi (wc := (wX9_isNot cy aM qM vM)) (wc2 := (wX9_isNot cy aM qM vM_10)) (wr := [(qM 15, rI cy 224 vM_r), (qM 17, rI cy 9 vM_st), (qM 18, rI cy 144 vM_undone)]) (ws2 := (wX9_turnsTo cy aM qM vM_10 vM_r vM_st vM_undone)) (kRunV (As := [.int 1]) (rest := []) ⟨hx, hb, hml, hown, ht0⟩ (kX9_isNot l D cy _ aM qM vM (1 : Int32) r10 vM_10 hc10 _ rfl) (cwV 1 ht0 (gV wd1024 wd1025 wd1026 wd744 wd1027) rfl rfl rfl (by decide +kernel) ⟨Nat.le_of_ble_eq_true rfl, Nat.le_of_ble_eq_true rfl⟩) hK hN hP hD [0] rfl (by decide) 0 8 rfl rfl rfl hl.1 rfl (Nat.le_of_ble_eq_true rfl) dX9_turnsTo_10 ⟨Nat.zero_le _, Nat.zero_le _⟩) hP hD hS hA [0] [1, 2, 3] rfl rfl (by decide) (by decide) [3, 0, 1, 2] (by decide) rfl rfl (fun H locs hP hD hS => ?_)
    obtain ⟨g13, hok⟩ := gd_some hok
    cases hok
    exact W.zret hx hb hr (isB_nar g13) (fun t ht hW => ⟨⟨_, (), rfl, rfl, by rw [ht]; exact hP, va_K.moved hW.alike hK, hD⟩, hS.F ht⟩) hS.2.2 dX9_turnsTo_13
def wsX9_hold : List Cond := .code yX9_hold cX9_hold 2 (some .boolean) :: W0
abbrev wX9_hold (cy : Nat → ClassId) (aM : Nat) (qM : Nat → Nat) (vM : Nat → Int32) (vM_r : Nat → Int32) (vM_st : Nat → Int32) (vM_undone : Nat → Int32) : va_W := [(aM, oX9 vM qM), (qM 15, rI cy 224 vM_r), (qM 17, rI cy 9 vM_st), (qM 18, rI cy 144 vM_undone)]
set_option maxHeartbeats 4000000 in
set_option maxRecDepth 100000 in
theorem kX9_hold (l : Launch) (D : va_G) (cy : Nat → ClassId) (sz : Nat) (aM : Nat) (qM : Nat → Nat) (vM : Nat → Int32) (vM_r : Nat → Int32) (vM_st : Nat → Int32) (vM_undone : Nat → Int32) (x1 : Int32) (zr : Int32) (z_vM : Nat → Int32) (z_vM_st : Nat → Int32) (z_vM_undone : Nat → Int32) (hok : fX9_hold vM vM_r vM_st vM_undone x1 = some (zr, z_vM, z_vM_st, z_vM_undone)) (A : Nat → Prop) (hAe : va_A (wX9_hold cy aM qM vM vM_r vM_st vM_undone) sz = A) : Met l yX9_hold wsX9_hold ({ frames := 3, cells := 0, slots := 0, locals := 68 } : Room) (kPre D cy [.ref aM, .int x1] (wX9_hold cy aM qM vM vM_r vM_st vM_undone) sz) (kQi D cy zr A (wX9_hold cy aM qM z_vM vM_r z_vM_st z_vM_undone)) 0 0 A := by
  refine Met.ofW (cc := cX9_hold) (maxL := 2) (ret := (some .boolean)) (by decide) rfl ?_
  intro p e s m args below meth c s₁ B hml hv
  obtain ⟨rfl, hsz, hP, hK, hD0, hN⟩ := hv
  have hx := B.exec
  have hb := B.bytes
  have hr := B.returns
  have ht0 : ∀ w ∈ W0, w.before _ s = true := fun w h => atoms_spec (ws := wsX9_hold) B.pre w (List.mem_cons_of_mem _ h)
  have hown : s.vm.findClass RX9 = some m.cls := findClass_of_methodNamed B.named
  have hlocks := B.notSynchronized
  subst hsz
  have hD : va_D A (wX9_hold cy aM qM vM vM_r vM_st vM_undone) := by rw [← hAe]; exact hD0.self
  have hA : ∀ q : Nat, s.heap.size ≤ q → A q := fun q h => by rw [← hAe]; exact Or.inr h
  have hS : va_S A s.heap s.heap [] := va_S.rf
  have hl := lv_entry ([.ref aM, .int x1]) (n := 2) (Nat.le_of_ble_eq_true rfl)
  rw [lg_entry_eq]
  generalize (lg_sl ([.ref aM, .int x1]) ++ List.replicate (2 - (lg_sl ([.ref aM, .int x1])).length) Slot.unset).toArray = ls at hl ⊢
  have hl : lv_has ls 2 [(0, .ref aM), (1, .int x1)] := hl
  unfold fX9_hold at hok
  obtain ⟨H, hH⟩ : ∃ H, H = s.heap := ⟨_, rfl⟩
  obtain ⟨locs, hlc⟩ : ∃ x : List Loc, x = [] := ⟨_, rfl⟩
  have hP : va_P D vwCl (wX9_hold cy aM qM vM vM_r vM_st vM_undone) H := by rw [hH]; exact hP
  have hS : va_S A s.heap H locs := by rw [hH, hlc]; exact hS
  rw [show W p l e _ s m _ below meth c s.heap [] = W p l e _ s m _ below meth c H locs from by rw [hH, hlc]]
  refine lv_aload_n hx hb dX9_hold_0 rfl (lv_at hl 0 rfl) ?_
  obtain ⟨vM_1, hc1, hok⟩ := k_bind hok
  refine kCv (wc := (wX9_good cy aM qM vM)) (wc2 := (wX9_good cy aM qM vM_1)) (wr := [(qM 15, rI cy 224 vM_r), (qM 17, rI cy 9 vM_st), (qM 18, rI cy 144 vM_undone)]) (ws2 := (wX9_hold cy aM qM vM_1 vM_r vM_st vM_undone)) (kRunV (As := []) (rest := []) ⟨hx, hb, hml, hown, ht0⟩ (kX9_good l D cy _ aM qM vM vM_1 hc1 _ rfl) (cwV 0 ht0 (gV wd870 wd871 wd872 wd744 wd873) rfl rfl rfl (by decide +kernel) ⟨Nat.le_of_ble_eq_true rfl, Nat.le_of_ble_eq_true rfl⟩) hK hN hP hD [0] rfl (by decide) 0 8 rfl rfl rfl hl.1 rfl (Nat.le_of_ble_eq_true rfl) dX9_hold_1 ⟨Nat.zero_le _, Nat.zero_le _⟩) hP hD hS hA [0] [1, 2, 3] rfl rfl (by decide) (by decide) [3, 0, 1, 2] (by decide) rfl rfl (fun H locs hP hD hS => ?_)
  refine lv_aload_n hx hb dX9_hold_4 rfl (lv_at hl 0 rfl) ?_
  refine lv_iload_n hx hb dX9_hold_5 rfl (lv_at hl 1 rfl) ?_
  refine lv_iconst (v := 1) hx hb dX9_hold_6 (by decide) ?_
  obtain ⟨⟨r7, vM_7, vM_st_7, vM_undone_7⟩, hc7, hok⟩ := k_bind hok
  try dsimp only at hok
  refine kCi (wc := (wX9_turnsTo cy aM qM vM_1 vM_r vM_st vM_undone)) (wc2 := (wX9_turnsTo cy aM qM vM_7 vM_r vM_st_7 vM_undone_7)) (wr := []) (ws2 := (wX9_hold cy aM qM vM_7 vM_r vM_st_7 vM_undone_7)) (kRunV (As := [.int x1, .int 1]) (rest := []) ⟨hx, hb, hml, hown, ht0⟩ (kX9_turnsTo l D cy _ aM qM vM_1 vM_r vM_st vM_undone x1 (1 : Int32) r7 vM_7 vM_st_7 vM_undone_7 hc7 _ rfl) (cwV 2 ht0 (gV wd1028 wd1029 wd1030 wd744 wd1031) rfl rfl rfl (by decide +kernel) ⟨Nat.le_of_ble_eq_true rfl, Nat.le_of_ble_eq_true rfl⟩) hK hN hP hD [0, 1, 2, 3] rfl (by decide) 0 8 rfl rfl rfl hl.1 rfl (Nat.le_of_ble_eq_true rfl) dX9_hold_7 ⟨Nat.zero_le _, Nat.zero_le _⟩) hP hD hS hA [0, 1, 2, 3] [] rfl rfl (by decide) (by decide) [0, 1, 2, 3] (by decide) rfl rfl (fun H locs hP hD hS => ?_)
  obtain ⟨g10, hok⟩ := gd_some hok
  cases hok
  exact W.zret hx hb hr (isB_nar g10) (fun t ht hW => ⟨⟨_, (), rfl, rfl, by rw [ht]; exact hP, va_K.moved hW.alike hK, hD⟩, hS.F ht⟩) hS.2.2 dX9_hold_10
def wsX9_let : List Cond := .code yX9_let cX9_let 2 (some .boolean) :: W0
abbrev wX9_let (cy : Nat → ClassId) (aM : Nat) (qM : Nat → Nat) (vM : Nat → Int32) (vM_r : Nat → Int32) (vM_st : Nat → Int32) (vM_undone : Nat → Int32) : va_W := [(aM, oX9 vM qM), (qM 15, rI cy 224 vM_r), (qM 17, rI cy 9 vM_st), (qM 18, rI cy 144 vM_undone)]
set_option maxHeartbeats 4000000 in
set_option maxRecDepth 100000 in
theorem kX9_let (l : Launch) (D : va_G) (cy : Nat → ClassId) (sz : Nat) (aM : Nat) (qM : Nat → Nat) (vM : Nat → Int32) (vM_r : Nat → Int32) (vM_st : Nat → Int32) (vM_undone : Nat → Int32) (x1 : Int32) (zr : Int32) (z_vM : Nat → Int32) (z_vM_st : Nat → Int32) (z_vM_undone : Nat → Int32) (hok : fX9_let vM vM_r vM_st vM_undone x1 = some (zr, z_vM, z_vM_st, z_vM_undone)) (A : Nat → Prop) (hAe : va_A (wX9_let cy aM qM vM vM_r vM_st vM_undone) sz = A) : Met l yX9_let wsX9_let ({ frames := 3, cells := 0, slots := 0, locals := 68 } : Room) (kPre D cy [.ref aM, .int x1] (wX9_let cy aM qM vM vM_r vM_st vM_undone) sz) (kQi D cy zr A (wX9_let cy aM qM z_vM vM_r z_vM_st z_vM_undone)) 0 0 A := by
  refine Met.ofW (cc := cX9_let) (maxL := 2) (ret := (some .boolean)) (by decide) rfl ?_
  intro p e s m args below meth c s₁ B hml hv
  obtain ⟨rfl, hsz, hP, hK, hD0, hN⟩ := hv
  have hx := B.exec
  have hb := B.bytes
  have hr := B.returns
  have ht0 : ∀ w ∈ W0, w.before _ s = true := fun w h => atoms_spec (ws := wsX9_let) B.pre w (List.mem_cons_of_mem _ h)
  have hown : s.vm.findClass RX9 = some m.cls := findClass_of_methodNamed B.named
  have hlocks := B.notSynchronized
  subst hsz
  have hD : va_D A (wX9_let cy aM qM vM vM_r vM_st vM_undone) := by rw [← hAe]; exact hD0.self
  have hA : ∀ q : Nat, s.heap.size ≤ q → A q := fun q h => by rw [← hAe]; exact Or.inr h
  have hS : va_S A s.heap s.heap [] := va_S.rf
  have hl := lv_entry ([.ref aM, .int x1]) (n := 2) (Nat.le_of_ble_eq_true rfl)
  rw [lg_entry_eq]
  generalize (lg_sl ([.ref aM, .int x1]) ++ List.replicate (2 - (lg_sl ([.ref aM, .int x1])).length) Slot.unset).toArray = ls at hl ⊢
  have hl : lv_has ls 2 [(0, .ref aM), (1, .int x1)] := hl
  unfold fX9_let at hok
  obtain ⟨H, hH⟩ : ∃ H, H = s.heap := ⟨_, rfl⟩
  obtain ⟨locs, hlc⟩ : ∃ x : List Loc, x = [] := ⟨_, rfl⟩
  have hP : va_P D vwCl (wX9_let cy aM qM vM vM_r vM_st vM_undone) H := by rw [hH]; exact hP
  have hS : va_S A s.heap H locs := by rw [hH, hlc]; exact hS
  rw [show W p l e _ s m _ below meth c s.heap [] = W p l e _ s m _ below meth c H locs from by rw [hH, hlc]]
  refine lv_aload_n hx hb dX9_let_0 rfl (lv_at hl 0 rfl) ?_
  obtain ⟨vM_1, hc1, hok⟩ := k_bind hok
  refine kCv (wc := (wX9_good cy aM qM vM)) (wc2 := (wX9_good cy aM qM vM_1)) (wr := [(qM 15, rI cy 224 vM_r), (qM 17, rI cy 9 vM_st), (qM 18, rI cy 144 vM_undone)]) (ws2 := (wX9_let cy aM qM vM_1 vM_r vM_st vM_undone)) (kRunV (As := []) (rest := []) ⟨hx, hb, hml, hown, ht0⟩ (kX9_good l D cy _ aM qM vM vM_1 hc1 _ rfl) (cwV 0 ht0 (gV wd870 wd871 wd872 wd744 wd873) rfl rfl rfl (by decide +kernel) ⟨Nat.le_of_ble_eq_true rfl, Nat.le_of_ble_eq_true rfl⟩) hK hN hP hD [0] rfl (by decide) 0 8 rfl rfl rfl hl.1 rfl (Nat.le_of_ble_eq_true rfl) dX9_let_1 ⟨Nat.zero_le _, Nat.zero_le _⟩) hP hD hS hA [0] [1, 2, 3] rfl rfl (by decide) (by decide) [3, 0, 1, 2] (by decide) rfl rfl (fun H locs hP hD hS => ?_)
  refine lv_aload_n hx hb dX9_let_4 rfl (lv_at hl 0 rfl) ?_
  refine lv_iload_n hx hb dX9_let_5 rfl (lv_at hl 1 rfl) ?_
  refine lv_iconst (v := 0) hx hb dX9_let_6 (by decide) ?_
  obtain ⟨⟨r7, vM_7, vM_st_7, vM_undone_7⟩, hc7, hok⟩ := k_bind hok
  try dsimp only at hok
  refine kCi (wc := (wX9_turnsTo cy aM qM vM_1 vM_r vM_st vM_undone)) (wc2 := (wX9_turnsTo cy aM qM vM_7 vM_r vM_st_7 vM_undone_7)) (wr := []) (ws2 := (wX9_let cy aM qM vM_7 vM_r vM_st_7 vM_undone_7)) (kRunV (As := [.int x1, .int 0]) (rest := []) ⟨hx, hb, hml, hown, ht0⟩ (kX9_turnsTo l D cy _ aM qM vM_1 vM_r vM_st vM_undone x1 (0 : Int32) r7 vM_7 vM_st_7 vM_undone_7 hc7 _ rfl) (cwV 2 ht0 (gV wd1028 wd1029 wd1030 wd744 wd1031) rfl rfl rfl (by decide +kernel) ⟨Nat.le_of_ble_eq_true rfl, Nat.le_of_ble_eq_true rfl⟩) hK hN hP hD [0, 1, 2, 3] rfl (by decide) 0 8 rfl rfl rfl hl.1 rfl (Nat.le_of_ble_eq_true rfl) dX9_let_7 ⟨Nat.zero_le _, Nat.zero_le _⟩) hP hD hS hA [0, 1, 2, 3] [] rfl rfl (by decide) (by decide) [0, 1, 2, 3] (by decide) rfl rfl (fun H locs hP hD hS => ?_)
  obtain ⟨g10, hok⟩ := gd_some hok
  cases hok
  exact W.zret hx hb hr (isB_nar g10) (fun t ht hW => ⟨⟨_, (), rfl, rfl, by rw [ht]; exact hP, va_K.moved hW.alike hK, hD⟩, hS.F ht⟩) hS.2.2 dX9_let_10
def wsX9_put : List Cond := .code yX9_put cX9_put 4 (some .boolean) :: W0
abbrev wX9_put (cy : Nat → ClassId) (aM : Nat) (qM : Nat → Nat) (vM : Nat → Int32) (vM_r : Nat → Int32) (vM_st : Nat → Int32) (vM_undone : Nat → Int32) : va_W := [(aM, oX9 vM qM), (qM 15, rI cy 224 vM_r), (qM 17, rI cy 9 vM_st), (qM 18, rI cy 144 vM_undone)]
set_option maxHeartbeats 4000000 in
set_option maxRecDepth 100000 in
theorem kX9_put (l : Launch) (D : va_G) (cy : Nat → ClassId) (sz : Nat) (aM : Nat) (qM : Nat → Nat) (vM : Nat → Int32) (vM_r : Nat → Int32) (vM_st : Nat → Int32) (vM_undone : Nat → Int32) (x1 : Int32) (x2 : Int32) (x3 : Int32) (zr : Int32) (z_vM : Nat → Int32) (z_vM_st : Nat → Int32) (z_vM_undone : Nat → Int32) (hok : fX9_put vM vM_r vM_st vM_undone x1 x2 x3 = some (zr, z_vM, z_vM_st, z_vM_undone)) (A : Nat → Prop) (hAe : va_A (wX9_put cy aM qM vM vM_r vM_st vM_undone) sz = A) : Met l yX9_put wsX9_put ({ frames := 3, cells := 0, slots := 0, locals := 65 } : Room) (kPre D cy [.ref aM, .int x1, .int x2, .int x3] (wX9_put cy aM qM vM vM_r vM_st vM_undone) sz) (kQi D cy zr A (wX9_put cy aM qM z_vM vM_r z_vM_st z_vM_undone)) 0 0 A := by
  refine Met.ofW (cc := cX9_put) (maxL := 4) (ret := (some .boolean)) (by decide) rfl ?_
  intro p e s m args below meth c s₁ B hml hv
  obtain ⟨rfl, hsz, hP, hK, hD0, hN⟩ := hv
  have hx := B.exec
  have hb := B.bytes
  have hr := B.returns
  have ht0 : ∀ w ∈ W0, w.before _ s = true := fun w h => atoms_spec (ws := wsX9_put) B.pre w (List.mem_cons_of_mem _ h)
  have hown : s.vm.findClass RX9 = some m.cls := findClass_of_methodNamed B.named
  have hlocks := B.notSynchronized
  subst hsz
  have hD : va_D A (wX9_put cy aM qM vM vM_r vM_st vM_undone) := by rw [← hAe]; exact hD0.self
  have hA : ∀ q : Nat, s.heap.size ≤ q → A q := fun q h => by rw [← hAe]; exact Or.inr h
  have hS : va_S A s.heap s.heap [] := va_S.rf
  have hl := lv_entry ([.ref aM, .int x1, .int x2, .int x3]) (n := 4) (Nat.le_of_ble_eq_true rfl)
  rw [lg_entry_eq]
  generalize (lg_sl ([.ref aM, .int x1, .int x2, .int x3]) ++ List.replicate (4 - (lg_sl ([.ref aM, .int x1, .int x2, .int x3])).length) Slot.unset).toArray = ls at hl ⊢
  have hl : lv_has ls 4 [(0, .ref aM), (1, .int x1), (2, .int x2), (3, .int x3)] := hl
  generalize hQe : MQ below (kQi D cy zr A (wX9_put cy aM qM z_vM vM_r z_vM_st z_vM_undone)) ([.ref aM, .int x1, .int x2, .int x3] : List Value).toArray s 0 0 A = Q
  have J58 : ∀ (vM_58 : Nat → Int32), ∀ (H : Heap) (locs : List Loc) (ls : Array Slot), va_P D vwCl (wX9_put cy aM qM vM_58 vM_r vM_st vM_undone) H → va_D A (wX9_put cy aM qM vM_58 vM_r vM_st vM_undone) → va_S A s.heap H locs → lv_has ls 4 [(0, .ref aM)] → fX9_put_J58 vM_st vM_undone vM_58 = some (zr, z_vM, z_vM_st, z_vM_undone) → W p l e ({ frames := 3, cells := 0, slots := 0, locals := 65 } : Room) s m ([.ref aM, .int x1, .int x2, .int x3] : List Value).toArray below meth c H locs 0 0 Q (F0 m 58 ls []) := by
    intro vM_58 H locs ls hP hD hS hl hok
    unfold fX9_put_J58 at hok
    refine lv_aload_n hx hb dX9_put_58 rfl (lv_at hl 0 rfl) ?_
    refine lv_iconst (v := 5) hx hb dX9_put_59 (by decide) ?_
    obtain ⟨⟨r60, vM_60⟩, hc60, hok⟩ := k_bind hok
    try dsimp only at hok
    refine kCi (wc := (wX9_isNot cy aM qM vM_58)) (wc2 := (wX9_isNot cy aM qM vM_60)) (wr := [(qM 15, rI cy 224 vM_r), (qM 17, rI cy 9 vM_st), (qM 18, rI cy 144 vM_undone)]) (ws2 := (wX9_put cy aM qM vM_60 vM_r vM_st vM_undone)) (kRunV (As := [.int 5]) (rest := []) ⟨hx, hb, hml, hown, ht0⟩ (kX9_isNot l D cy _ aM qM vM_58 (5 : Int32) r60 vM_60 hc60 _ rfl) (cwV 1 ht0 (gV wd1024 wd1025 wd1026 wd744 wd1027) rfl rfl rfl (by decide +kernel) ⟨Nat.le_of_ble_eq_true rfl, Nat.le_of_ble_eq_true rfl⟩) hK hN hP hD [0] rfl (by decide) 0 8 rfl rfl rfl hl.1 rfl (Nat.le_of_ble_eq_true rfl) dX9_put_60 ⟨Nat.zero_le _, Nat.zero_le _⟩) hP hD hS hA [0] [1, 2, 3] rfl rfl (by decide) (by decide) [3, 0, 1, 2] (by decide) rfl rfl (fun H locs hP hD hS => ?_)
    obtain ⟨g63, hok⟩ := gd_some hok
    cases hok
    subst hQe; exact W.zret hx hb hr (isB_nar g63) (fun t ht hW => ⟨⟨_, (), rfl, rfl, by rw [ht]; exact hP, va_K.moved hW.alike hK, hD⟩, hS.F ht⟩) hS.2.2 dX9_put_63
  have J21 : ∀ (vM_21 : Nat → Int32), ∀ (H : Heap) (locs : List Loc) (ls : Array Slot), va_P D vwCl (wX9_put cy aM qM vM_21 vM_r vM_st vM_undone) H → va_D A (wX9_put cy aM qM vM_21 vM_r vM_st vM_undone) → va_S A s.heap H locs → lv_has ls 4 [(0, .ref aM)] → fX9_put_J21 vM_st vM_undone vM_21 = some (zr, z_vM, z_vM_st, z_vM_undone) → W p l e ({ frames := 3, cells := 0, slots := 0, locals := 65 } : Room) s m ([.ref aM, .int x1, .int x2, .int x3] : List Value).toArray below meth c H locs 0 0 Q (F0 m 21 ls []) := by
    intro vM_21 H locs ls hP hD hS hl hok
    unfold fX9_put_J21 at hok
    refine lv_aload_n hx hb dX9_put_21 rfl (lv_at hl 0 rfl) ?_
    refine lv_iconst (v := 1) hx hb dX9_put_22 (by decide) ?_
    obtain ⟨⟨r23, vM_23⟩, hc23, hok⟩ := k_bind hok
    try dsimp only at hok
    refine kCi (wc := (wX9_isNot cy aM qM vM_21)) (wc2 := (wX9_isNot cy aM qM vM_23)) (wr := [(qM 15, rI cy 224 vM_r), (qM 17, rI cy 9 vM_st), (qM 18, rI cy 144 vM_undone)]) (ws2 := (wX9_put cy aM qM vM_23 vM_r vM_st vM_undone)) (kRunV (As := [.int 1]) (rest := []) ⟨hx, hb, hml, hown, ht0⟩ (kX9_isNot l D cy _ aM qM vM_21 (1 : Int32) r23 vM_23 hc23 _ rfl) (cwV 1 ht0 (gV wd1024 wd1025 wd1026 wd744 wd1027) rfl rfl rfl (by decide +kernel) ⟨Nat.le_of_ble_eq_true rfl, Nat.le_of_ble_eq_true rfl⟩) hK hN hP hD [0] rfl (by decide) 0 8 rfl rfl rfl hl.1 rfl (Nat.le_of_ble_eq_true rfl) dX9_put_23 ⟨Nat.zero_le _, Nat.zero_le _⟩) hP hD hS hA [0] [1, 2, 3] rfl rfl (by decide) (by decide) [3, 0, 1, 2] (by decide) rfl rfl (fun H locs hP hD hS => ?_)
    obtain ⟨g26, hok⟩ := gd_some hok
    cases hok
    subst hQe; exact W.zret hx hb hr (isB_nar g26) (fun t ht hW => ⟨⟨_, (), rfl, rfl, by rw [ht]; exact hP, va_K.moved hW.alike hK, hD⟩, hS.F ht⟩) hS.2.2 dX9_put_26
  unfold fX9_put at hok
  obtain ⟨H, hH⟩ : ∃ H, H = s.heap := ⟨_, rfl⟩
  obtain ⟨locs, hlc⟩ : ∃ x : List Loc, x = [] := ⟨_, rfl⟩
  have hP : va_P D vwCl (wX9_put cy aM qM vM vM_r vM_st vM_undone) H := by rw [hH]; exact hP
  have hS : va_S A s.heap H locs := by rw [hH, hlc]; exact hS
  rw [show W p l e _ s m _ below meth c s.heap [] = W p l e _ s m _ below meth c H locs from by rw [hH, hlc]]
  refine lv_aload_n hx hb dX9_put_0 rfl (lv_at hl 0 rfl) ?_
  obtain ⟨vM_1, hc1, hok⟩ := k_bind hok
  refine kCv (wc := (wX9_good cy aM qM vM)) (wc2 := (wX9_good cy aM qM vM_1)) (wr := [(qM 15, rI cy 224 vM_r), (qM 17, rI cy 9 vM_st), (qM 18, rI cy 144 vM_undone)]) (ws2 := (wX9_put cy aM qM vM_1 vM_r vM_st vM_undone)) (kRunV (As := []) (rest := []) ⟨hx, hb, hml, hown, ht0⟩ (kX9_good l D cy _ aM qM vM vM_1 hc1 _ rfl) (cwV 0 ht0 (gV wd870 wd871 wd872 wd744 wd873) rfl rfl rfl (by decide +kernel) ⟨Nat.le_of_ble_eq_true rfl, Nat.le_of_ble_eq_true rfl⟩) hK hN hP hD [0] rfl (by decide) 0 8 rfl rfl rfl hl.1 rfl (Nat.le_of_ble_eq_true rfl) dX9_put_1 ⟨Nat.zero_le _, Nat.zero_le _⟩) hP hD hS hA [0] [1, 2, 3] rfl rfl (by decide) (by decide) [3, 0, 1, 2] (by decide) rfl rfl (fun H locs hP hD hS => ?_)
  refine lv_aload_n hx hb dX9_put_4 rfl (lv_at hl 0 rfl) ?_
  refine lv_iload_n hx hb dX9_put_5 rfl (lv_at hl 1 rfl) ?_
  obtain ⟨r6, hc6, hok⟩ := k_bind hok
  refine kCi (wc := (wX9_isThing cy aM qM vM_1 vM_r)) (wc2 := (wX9_isThing cy aM qM vM_1 vM_r)) (wr := [(qM 17, rI cy 9 vM_st), (qM 18, rI cy 144 vM_undone)]) (ws2 := (wX9_put cy aM qM vM_1 vM_r vM_st vM_undone)) (kRunV (As := [.int x1]) (rest := []) ⟨hx, hb, hml, hown, ht0⟩ (kX9_isThing l D cy _ aM qM vM_1 vM_r x1 r6 hc6 _ rfl) (cwV 1 ht0 (gV wd925 wd926 wd927 wd744 wd928) rfl rfl rfl (by decide +kernel) ⟨Nat.le_of_ble_eq_true rfl, Nat.le_of_ble_eq_true rfl⟩) hK hN hP hD [0, 1] rfl (by decide) 0 8 rfl rfl rfl hl.1 rfl (Nat.le_of_ble_eq_true rfl) dX9_put_6 ⟨Nat.zero_le _, Nat.zero_le _⟩) hP hD hS hA [0, 1] [2, 3] rfl rfl (by decide) (by decide) [2, 3, 0, 1] (by decide) rfl rfl (fun H locs hP hD hS => ?_)
  refine lv_if_eq (tgt := 21) hx hb dX9_put_9 (by decide) (fun c9 => ?_) (fun c9 => ?_)
  · have hok := k_pos c9 hok
    exact J21 vM_1 H locs ls hP hD hS (lv_sub hl [0] rfl) hok
  · have hok := k_neg c9 hok
    refine lv_aload_n hx hb dX9_put_12 rfl (lv_at hl 0 rfl) ?_
    refine lv_iload_n hx hb dX9_put_13 rfl (lv_at hl 2 rfl) ?_
    refine lv_iload_n hx hb dX9_put_14 rfl (lv_at hl 3 rfl) ?_
    obtain ⟨r15, hc15, hok⟩ := k_bind hok
    refine kCi (wc := (wX9_isPlace cy aM qM vM_1 vM_r)) (wc2 := (wX9_isPlace cy aM qM vM_1 vM_r)) (wr := [(qM 17, rI cy 9 vM_st), (qM 18, rI cy 144 vM_undone)]) (ws2 := (wX9_put cy aM qM vM_1 vM_r vM_st vM_undone)) (kRunV (As := [.int x2, .int x3]) (rest := []) ⟨hx, hb, hml, hown, ht0⟩ (kX9_isPlace l D cy _ aM qM vM_1 vM_r x2 x3 r15 hc15 _ rfl) (cwV 2 ht0 (gV wd929 wd930 wd931 wd744 wd932) rfl rfl rfl (by decide +kernel) ⟨Nat.le_of_ble_eq_true rfl, Nat.le_of_ble_eq_true rfl⟩) hK hN hP hD [0, 1] rfl (by decide) 0 8 rfl rfl rfl hl.1 rfl (Nat.le_of_ble_eq_true rfl) dX9_put_15 ⟨Nat.zero_le _, Nat.zero_le _⟩) hP hD hS hA [0, 1] [2, 3] rfl rfl (by decide) (by decide) [2, 3, 0, 1] (by decide) rfl rfl (fun H locs hP hD hS => ?_)
    refine lv_if_ne (tgt := 27) hx hb dX9_put_18 (by decide) (fun c18 => ?_) (fun c18 => ?_)
    · have hok := k_neg c18 hok
      refine lv_aload_n hx hb dX9_put_27 rfl (lv_at hl 0 rfl) ?_
      refine va_get (D := D) (ci := 8) (v := .ref (qM 17)) (C := RX9) (T := TX9) (N := 29) hx hb ht0 niX9 hown hK hP 0 rfl rfl 17 (by decide) (ht0 _ wd858) (fun _ h9 => h9) rfl dX9_put_28 ?_
      refine lv_bipush (v := 7) hx hb dX9_put_31 (by decide) ?_
      obtain ⟨g33, hok⟩ := gd_some hok
      refine va_iald hx hb hK hP 2 0 rfl rfl (okI_in g33) dX9_put_33 ?_
      refine lv_iload_n hx hb dX9_put_34 rfl (lv_at hl 1 rfl) ?_
      obtain ⟨r35, hc35, hok⟩ := k_bind hok
      refine kCi (wc := (wX9_hasBit cy )) (wc2 := (wX9_hasBit cy )) (wr := [(aM, oX9 vM_1 qM), (qM 15, rI cy 224 vM_r), (qM 17, rI cy 9 vM_st), (qM 18, rI cy 144 vM_undone)]) (ws2 := (wX9_put cy aM qM vM_1 vM_r vM_st vM_undone)) (kRunS (As := [.int (vM_st (7 : Int32).toNatClampNeg), .int x1]) (rest := []) ⟨hx, hb, hml, hown, ht0⟩ (kX9_hasBit l D cy _ (vM_st (7 : Int32).toNatClampNeg) x1 r35 hc35 _ rfl) (va_cwS 2 ht0 (gS wd894 wd895 wd744 wd896) rfl rfl rfl (by decide +kernel) ⟨Nat.le_of_ble_eq_true rfl, Nat.le_of_ble_eq_true rfl⟩) hK hN hP hD [] rfl (by decide) rfl hl.1 rfl (Nat.le_of_ble_eq_true rfl) dX9_put_35 ⟨Nat.zero_le _, Nat.zero_le _⟩) hP hD hS hA [] [0, 1, 2, 3] rfl rfl (by decide) (by decide) [0, 1, 2, 3] (by decide) rfl rfl (fun H locs hP hD hS => ?_)
      refine lv_if_ne (tgt := 58) hx hb dX9_put_38 (by decide) (fun c38 => ?_) (fun c38 => ?_)
      · have hok := k_neg c38 hok
        exact J58 vM_1 H locs ls hP hD hS (lv_sub hl [0] rfl) hok
      · have hok := k_pos c38 hok
        refine lv_aload_n hx hb dX9_put_41 rfl (lv_at hl 0 rfl) ?_
        refine lv_aload_n hx hb dX9_put_42 rfl (lv_at hl 0 rfl) ?_
        refine va_get (D := D) (ci := 8) (v := .ref (qM 17)) (C := RX9) (T := TX9) (N := 29) hx hb ht0 niX9 hown hK hP 0 rfl rfl 17 (by decide) (ht0 _ wd858) (fun _ h9 => h9) rfl dX9_put_43 ?_
        refine lv_bipush (v := 9) hx hb dX9_put_46 (by decide) ?_
        refine lv_iload_n hx hb dX9_put_48 rfl (lv_at hl 2 rfl) ?_
        refine lv_imul hx hb dX9_put_49 ?_
        refine lv_iload_n hx hb dX9_put_50 rfl (lv_at hl 3 rfl) ?_
        refine lv_iadd hx hb dX9_put_51 ?_
        obtain ⟨r52, hc52, hok⟩ := k_bind hok
        refine kCi (wc := (wX9_thingAt cy aM (qM 17) qM vM_1 vM_r 9 vM_st)) (wc2 := (wX9_thingAt cy aM (qM 17) qM vM_1 vM_r 9 vM_st)) (wr := [(qM 18, rI cy 144 vM_undone)]) (ws2 := (wX9_put cy aM qM vM_1 vM_r vM_st vM_undone)) (kRunV (As := [.ref (qM 17), .int (((9 : Int32) * x2) + x3)]) (rest := []) ⟨hx, hb, hml, hown, ht0⟩ (kX9_thingAt l D cy _ aM (qM 17) qM vM_1 vM_r 9 vM_st (((9 : Int32) * x2) + x3) r52 hc52 _ rfl) (cwV 2 ht0 (gV wd901 wd902 wd903 wd744 wd904) rfl rfl rfl (by decide +kernel) ⟨Nat.le_of_ble_eq_true rfl, Nat.le_of_ble_eq_true rfl⟩) hK hN hP hD [0, 1, 2] rfl (by decide) 0 8 rfl rfl rfl hl.1 rfl (Nat.le_of_ble_eq_true rfl) dX9_put_52 ⟨Nat.zero_le _, Nat.zero_le _⟩) hP hD hS hA [0, 1, 2] [3] rfl rfl (by decide) (by decide) [1, 2, 3, 0] (by decide) rfl rfl (fun H locs hP hD hS => ?_)
        refine lv_if_lt (tgt := 64) hx hb dX9_put_55 (by decide) (fun c55 => ?_) (fun c55 => ?_)
        · have hok := k_pos c55 hok
          refine lv_aload_n hx hb dX9_put_64 rfl (lv_at hl 0 rfl) ?_
          obtain ⟨⟨vM_65, vM_undone_65⟩, hc65, hok⟩ := k_bind hok
          try dsimp only at hok
          refine kCv (wc := (wX9_note cy aM qM vM_1 vM_undone vM_st)) (wc2 := (wX9_note cy aM qM vM_65 vM_undone_65 vM_st)) (wr := [(qM 15, rI cy 224 vM_r)]) (ws2 := (wX9_put cy aM qM vM_65 vM_r vM_st vM_undone_65)) (kRunV (As := []) (rest := []) ⟨hx, hb, hml, hown, ht0⟩ (kX9_note l D cy _ aM qM vM_1 vM_undone vM_st vM_65 vM_undone_65 hc65 _ rfl) (cwV 0 ht0 (gV wd1020 wd1021 wd1022 wd744 wd1023) rfl rfl rfl (by decide +kernel) ⟨Nat.le_of_ble_eq_true rfl, Nat.le_of_ble_eq_true rfl⟩) hK hN hP hD [0, 3, 2] rfl (by decide) 0 8 rfl rfl rfl hl.1 rfl (Nat.le_of_ble_eq_true rfl) dX9_put_65 ⟨Nat.zero_le _, Nat.zero_le _⟩) hP hD hS hA [0, 3, 2] [1] rfl rfl (by decide) (by decide) [1, 0, 3, 2] (by decide) rfl rfl (fun H locs hP hD hS => ?_)
          refine lv_aload_n hx hb dX9_put_68 rfl (lv_at hl 0 rfl) ?_
          refine va_get (D := D) (ci := 8) (v := .ref (qM 17)) (C := RX9) (T := TX9) (N := 29) hx hb ht0 niX9 hown hK hP 0 rfl rfl 17 (by decide) (ht0 _ wd858) (fun _ h9 => h9) rfl dX9_put_69 ?_
          refine lv_iload_n hx hb dX9_put_72 rfl (lv_at hl 1 rfl) ?_
          refine lv_bipush (v := 9) hx hb dX9_put_73 (by decide) ?_
          refine lv_iload_n hx hb dX9_put_75 rfl (lv_at hl 2 rfl) ?_
          refine lv_imul hx hb dX9_put_76 ?_
          refine lv_iload_n hx hb dX9_put_77 rfl (lv_at hl 3 rfl) ?_
          refine lv_iadd hx hb dX9_put_78 ?_
          obtain ⟨g79, hok⟩ := gd_some hok
          refine va_iast hx hb hK hP hD hS 2 0 rfl rfl (okI_in g79) dX9_put_79 (fun H locs hP hD hS => ?_)
          have hP : va_P D vwCl (wX9_put cy aM qM vM_65 vM_r (upd vM_st x1.toNatClampNeg (((9 : Int32) * x2) + x3)) vM_undone_65) H := hP
          have hD : va_D A (wX9_put cy aM qM vM_65 vM_r (upd vM_st x1.toNatClampNeg (((9 : Int32) * x2) + x3)) vM_undone_65) := hD
          refine lv_iconst (v := 1) hx hb dX9_put_80 (by decide) ?_
          cases hok
          subst hQe; exact W.zret hx hb hr rfl (fun t ht hW => ⟨⟨_, (), rfl, rfl, by rw [ht]; exact hP, va_K.moved hW.alike hK, hD⟩, hS.F ht⟩) hS.2.2 dX9_put_81
        · have hok := k_neg c55 hok
          exact J58 vM_1 H locs ls hP hD hS (lv_sub hl [0] rfl) hok
    · have hok := k_pos c18 hok
      exact J21 vM_1 H locs ls hP hD hS (lv_sub hl [0] rfl) hok
def wsX9_night : List Cond := .code yX9_night cX9_night 1 (some .int) :: W0
abbrev wX9_night (cy : Nat → ClassId) (aM : Nat) (qM : Nat → Nat) (vM : Nat → Int32) (vM_st : Nat → Int32) (vM_undone : Nat → Int32) (vM_r : Nat → Int32) : va_W := [(aM, oX9 vM qM), (qM 17, rI cy 9 vM_st), (qM 18, rI cy 144 vM_undone), (qM 15, rI cy 224 vM_r)]
set_option maxHeartbeats 4000000 in
set_option maxRecDepth 100000 in
theorem kX9_night (l : Launch) (D : va_G) (cy : Nat → ClassId) (sz : Nat) (aM : Nat) (qM : Nat → Nat) (vM : Nat → Int32) (vM_st : Nat → Int32) (vM_undone : Nat → Int32) (vM_r : Nat → Int32) (zr : Int32) (z_vM : Nat → Int32) (z_vM_st : Nat → Int32) (z_vM_undone : Nat → Int32) (hok : fX9_night vM vM_st vM_undone vM_r = some (zr, z_vM, z_vM_st, z_vM_undone)) (A : Nat → Prop) (hAe : va_A (wX9_night cy aM qM vM vM_st vM_undone vM_r) sz = A) : Met l yX9_night wsX9_night ({ frames := 5, cells := 0, slots := 0, locals := 114 } : Room) (kPre D cy [.ref aM] (wX9_night cy aM qM vM vM_st vM_undone vM_r) sz) (kQi D cy zr A (wX9_night cy aM qM z_vM z_vM_st z_vM_undone vM_r)) 0 0 A := by
  refine Met.ofW (cc := cX9_night) (maxL := 1) (ret := (some .int)) (by decide) rfl ?_
  intro p e s m args below meth c s₁ B hml hv
  obtain ⟨rfl, hsz, hP, hK, hD0, hN⟩ := hv
  have hx := B.exec
  have hb := B.bytes
  have hr := B.returns
  have ht0 : ∀ w ∈ W0, w.before _ s = true := fun w h => atoms_spec (ws := wsX9_night) B.pre w (List.mem_cons_of_mem _ h)
  have hown : s.vm.findClass RX9 = some m.cls := findClass_of_methodNamed B.named
  have hlocks := B.notSynchronized
  subst hsz
  have hD : va_D A (wX9_night cy aM qM vM vM_st vM_undone vM_r) := by rw [← hAe]; exact hD0.self
  have hA : ∀ q : Nat, s.heap.size ≤ q → A q := fun q h => by rw [← hAe]; exact Or.inr h
  have hS : va_S A s.heap s.heap [] := va_S.rf
  have hl := lv_entry ([.ref aM]) (n := 1) (Nat.le_of_ble_eq_true rfl)
  rw [lg_entry_eq]
  generalize (lg_sl ([.ref aM]) ++ List.replicate (1 - (lg_sl ([.ref aM])).length) Slot.unset).toArray = ls at hl ⊢
  have hl : lv_has ls 1 [(0, .ref aM)] := hl
  unfold fX9_night at hok
  obtain ⟨H, hH⟩ : ∃ H, H = s.heap := ⟨_, rfl⟩
  obtain ⟨locs, hlc⟩ : ∃ x : List Loc, x = [] := ⟨_, rfl⟩
  have hP : va_P D vwCl (wX9_night cy aM qM vM vM_st vM_undone vM_r) H := by rw [hH]; exact hP
  have hS : va_S A s.heap H locs := by rw [hH, hlc]; exact hS
  rw [show W p l e _ s m _ below meth c s.heap [] = W p l e _ s m _ below meth c H locs from by rw [hH, hlc]]
  refine lv_aload_n hx hb dX9_night_0 rfl (lv_at hl 0 rfl) ?_
  obtain ⟨vM_1, hc1, hok⟩ := k_bind hok
  refine kCv (wc := (wX9_good cy aM qM vM)) (wc2 := (wX9_good cy aM qM vM_1)) (wr := [(qM 17, rI cy 9 vM_st), (qM 18, rI cy 144 vM_undone), (qM 15, rI cy 224 vM_r)]) (ws2 := (wX9_night cy aM qM vM_1 vM_st vM_undone vM_r)) (kRunV (As := []) (rest := []) ⟨hx, hb, hml, hown, ht0⟩ (kX9_good l D cy _ aM qM vM vM_1 hc1 _ rfl) (cwV 0 ht0 (gV wd870 wd871 wd872 wd744 wd873) rfl rfl rfl (by decide +kernel) ⟨Nat.le_of_ble_eq_true rfl, Nat.le_of_ble_eq_true rfl⟩) hK hN hP hD [0] rfl (by decide) 0 8 rfl rfl rfl hl.1 rfl (Nat.le_of_ble_eq_true rfl) dX9_night_1 ⟨Nat.zero_le _, Nat.zero_le _⟩) hP hD hS hA [0] [1, 2, 3] rfl rfl (by decide) (by decide) [3, 0, 1, 2] (by decide) rfl rfl (fun H locs hP hD hS => ?_)
  refine lv_aload_n hx hb dX9_night_4 rfl (lv_at hl 0 rfl) ?_
  refine va_get (D := D) (ci := 8) (v := .int (vM_1 14)) (C := RX9) (T := TX9) (N := 29) hx hb ht0 niX9 hown hK hP 0 rfl rfl 14 (by decide) (ht0 _ wd855) (fun _ h9 => h9) rfl dX9_night_5 ?_
  refine lv_if_ne (tgt := 17) hx hb dX9_night_8 (by decide) (fun c8 => ?_) (fun c8 => ?_)
  · have hok := k_neg c8 hok
    refine lv_aload_n hx hb dX9_night_17 rfl (lv_at hl 0 rfl) ?_
    refine va_get (D := D) (ci := 8) (v := .ref (qM 17)) (C := RX9) (T := TX9) (N := 29) hx hb ht0 niX9 hown hK hP 0 rfl rfl 17 (by decide) (ht0 _ wd858) (fun _ h9 => h9) rfl dX9_night_18 ?_
    refine lv_bipush (v := 8) hx hb dX9_night_21 (by decide) ?_
    obtain ⟨g23, hok⟩ := gd_some hok
    refine va_iald hx hb hK hP 1 0 rfl rfl (okI_in g23) dX9_night_23 ?_
    refine lv_sipush (v := 999) hx hb dX9_night_24 (by decide) ?_
    refine lv_icmp_ne (tgt := 36) hx hb dX9_night_27 (by decide) (fun c27 => ?_) (fun c27 => ?_)
    · have hok := k_neg c27 hok
      refine lv_aload_n hx hb dX9_night_36 rfl (lv_at hl 0 rfl) ?_
      obtain ⟨⟨vM_37, vM_undone_37⟩, hc37, hok⟩ := k_bind hok
      try dsimp only at hok
      refine kCv (wc := (wX9_note cy aM qM vM_1 vM_undone vM_st)) (wc2 := (wX9_note cy aM qM vM_37 vM_undone_37 vM_st)) (wr := [(qM 15, rI cy 224 vM_r)]) (ws2 := (wX9_night cy aM qM vM_37 vM_st vM_undone_37 vM_r)) (kRunV (As := []) (rest := []) ⟨hx, hb, hml, hown, ht0⟩ (kX9_note l D cy _ aM qM vM_1 vM_undone vM_st vM_37 vM_undone_37 hc37 _ rfl) (cwV 0 ht0 (gV wd1020 wd1021 wd1022 wd744 wd1023) rfl rfl rfl (by decide +kernel) ⟨Nat.le_of_ble_eq_true rfl, Nat.le_of_ble_eq_true rfl⟩) hK hN hP hD [0, 2, 1] rfl (by decide) 0 8 rfl rfl rfl hl.1 rfl (Nat.le_of_ble_eq_true rfl) dX9_night_37 ⟨Nat.zero_le _, Nat.zero_le _⟩) hP hD hS hA [0, 2, 1] [3] rfl rfl (by decide) (by decide) [1, 3, 2, 0] (by decide) rfl rfl (fun H locs hP hD hS => ?_)
      refine lv_aload_n hx hb dX9_night_40 rfl (lv_at hl 0 rfl) ?_
      refine lv_aload_n hx hb dX9_night_41 rfl (lv_at hl 0 rfl) ?_
      refine va_get (D := D) (ci := 8) (v := .ref (qM 17)) (C := RX9) (T := TX9) (N := 29) hx hb ht0 niX9 hown hK hP 0 rfl rfl 17 (by decide) (ht0 _ wd858) (fun _ h9 => h9) rfl dX9_night_42 ?_
      obtain ⟨⟨r45, p1_45⟩, hc45, hok⟩ := k_bind hok
      try dsimp only at hok
      refine kCi (wc := (wX9_nightOf cy aM (qM 17) qM vM_37 vM_r 9 vM_st)) (wc2 := (wX9_nightOf cy aM (qM 17) qM vM_37 vM_r 9 p1_45)) (wr := [(qM 18, rI cy 144 vM_undone_37)]) (ws2 := (wX9_night cy aM qM vM_37 p1_45 vM_undone_37 vM_r)) (kRunV (As := [.ref (qM 17)]) (rest := []) ⟨hx, hb, hml, hown, ht0⟩ (kX9_nightOf l D cy _ aM (qM 17) qM vM_37 vM_r 9 vM_st r45 p1_45 hc45 _ rfl) (cwV 1 ht0 (gV wd940 wd941 wd942 wd744 wd943) rfl rfl rfl (by decide +kernel) ⟨Nat.le_of_ble_eq_true rfl, Nat.le_of_ble_eq_true rfl⟩) hK hN hP hD [0, 3, 1] rfl (by decide) 0 8 rfl rfl rfl hl.1 rfl (Nat.le_of_ble_eq_true rfl) dX9_night_45 ⟨Nat.zero_le _, Nat.zero_le _⟩) hP hD hS hA [0, 3, 1] [2] rfl rfl (by decide) (by decide) [1, 3, 0, 2] (by decide) rfl rfl (fun H locs hP hD hS => ?_)
      cases hok
      exact W.iret hx hb hr (fun t ht hW => ⟨⟨_, (), rfl, rfl, by rw [ht]; exact hP, va_K.moved hW.alike hK, hD⟩, hS.F ht⟩) hS.2.2 dX9_night_48
    · have hok := k_pos c27 hok
      refine lv_aload_n hx hb dX9_night_30 rfl (lv_at hl 0 rfl) ?_
      refine lv_iconst (v := 3) hx hb dX9_night_31 (by decide) ?_
      obtain ⟨⟨r32, vM_32⟩, hc32, hok⟩ := k_bind hok
      try dsimp only at hok
      refine kCi (wc := (wX9_no cy aM qM vM_1)) (wc2 := (wX9_no cy aM qM vM_32)) (wr := [(qM 17, rI cy 9 vM_st), (qM 18, rI cy 144 vM_undone), (qM 15, rI cy 224 vM_r)]) (ws2 := (wX9_night cy aM qM vM_32 vM_st vM_undone vM_r)) (kRunV (As := [.int 3]) (rest := []) ⟨hx, hb, hml, hown, ht0⟩ (kX9_no l D cy _ aM qM vM_1 (3 : Int32) r32 vM_32 hc32 _ rfl) (cwV 1 ht0 (gV wd862 wd863 wd864 wd744 wd865) rfl rfl rfl (by decide +kernel) ⟨Nat.le_of_ble_eq_true rfl, Nat.le_of_ble_eq_true rfl⟩) hK hN hP hD [0] rfl (by decide) 0 8 rfl rfl rfl hl.1 rfl (Nat.le_of_ble_eq_true rfl) dX9_night_32 ⟨Nat.zero_le _, Nat.zero_le _⟩) hP hD hS hA [0] [1, 2, 3] rfl rfl (by decide) (by decide) [3, 0, 1, 2] (by decide) rfl rfl (fun H locs hP hD hS => ?_)
      cases hok
      exact W.iret hx hb hr (fun t ht hW => ⟨⟨_, (), rfl, rfl, by rw [ht]; exact hP, va_K.moved hW.alike hK, hD⟩, hS.F ht⟩) hS.2.2 dX9_night_35
  · have hok := k_pos c8 hok
    refine lv_aload_n hx hb dX9_night_11 rfl (lv_at hl 0 rfl) ?_
    refine lv_iconst (v := 1) hx hb dX9_night_12 (by decide) ?_
    obtain ⟨⟨r13, vM_13⟩, hc13, hok⟩ := k_bind hok
    try dsimp only at hok
    refine kCi (wc := (wX9_no cy aM qM vM_1)) (wc2 := (wX9_no cy aM qM vM_13)) (wr := [(qM 17, rI cy 9 vM_st), (qM 18, rI cy 144 vM_undone), (qM 15, rI cy 224 vM_r)]) (ws2 := (wX9_night cy aM qM vM_13 vM_st vM_undone vM_r)) (kRunV (As := [.int 1]) (rest := []) ⟨hx, hb, hml, hown, ht0⟩ (kX9_no l D cy _ aM qM vM_1 (1 : Int32) r13 vM_13 hc13 _ rfl) (cwV 1 ht0 (gV wd862 wd863 wd864 wd744 wd865) rfl rfl rfl (by decide +kernel) ⟨Nat.le_of_ble_eq_true rfl, Nat.le_of_ble_eq_true rfl⟩) hK hN hP hD [0] rfl (by decide) 0 8 rfl rfl rfl hl.1 rfl (Nat.le_of_ble_eq_true rfl) dX9_night_13 ⟨Nat.zero_le _, Nat.zero_le _⟩) hP hD hS hA [0] [1, 2, 3] rfl rfl (by decide) (by decide) [3, 0, 1, 2] (by decide) rfl rfl (fun H locs hP hD hS => ?_)
    cases hok
    exact W.iret hx hb hr (fun t ht hW => ⟨⟨_, (), rfl, rfl, by rw [ht]; exact hP, va_K.moved hW.alike hK, hD⟩, hS.F ht⟩) hS.2.2 dX9_night_16
def wsX9_undo : List Cond := .code yX9_undo cX9_undo 1 (some .boolean) :: W0
abbrev wX9_undo (cy : Nat → ClassId) (aM : Nat) (qM : Nat → Nat) (vM : Nat → Int32) (vM_undone : Nat → Int32) (vM_st : Nat → Int32) : va_W := [(aM, oX9 vM qM), (qM 18, rI cy 144 vM_undone), (qM 17, rI cy 9 vM_st)]
set_option maxHeartbeats 4000000 in
set_option maxRecDepth 100000 in
theorem kX9_undo (l : Launch) (D : va_G) (cy : Nat → ClassId) (sz : Nat) (aM : Nat) (qM : Nat → Nat) (vM : Nat → Int32) (vM_undone : Nat → Int32) (vM_st : Nat → Int32) (zr : Int32) (z_vM : Nat → Int32) (z_vM_st : Nat → Int32) (hok : fX9_undo vM vM_undone vM_st = some (zr, z_vM, z_vM_st)) (A : Nat → Prop) (hAe : va_A (wX9_undo cy aM qM vM vM_undone vM_st) sz = A) : Met l yX9_undo wsX9_undo ({ frames := 1, cells := 0, slots := 0, locals := 25 } : Room) (kPre D cy [.ref aM] (wX9_undo cy aM qM vM vM_undone vM_st) sz) (kQi D cy zr A (wX9_undo cy aM qM z_vM vM_undone z_vM_st)) 0 0 A := by
  refine Met.ofW (cc := cX9_undo) (maxL := 1) (ret := (some .boolean)) (by decide) rfl ?_
  intro p e s m args below meth c s₁ B hml hv
  obtain ⟨rfl, hsz, hP, hK, hD0, hN⟩ := hv
  have hx := B.exec
  have hb := B.bytes
  have hr := B.returns
  have ht0 : ∀ w ∈ W0, w.before _ s = true := fun w h => atoms_spec (ws := wsX9_undo) B.pre w (List.mem_cons_of_mem _ h)
  have hown : s.vm.findClass RX9 = some m.cls := findClass_of_methodNamed B.named
  have hlocks := B.notSynchronized
  subst hsz
  have hD : va_D A (wX9_undo cy aM qM vM vM_undone vM_st) := by rw [← hAe]; exact hD0.self
  have hA : ∀ q : Nat, s.heap.size ≤ q → A q := fun q h => by rw [← hAe]; exact Or.inr h
  have hS : va_S A s.heap s.heap [] := va_S.rf
  have hl := lv_entry ([.ref aM]) (n := 1) (Nat.le_of_ble_eq_true rfl)
  rw [lg_entry_eq]
  generalize (lg_sl ([.ref aM]) ++ List.replicate (1 - (lg_sl ([.ref aM])).length) Slot.unset).toArray = ls at hl ⊢
  have hl : lv_has ls 1 [(0, .ref aM)] := hl
  unfold fX9_undo at hok
  obtain ⟨H, hH⟩ : ∃ H, H = s.heap := ⟨_, rfl⟩
  obtain ⟨locs, hlc⟩ : ∃ x : List Loc, x = [] := ⟨_, rfl⟩
  have hP : va_P D vwCl (wX9_undo cy aM qM vM vM_undone vM_st) H := by rw [hH]; exact hP
  have hS : va_S A s.heap H locs := by rw [hH, hlc]; exact hS
  rw [show W p l e _ s m _ below meth c s.heap [] = W p l e _ s m _ below meth c H locs from by rw [hH, hlc]]
  refine lv_aload_n hx hb dX9_undo_0 rfl (lv_at hl 0 rfl) ?_
  obtain ⟨vM_1, hc1, hok⟩ := k_bind hok
  refine kCv (wc := (wX9_good cy aM qM vM)) (wc2 := (wX9_good cy aM qM vM_1)) (wr := [(qM 18, rI cy 144 vM_undone), (qM 17, rI cy 9 vM_st)]) (ws2 := (wX9_undo cy aM qM vM_1 vM_undone vM_st)) (kRunV (As := []) (rest := []) ⟨hx, hb, hml, hown, ht0⟩ (kX9_good l D cy _ aM qM vM vM_1 hc1 _ rfl) (cwV 0 ht0 (gV wd870 wd871 wd872 wd744 wd873) rfl rfl rfl (by decide +kernel) ⟨Nat.le_of_ble_eq_true rfl, Nat.le_of_ble_eq_true rfl⟩) hK hN hP hD [0] rfl (by decide) 0 8 rfl rfl rfl hl.1 rfl (Nat.le_of_ble_eq_true rfl) dX9_undo_1 ⟨Nat.zero_le _, Nat.zero_le _⟩) hP hD hS hA [0] [1, 2] rfl rfl (by decide) (by decide) [2, 0, 1] (by decide) rfl rfl (fun H locs hP hD hS => ?_)
  refine lv_aload_n hx hb dX9_undo_4 rfl (lv_at hl 0 rfl) ?_
  refine va_get (D := D) (ci := 8) (v := .int (vM_1 20)) (C := RX9) (T := TX9) (N := 29) hx hb ht0 niX9 hown hK hP 0 rfl rfl 20 (by decide) (ht0 _ wd856) (fun _ h9 => h9) rfl dX9_undo_5 ?_
  refine lv_if_ne (tgt := 18) hx hb dX9_undo_8 (by decide) (fun c8 => ?_) (fun c8 => ?_)
  · have hok := k_neg c8 hok
    refine lv_aload_n hx hb dX9_undo_18 rfl (lv_at hl 0 rfl) ?_
    refine lv_dup hx hb dX9_undo_19 rfl ?_
    refine va_get (D := D) (ci := 8) (v := .int (vM_1 20)) (C := RX9) (T := TX9) (N := 29) hx hb ht0 niX9 hown hK hP 0 rfl rfl 20 (by decide) (ht0 _ wd856) (fun _ h9 => h9) rfl dX9_undo_20 ?_
    refine lv_iconst (v := 1) hx hb dX9_undo_23 (by decide) ?_
    refine lv_isub hx hb dX9_undo_24 ?_
    refine va_put (D := D) (ci := 8) (v := .int ((vM_1 20) - (1 : Int32))) (ty := .int) (C := RX9) (T := TX9) (N := 29) hx hb ht0 niX9 tyX9 tyX9_ok nmX9 hown hK hP hD hS 0 rfl rfl 20 (by decide) (ht0 _ wd856) (fun _ h9 => h9) rfl (by decide +kernel) rfl rfl (Nat.le_of_ble_eq_true rfl) dX9_undo_25 (fun H locs hP hD hS => ?_)
    have hP : va_P D vwCl (wX9_undo cy aM qM (upd vM_1 20 ((vM_1 20) - (1 : Int32))) vM_undone vM_st) H := hP
    have hD : va_D A (wX9_undo cy aM qM (upd vM_1 20 ((vM_1 20) - (1 : Int32))) vM_undone vM_st) := hD
    refine lv_aload_n hx hb dX9_undo_28 rfl (lv_at hl 0 rfl) ?_
    refine va_get (D := D) (ci := 8) (v := .ref (qM 18)) (C := RX9) (T := TX9) (N := 29) hx hb ht0 niX9 hown hK hP 0 rfl rfl 18 (by decide) (ht0 _ wd1019) (fun _ h9 => h9) rfl dX9_undo_29 ?_
    refine lv_bipush (v := 9) hx hb dX9_undo_32 (by decide) ?_
    refine lv_aload_n hx hb dX9_undo_34 rfl (lv_at hl 0 rfl) ?_
    refine va_get (D := D) (ci := 8) (v := .int ((vM_1 20) - (1 : Int32))) (C := RX9) (T := TX9) (N := 29) hx hb ht0 niX9 hown hK hP 0 rfl rfl 20 (by decide) (ht0 _ wd856) (fun _ h9 => h9) rfl dX9_undo_35 ?_
    refine lv_imul hx hb dX9_undo_38 ?_
    refine lv_aload_n hx hb dX9_undo_39 rfl (lv_at hl 0 rfl) ?_
    refine va_get (D := D) (ci := 8) (v := .ref (qM 17)) (C := RX9) (T := TX9) (N := 29) hx hb ht0 niX9 hown hK hP 0 rfl rfl 17 (by decide) (ht0 _ wd858) (fun _ h9 => h9) rfl dX9_undo_40 ?_
    refine lv_iconst (v := 0) hx hb dX9_undo_43 (by decide) ?_
    refine lv_bipush (v := 9) hx hb dX9_undo_44 (by decide) ?_
    obtain ⟨p2_46, hc46, hok⟩ := k_bind hok
    refine kCv (wc := (wX9_copy cy (qM 18) (qM 17) 144 vM_undone 9 vM_st)) (wc2 := (wX9_copy cy (qM 18) (qM 17) 144 vM_undone 9 p2_46)) (wr := [(aM, oX9 (upd vM_1 20 ((vM_1 20) - (1 : Int32))) qM)]) (ws2 := (wX9_undo cy aM qM (upd vM_1 20 ((vM_1 20) - (1 : Int32))) vM_undone p2_46)) (kRunS (As := [.ref (qM 18), .int ((9 : Int32) * ((vM_1 20) - (1 : Int32))), .ref (qM 17), .int 0, .int 9]) (rest := []) ⟨hx, hb, hml, hown, ht0⟩ (kX9_copy l D cy _ (qM 18) (qM 17) 144 vM_undone 9 vM_st ((9 : Int32) * ((vM_1 20) - (1 : Int32))) (0 : Int32) (9 : Int32) p2_46 hc46 _ rfl) (va_cwS 5 ht0 (gS wd859 wd860 wd744 wd861) rfl rfl rfl (by decide +kernel) ⟨Nat.le_of_ble_eq_true rfl, Nat.le_of_ble_eq_true rfl⟩) hK hN hP hD [1, 2] rfl (by decide) rfl hl.1 rfl (Nat.le_of_ble_eq_true rfl) dX9_undo_46 ⟨Nat.zero_le _, Nat.zero_le _⟩) hP hD hS hA [1, 2] [0] rfl rfl (by decide) (by decide) [0, 1, 2] (by decide) rfl rfl (fun H locs hP hD hS => ?_)
    refine lv_iconst (v := 1) hx hb dX9_undo_49 (by decide) ?_
    cases hok
    exact W.zret hx hb hr rfl (fun t ht hW => ⟨⟨_, (), rfl, rfl, by rw [ht]; exact hP, va_K.moved hW.alike hK, hD⟩, hS.F ht⟩) hS.2.2 dX9_undo_50
  · have hok := k_pos c8 hok
    refine lv_aload_n hx hb dX9_undo_11 rfl (lv_at hl 0 rfl) ?_
    refine lv_bipush (v := 6) hx hb dX9_undo_12 (by decide) ?_
    obtain ⟨⟨r14, vM_14⟩, hc14, hok⟩ := k_bind hok
    try dsimp only at hok
    refine kCi (wc := (wX9_isNot cy aM qM vM_1)) (wc2 := (wX9_isNot cy aM qM vM_14)) (wr := [(qM 18, rI cy 144 vM_undone), (qM 17, rI cy 9 vM_st)]) (ws2 := (wX9_undo cy aM qM vM_14 vM_undone vM_st)) (kRunV (As := [.int 6]) (rest := []) ⟨hx, hb, hml, hown, ht0⟩ (kX9_isNot l D cy _ aM qM vM_1 (6 : Int32) r14 vM_14 hc14 _ rfl) (cwV 1 ht0 (gV wd1024 wd1025 wd1026 wd744 wd1027) rfl rfl rfl (by decide +kernel) ⟨Nat.le_of_ble_eq_true rfl, Nat.le_of_ble_eq_true rfl⟩) hK hN hP hD [0] rfl (by decide) 0 8 rfl rfl rfl hl.1 rfl (Nat.le_of_ble_eq_true rfl) dX9_undo_14 ⟨Nat.zero_le _, Nat.zero_le _⟩) hP hD hS hA [0] [1, 2] rfl rfl (by decide) (by decide) [2, 0, 1] (by decide) rfl rfl (fun H locs hP hD hS => ?_)
    obtain ⟨g17, hok⟩ := gd_some hok
    cases hok
    exact W.zret hx hb hr (isB_nar g17) (fun t ht hW => ⟨⟨_, (), rfl, rfl, by rw [ht]; exact hP, va_K.moved hW.alike hK, hD⟩, hS.F ht⟩) hS.2.2 dX9_undo_17
def wsX9_image : List Cond := .code yX9_image cX9_image 1 (some .int) :: W0
abbrev wX9_image (cy : Nat → ClassId) (aM : Nat) (qM : Nat → Nat) (vM : Nat → Int32) (vM_st : Nat → Int32) (vM_kept : Nat → Int32) : va_W := [(aM, oX9 vM qM), (qM 17, rI cy 9 vM_st), (qM 19, rI cy 27 vM_kept)]
set_option maxHeartbeats 4000000 in
set_option maxRecDepth 100000 in
theorem kX9_image (l : Launch) (D : va_G) (cy : Nat → ClassId) (sz : Nat) (aM : Nat) (qM : Nat → Nat) (vM : Nat → Int32) (vM_st : Nat → Int32) (vM_kept : Nat → Int32) (zr : Int32) (z_vM : Nat → Int32) (z_vM_kept : Nat → Int32) (hok : fX9_image vM vM_st vM_kept = some (zr, z_vM, z_vM_kept)) (A : Nat → Prop) (hAe : va_A (wX9_image cy aM qM vM vM_st vM_kept) sz = A) : Met l yX9_image wsX9_image ({ frames := 1, cells := 0, slots := 0, locals := 25 } : Room) (kPre D cy [.ref aM] (wX9_image cy aM qM vM vM_st vM_kept) sz) (kQi D cy zr A (wX9_image cy aM qM z_vM vM_st z_vM_kept)) 0 0 A := by
  refine Met.ofW (cc := cX9_image) (maxL := 1) (ret := (some .int)) (by decide) rfl ?_
  intro p e s m args below meth c s₁ B hml hv
  obtain ⟨rfl, hsz, hP, hK, hD0, hN⟩ := hv
  have hx := B.exec
  have hb := B.bytes
  have hr := B.returns
  have ht0 : ∀ w ∈ W0, w.before _ s = true := fun w h => atoms_spec (ws := wsX9_image) B.pre w (List.mem_cons_of_mem _ h)
  have hown : s.vm.findClass RX9 = some m.cls := findClass_of_methodNamed B.named
  have hlocks := B.notSynchronized
  subst hsz
  have hD : va_D A (wX9_image cy aM qM vM vM_st vM_kept) := by rw [← hAe]; exact hD0.self
  have hA : ∀ q : Nat, s.heap.size ≤ q → A q := fun q h => by rw [← hAe]; exact Or.inr h
  have hS : va_S A s.heap s.heap [] := va_S.rf
  have hl := lv_entry ([.ref aM]) (n := 1) (Nat.le_of_ble_eq_true rfl)
  rw [lg_entry_eq]
  generalize (lg_sl ([.ref aM]) ++ List.replicate (1 - (lg_sl ([.ref aM])).length) Slot.unset).toArray = ls at hl ⊢
  have hl : lv_has ls 1 [(0, .ref aM)] := hl
  unfold fX9_image at hok
  obtain ⟨H, hH⟩ : ∃ H, H = s.heap := ⟨_, rfl⟩
  obtain ⟨locs, hlc⟩ : ∃ x : List Loc, x = [] := ⟨_, rfl⟩
  have hP : va_P D vwCl (wX9_image cy aM qM vM vM_st vM_kept) H := by rw [hH]; exact hP
  have hS : va_S A s.heap H locs := by rw [hH, hlc]; exact hS
  rw [show W p l e _ s m _ below meth c s.heap [] = W p l e _ s m _ below meth c H locs from by rw [hH, hlc]]
  refine lv_aload_n hx hb dX9_image_0 rfl (lv_at hl 0 rfl) ?_
  obtain ⟨vM_1, hc1, hok⟩ := k_bind hok
  refine kCv (wc := (wX9_good cy aM qM vM)) (wc2 := (wX9_good cy aM qM vM_1)) (wr := [(qM 17, rI cy 9 vM_st), (qM 19, rI cy 27 vM_kept)]) (ws2 := (wX9_image cy aM qM vM_1 vM_st vM_kept)) (kRunV (As := []) (rest := []) ⟨hx, hb, hml, hown, ht0⟩ (kX9_good l D cy _ aM qM vM vM_1 hc1 _ rfl) (cwV 0 ht0 (gV wd870 wd871 wd872 wd744 wd873) rfl rfl rfl (by decide +kernel) ⟨Nat.le_of_ble_eq_true rfl, Nat.le_of_ble_eq_true rfl⟩) hK hN hP hD [0] rfl (by decide) 0 8 rfl rfl rfl hl.1 rfl (Nat.le_of_ble_eq_true rfl) dX9_image_1 ⟨Nat.zero_le _, Nat.zero_le _⟩) hP hD hS hA [0] [1, 2] rfl rfl (by decide) (by decide) [2, 0, 1] (by decide) rfl rfl (fun H locs hP hD hS => ?_)
  refine lv_aload_n hx hb dX9_image_4 rfl (lv_at hl 0 rfl) ?_
  refine va_get (D := D) (ci := 8) (v := .int (vM_1 14)) (C := RX9) (T := TX9) (N := 29) hx hb ht0 niX9 hown hK hP 0 rfl rfl 14 (by decide) (ht0 _ wd855) (fun _ h9 => h9) rfl dX9_image_5 ?_
  refine lv_if_ne (tgt := 17) hx hb dX9_image_8 (by decide) (fun c8 => ?_) (fun c8 => ?_)
  · have hok := k_neg c8 hok
    refine lv_aload_n hx hb dX9_image_17 rfl (lv_at hl 0 rfl) ?_
    refine va_get (D := D) (ci := 8) (v := .int (vM_1 21)) (C := RX9) (T := TX9) (N := 29) hx hb ht0 niX9 hown hK hP 0 rfl rfl 21 (by decide) (ht0 _ wd857) (fun _ h9 => h9) rfl dX9_image_18 ?_
    refine lv_iconst (v := 3) hx hb dX9_image_21 (by decide) ?_
    refine lv_icmp_ne (tgt := 31) hx hb dX9_image_22 (by decide) (fun c22 => ?_) (fun c22 => ?_)
    · have hok := k_neg c22 hok
      refine lv_aload_n hx hb dX9_image_31 rfl (lv_at hl 0 rfl) ?_
      refine va_get (D := D) (ci := 8) (v := .ref (qM 17)) (C := RX9) (T := TX9) (N := 29) hx hb ht0 niX9 hown hK hP 0 rfl rfl 17 (by decide) (ht0 _ wd858) (fun _ h9 => h9) rfl dX9_image_32 ?_
      refine lv_iconst (v := 0) hx hb dX9_image_35 (by decide) ?_
      refine lv_aload_n hx hb dX9_image_36 rfl (lv_at hl 0 rfl) ?_
      refine va_get (D := D) (ci := 8) (v := .ref (qM 19)) (C := RX9) (T := TX9) (N := 29) hx hb ht0 niX9 hown hK hP 0 rfl rfl 19 (by decide) (ht0 _ wd1032) (fun _ h9 => h9) rfl dX9_image_37 ?_
      refine lv_bipush (v := 9) hx hb dX9_image_40 (by decide) ?_
      refine lv_aload_n hx hb dX9_image_42 rfl (lv_at hl 0 rfl) ?_
      refine va_get (D := D) (ci := 8) (v := .int (vM_1 21)) (C := RX9) (T := TX9) (N := 29) hx hb ht0 niX9 hown hK hP 0 rfl rfl 21 (by decide) (ht0 _ wd857) (fun _ h9 => h9) rfl dX9_image_43 ?_
      refine lv_imul hx hb dX9_image_46 ?_
      refine lv_bipush (v := 9) hx hb dX9_image_47 (by decide) ?_
      obtain ⟨p2_49, hc49, hok⟩ := k_bind hok
      refine kCv (wc := (wX9_copy cy (qM 17) (qM 19) 9 vM_st 27 vM_kept)) (wc2 := (wX9_copy cy (qM 17) (qM 19) 9 vM_st 27 p2_49)) (wr := [(aM, oX9 vM_1 qM)]) (ws2 := (wX9_image cy aM qM vM_1 vM_st p2_49)) (kRunS (As := [.ref (qM 17), .int 0, .ref (qM 19), .int ((9 : Int32) * (vM_1 21)), .int 9]) (rest := []) ⟨hx, hb, hml, hown, ht0⟩ (kX9_copy l D cy _ (qM 17) (qM 19) 9 vM_st 27 vM_kept (0 : Int32) ((9 : Int32) * (vM_1 21)) (9 : Int32) p2_49 hc49 _ rfl) (va_cwS 5 ht0 (gS wd859 wd860 wd744 wd861) rfl rfl rfl (by decide +kernel) ⟨Nat.le_of_ble_eq_true rfl, Nat.le_of_ble_eq_true rfl⟩) hK hN hP hD [1, 2] rfl (by decide) rfl hl.1 rfl (Nat.le_of_ble_eq_true rfl) dX9_image_49 ⟨Nat.zero_le _, Nat.zero_le _⟩) hP hD hS hA [1, 2] [0] rfl rfl (by decide) (by decide) [0, 1, 2] (by decide) rfl rfl (fun H locs hP hD hS => ?_)
      refine lv_aload_n hx hb dX9_image_52 rfl (lv_at hl 0 rfl) ?_
      refine lv_dup hx hb dX9_image_53 rfl ?_
      refine va_get (D := D) (ci := 8) (v := .int (vM_1 21)) (C := RX9) (T := TX9) (N := 29) hx hb ht0 niX9 hown hK hP 0 rfl rfl 21 (by decide) (ht0 _ wd857) (fun _ h9 => h9) rfl dX9_image_54 ?_
      refine lv_iconst (v := 1) hx hb dX9_image_57 (by decide) ?_
      refine lv_iadd hx hb dX9_image_58 ?_
      refine va_put (D := D) (ci := 8) (v := .int ((vM_1 21) + (1 : Int32))) (ty := .int) (C := RX9) (T := TX9) (N := 29) hx hb ht0 niX9 tyX9 tyX9_ok nmX9 hown hK hP hD hS 0 rfl rfl 21 (by decide) (ht0 _ wd857) (fun _ h9 => h9) rfl (by decide +kernel) rfl rfl (Nat.le_of_ble_eq_true rfl) dX9_image_59 (fun H locs hP hD hS => ?_)
      have hP : va_P D vwCl (wX9_image cy aM qM (upd vM_1 21 ((vM_1 21) + (1 : Int32))) vM_st p2_49) H := hP
      have hD : va_D A (wX9_image cy aM qM (upd vM_1 21 ((vM_1 21) + (1 : Int32))) vM_st p2_49) := hD
      refine lv_aload_n hx hb dX9_image_62 rfl (lv_at hl 0 rfl) ?_
      refine va_get (D := D) (ci := 8) (v := .int ((vM_1 21) + (1 : Int32))) (C := RX9) (T := TX9) (N := 29) hx hb ht0 niX9 hown hK hP 0 rfl rfl 21 (by decide) (ht0 _ wd857) (fun _ h9 => h9) rfl dX9_image_63 ?_
      refine lv_iconst (v := 1) hx hb dX9_image_66 (by decide) ?_
      refine lv_isub hx hb dX9_image_67 ?_
      cases hok
      exact W.iret hx hb hr (fun t ht hW => ⟨⟨_, (), rfl, rfl, by rw [ht]; exact hP, va_K.moved hW.alike hK, hD⟩, hS.F ht⟩) hS.2.2 dX9_image_68
    · have hok := k_pos c22 hok
      refine lv_aload_n hx hb dX9_image_25 rfl (lv_at hl 0 rfl) ?_
      refine lv_iconst (v := 3) hx hb dX9_image_26 (by decide) ?_
      obtain ⟨⟨r27, vM_27⟩, hc27, hok⟩ := k_bind hok
      try dsimp only at hok
      refine kCi (wc := (wX9_no cy aM qM vM_1)) (wc2 := (wX9_no cy aM qM vM_27)) (wr := [(qM 17, rI cy 9 vM_st), (qM 19, rI cy 27 vM_kept)]) (ws2 := (wX9_image cy aM qM vM_27 vM_st vM_kept)) (kRunV (As := [.int 3]) (rest := []) ⟨hx, hb, hml, hown, ht0⟩ (kX9_no l D cy _ aM qM vM_1 (3 : Int32) r27 vM_27 hc27 _ rfl) (cwV 1 ht0 (gV wd862 wd863 wd864 wd744 wd865) rfl rfl rfl (by decide +kernel) ⟨Nat.le_of_ble_eq_true rfl, Nat.le_of_ble_eq_true rfl⟩) hK hN hP hD [0] rfl (by decide) 0 8 rfl rfl rfl hl.1 rfl (Nat.le_of_ble_eq_true rfl) dX9_image_27 ⟨Nat.zero_le _, Nat.zero_le _⟩) hP hD hS hA [0] [1, 2] rfl rfl (by decide) (by decide) [2, 0, 1] (by decide) rfl rfl (fun H locs hP hD hS => ?_)
      cases hok
      exact W.iret hx hb hr (fun t ht hW => ⟨⟨_, (), rfl, rfl, by rw [ht]; exact hP, va_K.moved hW.alike hK, hD⟩, hS.F ht⟩) hS.2.2 dX9_image_30
  · have hok := k_pos c8 hok
    refine lv_aload_n hx hb dX9_image_11 rfl (lv_at hl 0 rfl) ?_
    refine lv_iconst (v := 1) hx hb dX9_image_12 (by decide) ?_
    obtain ⟨⟨r13, vM_13⟩, hc13, hok⟩ := k_bind hok
    try dsimp only at hok
    refine kCi (wc := (wX9_no cy aM qM vM_1)) (wc2 := (wX9_no cy aM qM vM_13)) (wr := [(qM 17, rI cy 9 vM_st), (qM 19, rI cy 27 vM_kept)]) (ws2 := (wX9_image cy aM qM vM_13 vM_st vM_kept)) (kRunV (As := [.int 1]) (rest := []) ⟨hx, hb, hml, hown, ht0⟩ (kX9_no l D cy _ aM qM vM_1 (1 : Int32) r13 vM_13 hc13 _ rfl) (cwV 1 ht0 (gV wd862 wd863 wd864 wd744 wd865) rfl rfl rfl (by decide +kernel) ⟨Nat.le_of_ble_eq_true rfl, Nat.le_of_ble_eq_true rfl⟩) hK hN hP hD [0] rfl (by decide) 0 8 rfl rfl rfl hl.1 rfl (Nat.le_of_ble_eq_true rfl) dX9_image_13 ⟨Nat.zero_le _, Nat.zero_le _⟩) hP hD hS hA [0] [1, 2] rfl rfl (by decide) (by decide) [2, 0, 1] (by decide) rfl rfl (fun H locs hP hD hS => ?_)
    cases hok
    exact W.iret hx hb hr (fun t ht hW => ⟨⟨_, (), rfl, rfl, by rw [ht]; exact hP, va_K.moved hW.alike hK, hD⟩, hS.F ht⟩) hS.2.2 dX9_image_16
def wsX9_back : List Cond := .code yX9_back cX9_back 2 (some .boolean) :: W0
abbrev wX9_back (cy : Nat → ClassId) (aM : Nat) (qM : Nat → Nat) (vM : Nat → Int32) (vM_kept : Nat → Int32) (vM_st : Nat → Int32) : va_W := [(aM, oX9 vM qM), (qM 19, rI cy 27 vM_kept), (qM 17, rI cy 9 vM_st)]
set_option maxHeartbeats 4000000 in
set_option maxRecDepth 100000 in
theorem kX9_back (l : Launch) (D : va_G) (cy : Nat → ClassId) (sz : Nat) (aM : Nat) (qM : Nat → Nat) (vM : Nat → Int32) (vM_kept : Nat → Int32) (vM_st : Nat → Int32) (x1 : Int32) (zr : Int32) (z_vM : Nat → Int32) (z_vM_st : Nat → Int32) (hok : fX9_back vM vM_kept vM_st x1 = some (zr, z_vM, z_vM_st)) (A : Nat → Prop) (hAe : va_A (wX9_back cy aM qM vM vM_kept vM_st) sz = A) : Met l yX9_back wsX9_back ({ frames := 1, cells := 0, slots := 0, locals := 25 } : Room) (kPre D cy [.ref aM, .int x1] (wX9_back cy aM qM vM vM_kept vM_st) sz) (kQi D cy zr A (wX9_back cy aM qM z_vM vM_kept z_vM_st)) 0 0 A := by
  refine Met.ofW (cc := cX9_back) (maxL := 2) (ret := (some .boolean)) (by decide) rfl ?_
  intro p e s m args below meth c s₁ B hml hv
  obtain ⟨rfl, hsz, hP, hK, hD0, hN⟩ := hv
  have hx := B.exec
  have hb := B.bytes
  have hr := B.returns
  have ht0 : ∀ w ∈ W0, w.before _ s = true := fun w h => atoms_spec (ws := wsX9_back) B.pre w (List.mem_cons_of_mem _ h)
  have hown : s.vm.findClass RX9 = some m.cls := findClass_of_methodNamed B.named
  have hlocks := B.notSynchronized
  subst hsz
  have hD : va_D A (wX9_back cy aM qM vM vM_kept vM_st) := by rw [← hAe]; exact hD0.self
  have hA : ∀ q : Nat, s.heap.size ≤ q → A q := fun q h => by rw [← hAe]; exact Or.inr h
  have hS : va_S A s.heap s.heap [] := va_S.rf
  have hl := lv_entry ([.ref aM, .int x1]) (n := 2) (Nat.le_of_ble_eq_true rfl)
  rw [lg_entry_eq]
  generalize (lg_sl ([.ref aM, .int x1]) ++ List.replicate (2 - (lg_sl ([.ref aM, .int x1])).length) Slot.unset).toArray = ls at hl ⊢
  have hl : lv_has ls 2 [(0, .ref aM), (1, .int x1)] := hl
  unfold fX9_back at hok
  obtain ⟨H, hH⟩ : ∃ H, H = s.heap := ⟨_, rfl⟩
  obtain ⟨locs, hlc⟩ : ∃ x : List Loc, x = [] := ⟨_, rfl⟩
  have hP : va_P D vwCl (wX9_back cy aM qM vM vM_kept vM_st) H := by rw [hH]; exact hP
  have hS : va_S A s.heap H locs := by rw [hH, hlc]; exact hS
  rw [show W p l e _ s m _ below meth c s.heap [] = W p l e _ s m _ below meth c H locs from by rw [hH, hlc]]
  refine lv_aload_n hx hb dX9_back_0 rfl (lv_at hl 0 rfl) ?_
  obtain ⟨vM_1, hc1, hok⟩ := k_bind hok
  refine kCv (wc := (wX9_good cy aM qM vM)) (wc2 := (wX9_good cy aM qM vM_1)) (wr := [(qM 19, rI cy 27 vM_kept), (qM 17, rI cy 9 vM_st)]) (ws2 := (wX9_back cy aM qM vM_1 vM_kept vM_st)) (kRunV (As := []) (rest := []) ⟨hx, hb, hml, hown, ht0⟩ (kX9_good l D cy _ aM qM vM vM_1 hc1 _ rfl) (cwV 0 ht0 (gV wd870 wd871 wd872 wd744 wd873) rfl rfl rfl (by decide +kernel) ⟨Nat.le_of_ble_eq_true rfl, Nat.le_of_ble_eq_true rfl⟩) hK hN hP hD [0] rfl (by decide) 0 8 rfl rfl rfl hl.1 rfl (Nat.le_of_ble_eq_true rfl) dX9_back_1 ⟨Nat.zero_le _, Nat.zero_le _⟩) hP hD hS hA [0] [1, 2] rfl rfl (by decide) (by decide) [2, 0, 1] (by decide) rfl rfl (fun H locs hP hD hS => ?_)
  refine lv_iload_n hx hb dX9_back_4 rfl (lv_at hl 1 rfl) ?_
  refine lv_iconst (v := 0) hx hb dX9_back_5 (by decide) ?_
  refine lv_aload_n hx hb dX9_back_6 rfl (lv_at hl 0 rfl) ?_
  refine va_get (D := D) (ci := 8) (v := .int (vM_1 21)) (C := RX9) (T := TX9) (N := 29) hx hb ht0 niX9 hown hK hP 0 rfl rfl 21 (by decide) (ht0 _ wd857) (fun _ h9 => h9) rfl dX9_back_7 ?_
  refine lv_iconst (v := 1) hx hb dX9_back_10 (by decide) ?_
  refine lv_isub hx hb dX9_back_11 ?_
  obtain ⟨r12, hc12, hok⟩ := k_bind hok
  refine kCi (wc := (wX9_in cy )) (wc2 := (wX9_in cy )) (wr := [(aM, oX9 vM_1 qM), (qM 19, rI cy 27 vM_kept), (qM 17, rI cy 9 vM_st)]) (ws2 := (wX9_back cy aM qM vM_1 vM_kept vM_st)) (kRunS (As := [.int x1, .int 0, .int ((vM_1 21) - (1 : Int32))]) (rest := []) ⟨hx, hb, hml, hown, ht0⟩ (kX9_in l D cy _ x1 (0 : Int32) ((vM_1 21) - (1 : Int32)) r12 hc12 _ rfl) (va_cwS 3 ht0 (gS wd787 wd788 wd744 wd789) rfl rfl rfl (by decide +kernel) ⟨Nat.le_of_ble_eq_true rfl, Nat.le_of_ble_eq_true rfl⟩) hK hN hP hD [] rfl (by decide) rfl hl.1 rfl (Nat.le_of_ble_eq_true rfl) dX9_back_12 ⟨Nat.zero_le _, Nat.zero_le _⟩) hP hD hS hA [] [0, 1, 2] rfl rfl (by decide) (by decide) [0, 1, 2] (by decide) rfl rfl (fun H locs hP hD hS => ?_)
  refine lv_if_ne (tgt := 24) hx hb dX9_back_15 (by decide) (fun c15 => ?_) (fun c15 => ?_)
  · have hok := k_neg c15 hok
    refine lv_aload_n hx hb dX9_back_24 rfl (lv_at hl 0 rfl) ?_
    refine va_get (D := D) (ci := 8) (v := .ref (qM 19)) (C := RX9) (T := TX9) (N := 29) hx hb ht0 niX9 hown hK hP 0 rfl rfl 19 (by decide) (ht0 _ wd1032) (fun _ h9 => h9) rfl dX9_back_25 ?_
    refine lv_bipush (v := 9) hx hb dX9_back_28 (by decide) ?_
    refine lv_iload_n hx hb dX9_back_30 rfl (lv_at hl 1 rfl) ?_
    refine lv_imul hx hb dX9_back_31 ?_
    refine lv_aload_n hx hb dX9_back_32 rfl (lv_at hl 0 rfl) ?_
    refine va_get (D := D) (ci := 8) (v := .ref (qM 17)) (C := RX9) (T := TX9) (N := 29) hx hb ht0 niX9 hown hK hP 0 rfl rfl 17 (by decide) (ht0 _ wd858) (fun _ h9 => h9) rfl dX9_back_33 ?_
    refine lv_iconst (v := 0) hx hb dX9_back_36 (by decide) ?_
    refine lv_bipush (v := 9) hx hb dX9_back_37 (by decide) ?_
    obtain ⟨p2_39, hc39, hok⟩ := k_bind hok
    refine kCv (wc := (wX9_copy cy (qM 19) (qM 17) 27 vM_kept 9 vM_st)) (wc2 := (wX9_copy cy (qM 19) (qM 17) 27 vM_kept 9 p2_39)) (wr := [(aM, oX9 vM_1 qM)]) (ws2 := (wX9_back cy aM qM vM_1 vM_kept p2_39)) (kRunS (As := [.ref (qM 19), .int ((9 : Int32) * x1), .ref (qM 17), .int 0, .int 9]) (rest := []) ⟨hx, hb, hml, hown, ht0⟩ (kX9_copy l D cy _ (qM 19) (qM 17) 27 vM_kept 9 vM_st ((9 : Int32) * x1) (0 : Int32) (9 : Int32) p2_39 hc39 _ rfl) (va_cwS 5 ht0 (gS wd859 wd860 wd744 wd861) rfl rfl rfl (by decide +kernel) ⟨Nat.le_of_ble_eq_true rfl, Nat.le_of_ble_eq_true rfl⟩) hK hN hP hD [1, 2] rfl (by decide) rfl hl.1 rfl (Nat.le_of_ble_eq_true rfl) dX9_back_39 ⟨Nat.zero_le _, Nat.zero_le _⟩) hP hD hS hA [1, 2] [0] rfl rfl (by decide) (by decide) [0, 1, 2] (by decide) rfl rfl (fun H locs hP hD hS => ?_)
    refine lv_aload_n hx hb dX9_back_42 rfl (lv_at hl 0 rfl) ?_
    refine lv_iconst (v := 0) hx hb dX9_back_43 (by decide) ?_
    refine va_put (D := D) (ci := 8) (v := .int 0) (ty := .int) (C := RX9) (T := TX9) (N := 29) hx hb ht0 niX9 tyX9 tyX9_ok nmX9 hown hK hP hD hS 0 rfl rfl 20 (by decide) (ht0 _ wd856) (fun _ h9 => h9) rfl (by decide +kernel) rfl rfl (Nat.le_of_ble_eq_true rfl) dX9_back_44 (fun H locs hP hD hS => ?_)
    have hP : va_P D vwCl (wX9_back cy aM qM (upd vM_1 20 (0 : Int32)) vM_kept p2_39) H := hP
    have hD : va_D A (wX9_back cy aM qM (upd vM_1 20 (0 : Int32)) vM_kept p2_39) := hD
    refine lv_iconst (v := 1) hx hb dX9_back_47 (by decide) ?_
    cases hok
    exact W.zret hx hb hr rfl (fun t ht hW => ⟨⟨_, (), rfl, rfl, by rw [ht]; exact hP, va_K.moved hW.alike hK, hD⟩, hS.F ht⟩) hS.2.2 dX9_back_48
  · have hok := k_pos c15 hok
    refine lv_aload_n hx hb dX9_back_18 rfl (lv_at hl 0 rfl) ?_
    refine lv_iconst (v := 1) hx hb dX9_back_19 (by decide) ?_
    obtain ⟨⟨r20, vM_20⟩, hc20, hok⟩ := k_bind hok
    try dsimp only at hok
    refine kCi (wc := (wX9_isNot cy aM qM vM_1)) (wc2 := (wX9_isNot cy aM qM vM_20)) (wr := [(qM 19, rI cy 27 vM_kept), (qM 17, rI cy 9 vM_st)]) (ws2 := (wX9_back cy aM qM vM_20 vM_kept vM_st)) (kRunV (As := [.int 1]) (rest := []) ⟨hx, hb, hml, hown, ht0⟩ (kX9_isNot l D cy _ aM qM vM_1 (1 : Int32) r20 vM_20 hc20 _ rfl) (cwV 1 ht0 (gV wd1024 wd1025 wd1026 wd744 wd1027) rfl rfl rfl (by decide +kernel) ⟨Nat.le_of_ble_eq_true rfl, Nat.le_of_ble_eq_true rfl⟩) hK hN hP hD [0] rfl (by decide) 0 8 rfl rfl rfl hl.1 rfl (Nat.le_of_ble_eq_true rfl) dX9_back_20 ⟨Nat.zero_le _, Nat.zero_le _⟩) hP hD hS hA [0] [1, 2] rfl rfl (by decide) (by decide) [2, 0, 1] (by decide) rfl rfl (fun H locs hP hD hS => ?_)
    obtain ⟨g23, hok⟩ := gd_some hok
    cases hok
    exact W.zret hx hb hr (isB_nar g23) (fun t ht hW => ⟨⟨_, (), rfl, rfl, by rw [ht]; exact hP, va_K.moved hW.alike hK, hD⟩, hS.F ht⟩) hS.2.2 dX9_back_23
def wsX9_led : List Cond := .code yX9_led cX9_led 4 (some .int) :: W0
abbrev wX9_led (cy : Nat → ClassId) (aM : Nat) (qM : Nat → Nat) (vM : Nat → Int32) (vM_r : Nat → Int32) (vM_st : Nat → Int32) : va_W := [(aM, oX9 vM qM), (qM 15, rI cy 224 vM_r), (qM 17, rI cy 9 vM_st)]
set_option maxHeartbeats 4000000 in
set_option maxRecDepth 100000 in
theorem kX9_led (l : Launch) (D : va_G) (cy : Nat → ClassId) (sz : Nat) (aM : Nat) (qM : Nat → Nat) (vM : Nat → Int32) (vM_r : Nat → Int32) (vM_st : Nat → Int32) (x1 : Int32) (zr : Int32) (z_vM : Nat → Int32) (hok : fX9_led vM vM_r vM_st x1 = some (zr, z_vM)) (A : Nat → Prop) (hAe : va_A (wX9_led cy aM qM vM vM_r vM_st) sz = A) : Met l yX9_led wsX9_led ({ frames := 1, cells := 0, slots := 0, locals := 21 } : Room) (kPre D cy [.ref aM, .int x1] (wX9_led cy aM qM vM vM_r vM_st) sz) (kQi D cy zr A (wX9_led cy aM qM z_vM vM_r vM_st)) 0 0 A := by
  refine Met.ofW (cc := cX9_led) (maxL := 4) (ret := (some .int)) (by decide) rfl ?_
  intro p e s m args below meth c s₁ B hml hv
  obtain ⟨rfl, hsz, hP, hK, hD0, hN⟩ := hv
  have hx := B.exec
  have hb := B.bytes
  have hr := B.returns
  have ht0 : ∀ w ∈ W0, w.before _ s = true := fun w h => atoms_spec (ws := wsX9_led) B.pre w (List.mem_cons_of_mem _ h)
  have hown : s.vm.findClass RX9 = some m.cls := findClass_of_methodNamed B.named
  have hlocks := B.notSynchronized
  subst hsz
  have hD : va_D A (wX9_led cy aM qM vM vM_r vM_st) := by rw [← hAe]; exact hD0.self
  have hA : ∀ q : Nat, s.heap.size ≤ q → A q := fun q h => by rw [← hAe]; exact Or.inr h
  have hS : va_S A s.heap s.heap [] := va_S.rf
  have hl := lv_entry ([.ref aM, .int x1]) (n := 4) (Nat.le_of_ble_eq_true rfl)
  rw [lg_entry_eq]
  generalize (lg_sl ([.ref aM, .int x1]) ++ List.replicate (4 - (lg_sl ([.ref aM, .int x1])).length) Slot.unset).toArray = ls at hl ⊢
  have hl : lv_has ls 4 [(0, .ref aM), (1, .int x1)] := hl
  generalize hQe : MQ below (kQi D cy zr A (wX9_led cy aM qM z_vM vM_r vM_st)) ([.ref aM, .int x1] : List Value).toArray s 0 0 A = Q
  have J59 : ∀ (H : Heap) (locs : List Loc) (ls : Array Slot), va_P D vwCl (wX9_led cy aM qM vM vM_r vM_st) H → va_D A (wX9_led cy aM qM vM vM_r vM_st) → va_S A s.heap H locs → lv_has ls 4 [(0, .ref aM)] → fX9_led_J59 vM = some (zr, z_vM) → W p l e ({ frames := 1, cells := 0, slots := 0, locals := 21 } : Room) s m ([.ref aM, .int x1] : List Value).toArray below meth c H locs 0 0 Q (F0 m 59 ls []) := by
    intro  H locs ls hP hD hS hl hok
    unfold fX9_led_J59 at hok
    refine lv_aload_n hx hb dX9_led_59 rfl (lv_at hl 0 rfl) ?_
    refine lv_iconst (v := 1) hx hb dX9_led_60 (by decide) ?_
    refine va_put (D := D) (ci := 8) (v := .int 1) (ty := .int) (C := RX9) (T := TX9) (N := 29) hx hb ht0 niX9 tyX9 tyX9_ok nmX9 hown hK hP hD hS 0 rfl rfl 0 (by decide) (ht0 _ wd735) (fun _ h9 => h9) rfl (by decide +kernel) rfl rfl (Nat.le_of_ble_eq_true rfl) dX9_led_61 (fun H locs hP hD hS => ?_)
    have hP : va_P D vwCl (wX9_led cy aM qM (upd vM 0 (1 : Int32)) vM_r vM_st) H := hP
    have hD : va_D A (wX9_led cy aM qM (upd vM 0 (1 : Int32)) vM_r vM_st) := hD
    refine lv_iconst (v := 0) hx hb dX9_led_64 (by decide) ?_
    cases hok
    subst hQe; exact W.iret hx hb hr (fun t ht hW => ⟨⟨_, (), rfl, rfl, by rw [ht]; exact hP, va_K.moved hW.alike hK, hD⟩, hS.F ht⟩) hS.2.2 dX9_led_65
  have L4 : ∀ (fuel : Nat) (y2_4 : Int32) (y3_4 : Int32), ∀ (H : Heap) (locs : List Loc) (ls : Array Slot), va_P D vwCl (wX9_led cy aM qM vM vM_r vM_st) H → va_D A (wX9_led cy aM qM vM vM_r vM_st) → va_S A s.heap H locs → lv_has ls 4 [(0, .ref aM), (1, .int x1), (2, .int y2_4), (3, .int y3_4)] → lp (fX9_led_B4 vM vM_r vM_st x1) fuel (y2_4, y3_4) = some (zr, z_vM) → W p l e ({ frames := 1, cells := 0, slots := 0, locals := 21 } : Room) s m ([.ref aM, .int x1] : List Value).toArray below meth c H locs 0 0 Q (F0 m 4 ls []) := by
    intro fuel
    induction fuel with
    | zero => intro y2_4 y3_4 H locs ls hP hD hS hl hok; exact (lp_0 hok).elim
    | succ fuel ih4 =>
      intro y2_4 y3_4 H locs ls hP hD hS hl hok
      obtain ⟨y4, hok, hL4, hR4⟩ := lp_step hok
      have J53 : ∀ (y2_53 : Int32), ∀ (H : Heap) (locs : List Loc) (ls : Array Slot), va_P D vwCl (wX9_led cy aM qM vM vM_r vM_st) H → va_D A (wX9_led cy aM qM vM vM_r vM_st) → va_S A s.heap H locs → lv_has ls 4 [(0, .ref aM), (1, .int x1), (2, .int y2_53), (3, .int y3_4)] → fX9_led_J53 y3_4 y2_53 = some y4 → W p l e ({ frames := 1, cells := 0, slots := 0, locals := 21 } : Room) s m ([.ref aM, .int x1] : List Value).toArray below meth c H locs 0 0 Q (F0 m 53 ls []) := by
        intro y2_53 H locs ls hP hD hS hl hok
        unfold fX9_led_J53 at hok
        refine lv_iinc (v := (y3_4 + 1)) (lv' := [(3, .int (y3_4 + 1)), (0, .ref aM), (1, .int x1), (2, .int y2_53)]) hx hb dX9_led_53 hl (k := 3) rfl (by first | rfl | decide) (by decide) rfl (fun ls hl => ?_)
        refine lv_goto (tgt := 4) hx hb dX9_led_56 (by decide) ?_
        exact ih4 y2_53 (y3_4 + 1) H locs ls hP hD hS (lv_sub hl [1, 2, 3, 0] rfl) (hR4 _ (Option.some.inj hok).symm)
      unfold fX9_led_B4 at hok
      try dsimp only at hok
      refine lv_aload_n hx hb dX9_led_4 rfl (lv_at hl 0 rfl) ?_
      refine va_get (D := D) (ci := 8) (v := .int (vM 14)) (C := RX9) (T := TX9) (N := 29) hx hb ht0 niX9 hown hK hP 0 rfl rfl 14 (by decide) (ht0 _ wd855) (fun _ h9 => h9) rfl dX9_led_5 ?_
      refine lv_if_eq (tgt := 59) hx hb dX9_led_8 (by decide) (fun c8 => ?_) (fun c8 => ?_)
      · have hok := k_pos c8 hok
        obtain ⟨e4, hok, he4⟩ := ex_some hok
        have hok := hok.trans (congrArg some (hL4 _ he4))
        exact J59  H locs ls hP hD hS (lv_sub hl [0] rfl) hok
      · have hok := k_neg c8 hok
        refine lv_iload_n hx hb dX9_led_11 rfl (lv_at hl 3 rfl) ?_
        refine lv_aload_n hx hb dX9_led_12 rfl (lv_at hl 0 rfl) ?_
        refine va_get (D := D) (ci := 8) (v := .ref (qM 15)) (C := RX9) (T := TX9) (N := 29) hx hb ht0 niX9 hown hK hP 0 rfl rfl 15 (by decide) (ht0 _ wd854) (fun _ h9 => h9) rfl dX9_led_13 ?_
        refine lv_iconst (v := 3) hx hb dX9_led_16 (by decide) ?_
        obtain ⟨g17, hok⟩ := gd_some hok
        refine va_iald hx hb hK hP 1 0 rfl rfl (okI_in g17) dX9_led_17 ?_
        refine lv_icmp_ge (tgt := 59) hx hb dX9_led_18 (by decide) (fun c18 => ?_) (fun c18 => ?_)
        · have hok := k_pos c18 hok
          obtain ⟨e4, hok, he4⟩ := ex_some hok
          have hok := hok.trans (congrArg some (hL4 _ he4))
          exact J59  H locs ls hP hD hS (lv_sub hl [0] rfl) hok
        · have hok := k_neg c18 hok
          refine lv_aload_n hx hb dX9_led_21 rfl (lv_at hl 0 rfl) ?_
          refine va_get (D := D) (ci := 8) (v := .ref (qM 17)) (C := RX9) (T := TX9) (N := 29) hx hb ht0 niX9 hown hK hP 0 rfl rfl 17 (by decide) (ht0 _ wd858) (fun _ h9 => h9) rfl dX9_led_22 ?_
          refine lv_bipush (v := 7) hx hb dX9_led_25 (by decide) ?_
          obtain ⟨g27, hok⟩ := gd_some hok
          refine va_iald hx hb hK hP 2 0 rfl rfl (okI_in g27) dX9_led_27 ?_
          refine lv_iload_n hx hb dX9_led_28 rfl (lv_at hl 3 rfl) ?_
          obtain ⟨r29, hc29, hok⟩ := k_bind hok
          refine kCi (wc := (wX9_hasBit cy )) (wc2 := (wX9_hasBit cy )) (wr := [(aM, oX9 vM qM), (qM 15, rI cy 224 vM_r), (qM 17, rI cy 9 vM_st)]) (ws2 := (wX9_led cy aM qM vM vM_r vM_st)) (kRunS (As := [.int (vM_st (7 : Int32).toNatClampNeg), .int y3_4]) (rest := []) ⟨hx, hb, hml, hown, ht0⟩ (kX9_hasBit l D cy _ (vM_st (7 : Int32).toNatClampNeg) y3_4 r29 hc29 _ rfl) (va_cwS 2 ht0 (gS wd894 wd895 wd744 wd896) rfl rfl rfl (by decide +kernel) ⟨Nat.le_of_ble_eq_true rfl, Nat.le_of_ble_eq_true rfl⟩) hK hN hP hD [] rfl (by decide) rfl hl.1 rfl (Nat.le_of_ble_eq_true rfl) dX9_led_29 ⟨Nat.zero_le _, Nat.zero_le _⟩) hP hD hS hA [] [0, 1, 2] rfl rfl (by decide) (by decide) [0, 1, 2] (by decide) rfl rfl (fun H locs hP hD hS => ?_)
          refine lv_if_ne (tgt := 38) hx hb dX9_led_32 (by decide) (fun c32 => ?_) (fun c32 => ?_)
          · have hok := k_neg c32 hok
            refine lv_iload_n hx hb dX9_led_38 rfl (lv_at hl 2 rfl) ?_
            refine lv_iload_n hx hb dX9_led_39 rfl (lv_at hl 1 rfl) ?_
            refine lv_icmp_ne (tgt := 50) hx hb dX9_led_40 (by decide) (fun c40 => ?_) (fun c40 => ?_)
            · have hok := k_neg c40 hok
              refine lv_iinc (v := (y2_4 + 1)) (lv' := [(2, .int (y2_4 + 1)), (0, .ref aM), (1, .int x1), (3, .int y3_4)]) hx hb dX9_led_50 hl (k := 2) rfl (by first | rfl | decide) (by decide) rfl (fun ls hl => ?_)
              exact J53 (y2_4 + 1) H locs ls hP hD hS (lv_sub hl [1, 2, 0, 3] rfl) hok
            · have hok := k_pos c40 hok
              obtain ⟨e4, hok, he4⟩ := ex_some hok
              have hok := hok.trans (congrArg some (hL4 _ he4))
              refine lv_aload_n hx hb dX9_led_43 rfl (lv_at hl 0 rfl) ?_
              refine lv_iconst (v := 0) hx hb dX9_led_44 (by decide) ?_
              refine va_put (D := D) (ci := 8) (v := .int 0) (ty := .int) (C := RX9) (T := TX9) (N := 29) hx hb ht0 niX9 tyX9 tyX9_ok nmX9 hown hK hP hD hS 0 rfl rfl 0 (by decide) (ht0 _ wd735) (fun _ h9 => h9) rfl (by decide +kernel) rfl rfl (Nat.le_of_ble_eq_true rfl) dX9_led_45 (fun H locs hP hD hS => ?_)
              have hP : va_P D vwCl (wX9_led cy aM qM (upd vM 0 (0 : Int32)) vM_r vM_st) H := hP
              have hD : va_D A (wX9_led cy aM qM (upd vM 0 (0 : Int32)) vM_r vM_st) := hD
              refine lv_iload_n hx hb dX9_led_48 rfl (lv_at hl 3 rfl) ?_
              cases hok
              subst hQe; exact W.iret hx hb hr (fun t ht hW => ⟨⟨_, (), rfl, rfl, by rw [ht]; exact hP, va_K.moved hW.alike hK, hD⟩, hS.F ht⟩) hS.2.2 dX9_led_49
          · have hok := k_pos c32 hok
            refine lv_goto (tgt := 53) hx hb dX9_led_35 (by decide) ?_
            exact J53 y2_4 H locs ls hP hD hS (lv_sub hl [0, 1, 2, 3] rfl) hok
  unfold fX9_led at hok
  obtain ⟨H, hH⟩ : ∃ H, H = s.heap := ⟨_, rfl⟩
  obtain ⟨locs, hlc⟩ : ∃ x : List Loc, x = [] := ⟨_, rfl⟩
  have hP : va_P D vwCl (wX9_led cy aM qM vM vM_r vM_st) H := by rw [hH]; exact hP
  have hS : va_S A s.heap H locs := by rw [hH, hlc]; exact hS
  rw [show W p l e _ s m _ below meth c s.heap [] = W p l e _ s m _ below meth c H locs from by rw [hH, hlc]]
  refine lv_iconst (v := 0) hx hb dX9_led_0 (by decide) ?_
  refine lv_istore_n (lv' := [(2, .int 0), (0, .ref aM), (1, .int x1)]) hx hb dX9_led_1 rfl hl (by decide) rfl (fun ls hl => ?_)
  refine lv_iconst (v := 0) hx hb dX9_led_2 (by decide) ?_
  refine lv_istore_n (lv' := [(3, .int 0), (2, .int 0), (0, .ref aM), (1, .int x1)]) hx hb dX9_led_3 rfl hl (by decide) rfl (fun ls hl => ?_)
  exact L4 5000 (0 : Int32) (0 : Int32) H locs ls hP hD hS (lv_sub hl [2, 3, 1, 0] rfl) hok
def wsX9_allPlaces : List Cond := .code yX9_allPlaces cX9_allPlaces 3 (some .int) :: W0
abbrev wX9_allPlaces (cy : Nat → ClassId) (aM : Nat) (qM : Nat → Nat) (vM : Nat → Int32) (vM_r : Nat → Int32) : va_W := [(aM, oX9 vM qM), (qM 15, rI cy 224 vM_r)]
set_option maxHeartbeats 4000000 in
set_option maxRecDepth 100000 in
theorem kX9_allPlaces (l : Launch) (D : va_G) (cy : Nat → ClassId) (sz : Nat) (aM : Nat) (qM : Nat → Nat) (vM : Nat → Int32) (vM_r : Nat → Int32) (zr : Int32) (hok : fX9_allPlaces vM vM_r = some zr) (A : Nat → Prop) (hAe : va_A (wX9_allPlaces cy aM qM vM vM_r) sz = A) : Met l yX9_allPlaces wsX9_allPlaces ({ frames := 1, cells := 0, slots := 0, locals := 21 } : Room) (kPre D cy [.ref aM] (wX9_allPlaces cy aM qM vM vM_r) sz) (kQi D cy zr A (wX9_allPlaces cy aM qM vM vM_r)) 0 0 A := by
  refine Met.ofW (cc := cX9_allPlaces) (maxL := 3) (ret := (some .int)) (by decide) rfl ?_
  intro p e s m args below meth c s₁ B hml hv
  obtain ⟨rfl, hsz, hP, hK, hD0, hN⟩ := hv
  have hx := B.exec
  have hb := B.bytes
  have hr := B.returns
  have ht0 : ∀ w ∈ W0, w.before _ s = true := fun w h => atoms_spec (ws := wsX9_allPlaces) B.pre w (List.mem_cons_of_mem _ h)
  have hown : s.vm.findClass RX9 = some m.cls := findClass_of_methodNamed B.named
  have hlocks := B.notSynchronized
  subst hsz
  have hD : va_D A (wX9_allPlaces cy aM qM vM vM_r) := by rw [← hAe]; exact hD0.self
  have hA : ∀ q : Nat, s.heap.size ≤ q → A q := fun q h => by rw [← hAe]; exact Or.inr h
  have hS : va_S A s.heap s.heap [] := va_S.rf
  have hl := lv_entry ([.ref aM]) (n := 3) (Nat.le_of_ble_eq_true rfl)
  rw [lg_entry_eq]
  generalize (lg_sl ([.ref aM]) ++ List.replicate (3 - (lg_sl ([.ref aM])).length) Slot.unset).toArray = ls at hl ⊢
  have hl : lv_has ls 3 [(0, .ref aM)] := hl
  generalize hQe : MQ below (kQi D cy zr A (wX9_allPlaces cy aM qM vM vM_r)) ([.ref aM] : List Value).toArray s 0 0 A = Q
  have L4 : ∀ (fuel : Nat) (y1_4 : Int32) (y2_4 : Int32), ∀ (H : Heap) (locs : List Loc) (ls : Array Slot), va_P D vwCl (wX9_allPlaces cy aM qM vM vM_r) H → va_D A (wX9_allPlaces cy aM qM vM vM_r) → va_S A s.heap H locs → lv_has ls 3 [(0, .ref aM), (1, .int y1_4), (2, .int y2_4)] → lp (fX9_allPlaces_B4 vM vM_r) fuel (y1_4, y2_4) = some zr → W p l e ({ frames := 1, cells := 0, slots := 0, locals := 21 } : Room) s m ([.ref aM] : List Value).toArray below meth c H locs 0 0 Q (F0 m 4 ls []) := by
    intro fuel
    induction fuel with
    | zero => intro y1_4 y2_4 H locs ls hP hD hS hl hok; exact (lp_0 hok).elim
    | succ fuel ih4 =>
      intro y1_4 y2_4 H locs ls hP hD hS hl hok
      obtain ⟨y4, hok, hL4, hR4⟩ := lp_step hok
      unfold fX9_allPlaces_B4 at hok
      try dsimp only at hok
      refine lv_iload_n hx hb dX9_allPlaces_4 rfl (lv_at hl 2 rfl) ?_
      refine lv_aload_n hx hb dX9_allPlaces_5 rfl (lv_at hl 0 rfl) ?_
      refine va_get (D := D) (ci := 8) (v := .ref (qM 15)) (C := RX9) (T := TX9) (N := 29) hx hb ht0 niX9 hown hK hP 0 rfl rfl 15 (by decide) (ht0 _ wd854) (fun _ h9 => h9) rfl dX9_allPlaces_6 ?_
      refine lv_iconst (v := 2) hx hb dX9_allPlaces_9 (by decide) ?_
      obtain ⟨g10, hok⟩ := gd_some hok
      refine va_iald hx hb hK hP 1 0 rfl rfl (okI_in g10) dX9_allPlaces_10 ?_
      refine lv_icmp_ge (tgt := 28) hx hb dX9_allPlaces_11 (by decide) (fun c11 => ?_) (fun c11 => ?_)
      · have hok := k_pos c11 hok
        obtain ⟨e4, hok, he4⟩ := ex_some hok
        have hok := hok.trans (congrArg some (hL4 _ he4))
        refine lv_iload_n hx hb dX9_allPlaces_28 rfl (lv_at hl 1 rfl) ?_
        cases hok
        subst hQe; exact W.iret hx hb hr (fun t ht hW => ⟨⟨_, (), rfl, rfl, by rw [ht]; exact hP, va_K.moved hW.alike hK, hD⟩, hS.F ht⟩) hS.2.2 dX9_allPlaces_29
      · have hok := k_neg c11 hok
        refine lv_iload_n hx hb dX9_allPlaces_14 rfl (lv_at hl 1 rfl) ?_
        refine lv_aload_n hx hb dX9_allPlaces_15 rfl (lv_at hl 0 rfl) ?_
        refine lv_iload_n hx hb dX9_allPlaces_16 rfl (lv_at hl 2 rfl) ?_
        obtain ⟨r17, hc17, hok⟩ := k_bind hok
        refine kCi (wc := (wX9_placesOf cy aM qM vM vM_r)) (wc2 := (wX9_placesOf cy aM qM vM vM_r)) (wr := []) (ws2 := (wX9_allPlaces cy aM qM vM vM_r)) (kRunV (As := [.int y2_4]) (rest := [.int y1_4]) ⟨hx, hb, hml, hown, ht0⟩ (kX9_placesOf l D cy _ aM qM vM vM_r y2_4 r17 hc17 _ rfl) (cwV 1 ht0 (gV wd878 wd879 wd880 wd744 wd881) rfl rfl rfl (by decide +kernel) ⟨Nat.le_of_ble_eq_true rfl, Nat.le_of_ble_eq_true rfl⟩) hK hN hP hD [0, 1] rfl (by decide) 0 8 rfl rfl rfl hl.1 rfl (Nat.le_of_ble_eq_true rfl) dX9_allPlaces_17 ⟨Nat.zero_le _, Nat.zero_le _⟩) hP hD hS hA [0, 1] [] rfl rfl (by decide) (by decide) [0, 1] (by decide) rfl rfl (fun H locs hP hD hS => ?_)
        refine lv_iadd hx hb dX9_allPlaces_20 ?_
        refine lv_istore_n (lv' := [(1, .int (y1_4 + r17)), (0, .ref aM), (2, .int y2_4)]) hx hb dX9_allPlaces_21 rfl hl (by decide) rfl (fun ls hl => ?_)
        refine lv_iinc (v := (y2_4 + 1)) (lv' := [(2, .int (y2_4 + 1)), (1, .int (y1_4 + r17)), (0, .ref aM)]) hx hb dX9_allPlaces_22 hl (k := 2) rfl (by first | rfl | decide) (by decide) rfl (fun ls hl => ?_)
        refine lv_goto (tgt := 4) hx hb dX9_allPlaces_25 (by decide) ?_
        exact ih4 (y1_4 + r17) (y2_4 + 1) H locs ls hP hD hS (lv_sub hl [2, 1, 0] rfl) (hR4 _ (Option.some.inj hok).symm)
  unfold fX9_allPlaces at hok
  obtain ⟨H, hH⟩ : ∃ H, H = s.heap := ⟨_, rfl⟩
  obtain ⟨locs, hlc⟩ : ∃ x : List Loc, x = [] := ⟨_, rfl⟩
  have hP : va_P D vwCl (wX9_allPlaces cy aM qM vM vM_r) H := by rw [hH]; exact hP
  have hS : va_S A s.heap H locs := by rw [hH, hlc]; exact hS
  rw [show W p l e _ s m _ below meth c s.heap [] = W p l e _ s m _ below meth c H locs from by rw [hH, hlc]]
  refine lv_iconst (v := 0) hx hb dX9_allPlaces_0 (by decide) ?_
  refine lv_istore_n (lv' := [(1, .int 0), (0, .ref aM)]) hx hb dX9_allPlaces_1 rfl hl (by decide) rfl (fun ls hl => ?_)
  refine lv_iconst (v := 0) hx hb dX9_allPlaces_2 (by decide) ?_
  refine lv_istore_n (lv' := [(2, .int 0), (1, .int 0), (0, .ref aM)]) hx hb dX9_allPlaces_3 rfl hl (by decide) rfl (fun ls hl => ?_)
  exact L4 5000 (0 : Int32) (0 : Int32) H locs ls hP hD hS (lv_sub hl [2, 1, 0] rfl) hok
def wsX9_size : List Cond := .code yX9_size cX9_size 2 (some .int) :: W0
abbrev wX9_size (cy : Nat → ClassId) (aM : Nat) (qM : Nat → Nat) (vM : Nat → Int32) (vM_r : Nat → Int32) (vM_st : Nat → Int32) : va_W := [(aM, oX9 vM qM), (qM 15, rI cy 224 vM_r), (qM 17, rI cy 9 vM_st)]
set_option maxHeartbeats 4000000 in
set_option maxRecDepth 100000 in
theorem kX9_size (l : Launch) (D : va_G) (cy : Nat → ClassId) (sz : Nat) (aM : Nat) (qM : Nat → Nat) (vM : Nat → Int32) (vM_r : Nat → Int32) (vM_st : Nat → Int32) (x1 : Int32) (zr : Int32) (z_vM : Nat → Int32) (hok : fX9_size vM vM_r vM_st x1 = some (zr, z_vM)) (A : Nat → Prop) (hAe : va_A (wX9_size cy aM qM vM vM_r vM_st) sz = A) : Met l yX9_size wsX9_size ({ frames := 2, cells := 0, slots := 0, locals := 43 } : Room) (kPre D cy [.ref aM, .int x1] (wX9_size cy aM qM vM vM_r vM_st) sz) (kQi D cy zr A (wX9_size cy aM qM z_vM vM_r vM_st)) 0 0 A := by
  refine Met.ofW (cc := cX9_size) (maxL := 2) (ret := (some .int)) (by decide) rfl ?_
  intro p e s m args below meth c s₁ B hml hv
  obtain ⟨rfl, hsz, hP, hK, hD0, hN⟩ := hv
  have hx := B.exec
  have hb := B.bytes
  have hr := B.returns
  have ht0 : ∀ w ∈ W0, w.before _ s = true := fun w h => atoms_spec (ws := wsX9_size) B.pre w (List.mem_cons_of_mem _ h)
  have hown : s.vm.findClass RX9 = some m.cls := findClass_of_methodNamed B.named
  have hlocks := B.notSynchronized
  subst hsz
  have hD : va_D A (wX9_size cy aM qM vM vM_r vM_st) := by rw [← hAe]; exact hD0.self
  have hA : ∀ q : Nat, s.heap.size ≤ q → A q := fun q h => by rw [← hAe]; exact Or.inr h
  have hS : va_S A s.heap s.heap [] := va_S.rf
  have hl := lv_entry ([.ref aM, .int x1]) (n := 2) (Nat.le_of_ble_eq_true rfl)
  rw [lg_entry_eq]
  generalize (lg_sl ([.ref aM, .int x1]) ++ List.replicate (2 - (lg_sl ([.ref aM, .int x1])).length) Slot.unset).toArray = ls at hl ⊢
  have hl : lv_has ls 2 [(0, .ref aM), (1, .int x1)] := hl
  generalize hQe : MQ below (kQi D cy zr A (wX9_size cy aM qM z_vM vM_r vM_st)) ([.ref aM, .int x1] : List Value).toArray s 0 0 A = Q
  have J38 : ∀ (t0_38 : Int32), ∀ (H : Heap) (locs : List Loc) (ls : Array Slot), va_P D vwCl (wX9_size cy aM qM (upd vM 0 (0 : Int32)) vM_r vM_st) H → va_D A (wX9_size cy aM qM (upd vM 0 (0 : Int32)) vM_r vM_st) → va_S A s.heap H locs → lv_has ls 2 [] → fX9_size_J38 vM t0_38 = some (zr, z_vM) → W p l e ({ frames := 2, cells := 0, slots := 0, locals := 43 } : Room) s m ([.ref aM, .int x1] : List Value).toArray below meth c H locs 0 0 Q (F0 m 38 ls [.int t0_38]) := by
    intro t0_38 H locs ls hP hD hS hl hok
    unfold fX9_size_J38 at hok
    cases hok
    subst hQe; exact W.iret hx hb hr (fun t ht hW => ⟨⟨_, (), rfl, rfl, by rw [ht]; exact hP, va_K.moved hW.alike hK, hD⟩, hS.F ht⟩) hS.2.2 dX9_size_38
  unfold fX9_size at hok
  obtain ⟨H, hH⟩ : ∃ H, H = s.heap := ⟨_, rfl⟩
  obtain ⟨locs, hlc⟩ : ∃ x : List Loc, x = [] := ⟨_, rfl⟩
  have hP : va_P D vwCl (wX9_size cy aM qM vM vM_r vM_st) H := by rw [hH]; exact hP
  have hS : va_S A s.heap H locs := by rw [hH, hlc]; exact hS
  rw [show W p l e _ s m _ below meth c s.heap [] = W p l e _ s m _ below meth c H locs from by rw [hH, hlc]]
  refine lv_aload_n hx hb dX9_size_0 rfl (lv_at hl 0 rfl) ?_
  refine lv_iconst (v := 0) hx hb dX9_size_1 (by decide) ?_
  refine va_put (D := D) (ci := 8) (v := .int 0) (ty := .int) (C := RX9) (T := TX9) (N := 29) hx hb ht0 niX9 tyX9 tyX9_ok nmX9 hown hK hP hD hS 0 rfl rfl 0 (by decide) (ht0 _ wd735) (fun _ h9 => h9) rfl (by decide +kernel) rfl rfl (Nat.le_of_ble_eq_true rfl) dX9_size_2 (fun H locs hP hD hS => ?_)
  have hP : va_P D vwCl (wX9_size cy aM qM (upd vM 0 (0 : Int32)) vM_r vM_st) H := hP
  have hD : va_D A (wX9_size cy aM qM (upd vM 0 (0 : Int32)) vM_r vM_st) := hD
  refine lv_iload_n hx hb dX9_size_5 rfl (lv_at hl 1 rfl) ?_
  refine lv_bipush (v := 12) hx hb dX9_size_6 (by decide) ?_
  refine lv_icmp_ne (tgt := 16) hx hb dX9_size_8 (by decide) (fun c8 => ?_) (fun c8 => ?_)
  · have hok := k_neg c8 hok
    refine lv_aload_n hx hb dX9_size_16 rfl (lv_at hl 0 rfl) ?_
    refine va_get (D := D) (ci := 8) (v := .int (vM 14)) (C := RX9) (T := TX9) (N := 29) hx hb ht0 niX9 hown hK hP 0 rfl rfl 14 (by decide) (ht0 _ wd855) (fun _ h9 => h9) rfl dX9_size_17 ?_
    refine lv_if_ne (tgt := 39) hx hb dX9_size_20 (by decide) (fun c20 => ?_) (fun c20 => ?_)
    · have hok := k_neg c20 hok
      refine lv_iload_n hx hb dX9_size_39 rfl (lv_at hl 1 rfl) ?_
      by_cases c40_0 : x1 = 0
      · have hok := k_pos c40_0 hok
        refine lv_tableIn (tgt := 104) (off := 64) hx hb dX9_size_40 (by rw [c40_0]; decide) (by rw [c40_0]; decide) (by rw [c40_0]; decide) (by decide) ?_
        refine lv_aload_n hx hb dX9_size_104 rfl (lv_at hl 0 rfl) ?_
        refine va_get (D := D) (ci := 8) (v := .ref (qM 15)) (C := RX9) (T := TX9) (N := 29) hx hb ht0 niX9 hown hK hP 0 rfl rfl 15 (by decide) (ht0 _ wd854) (fun _ h9 => h9) rfl dX9_size_105 ?_
        refine lv_iconst (v := 0) hx hb dX9_size_108 (by decide) ?_
        obtain ⟨g109, hok⟩ := gd_some hok
        refine va_iald hx hb hK hP 1 0 rfl rfl (okI_in g109) dX9_size_109 ?_
        cases hok
        subst hQe; exact W.iret hx hb hr (fun t ht hW => ⟨⟨_, (), rfl, rfl, by rw [ht]; exact hP, va_K.moved hW.alike hK, hD⟩, hS.F ht⟩) hS.2.2 dX9_size_110
      have hok := k_neg c40_0 hok
      by_cases c40_1 : x1 = 1
      · have hok := k_pos c40_1 hok
        refine lv_tableIn (tgt := 111) (off := 71) hx hb dX9_size_40 (by rw [c40_1]; decide) (by rw [c40_1]; decide) (by rw [c40_1]; decide) (by decide) ?_
        refine lv_aload_n hx hb dX9_size_111 rfl (lv_at hl 0 rfl) ?_
        refine va_get (D := D) (ci := 8) (v := .ref (qM 15)) (C := RX9) (T := TX9) (N := 29) hx hb ht0 niX9 hown hK hP 0 rfl rfl 15 (by decide) (ht0 _ wd854) (fun _ h9 => h9) rfl dX9_size_112 ?_
        refine lv_iconst (v := 1) hx hb dX9_size_115 (by decide) ?_
        obtain ⟨g116, hok⟩ := gd_some hok
        refine va_iald hx hb hK hP 1 0 rfl rfl (okI_in g116) dX9_size_116 ?_
        cases hok
        subst hQe; exact W.iret hx hb hr (fun t ht hW => ⟨⟨_, (), rfl, rfl, by rw [ht]; exact hP, va_K.moved hW.alike hK, hD⟩, hS.F ht⟩) hS.2.2 dX9_size_117
      have hok := k_neg c40_1 hok
      by_cases c40_2 : x1 = 2
      · have hok := k_pos c40_2 hok
        refine lv_tableIn (tgt := 118) (off := 78) hx hb dX9_size_40 (by rw [c40_2]; decide) (by rw [c40_2]; decide) (by rw [c40_2]; decide) (by decide) ?_
        refine lv_aload_n hx hb dX9_size_118 rfl (lv_at hl 0 rfl) ?_
        refine va_get (D := D) (ci := 8) (v := .ref (qM 15)) (C := RX9) (T := TX9) (N := 29) hx hb ht0 niX9 hown hK hP 0 rfl rfl 15 (by decide) (ht0 _ wd854) (fun _ h9 => h9) rfl dX9_size_119 ?_
        refine lv_iconst (v := 2) hx hb dX9_size_122 (by decide) ?_
        obtain ⟨g123, hok⟩ := gd_some hok
        refine va_iald hx hb hK hP 1 0 rfl rfl (okI_in g123) dX9_size_123 ?_
        cases hok
        subst hQe; exact W.iret hx hb hr (fun t ht hW => ⟨⟨_, (), rfl, rfl, by rw [ht]; exact hP, va_K.moved hW.alike hK, hD⟩, hS.F ht⟩) hS.2.2 dX9_size_124
      have hok := k_neg c40_2 hok
      by_cases c40_3 : x1 = 3
      · have hok := k_pos c40_3 hok
        refine lv_tableIn (tgt := 125) (off := 85) hx hb dX9_size_40 (by rw [c40_3]; decide) (by rw [c40_3]; decide) (by rw [c40_3]; decide) (by decide) ?_
        refine lv_aload_n hx hb dX9_size_125 rfl (lv_at hl 0 rfl) ?_
        obtain ⟨r126, hc126, hok⟩ := k_bind hok
        refine kCi (wc := (wX9_allPlaces cy aM qM (upd vM 0 (0 : Int32)) vM_r)) (wc2 := (wX9_allPlaces cy aM qM (upd vM 0 (0 : Int32)) vM_r)) (wr := [(qM 17, rI cy 9 vM_st)]) (ws2 := (wX9_size cy aM qM (upd vM 0 (0 : Int32)) vM_r vM_st)) (kRunV (As := []) (rest := []) ⟨hx, hb, hml, hown, ht0⟩ (kX9_allPlaces l D cy _ aM qM (upd vM 0 (0 : Int32)) vM_r r126 hc126 _ rfl) (cwV 0 ht0 (gV wd1033 wd1034 wd1035 wd744 wd1036) rfl rfl rfl (by decide +kernel) ⟨Nat.le_of_ble_eq_true rfl, Nat.le_of_ble_eq_true rfl⟩) hK hN hP hD [0, 1] rfl (by decide) 0 8 rfl rfl rfl hl.1 rfl (Nat.le_of_ble_eq_true rfl) dX9_size_126 ⟨Nat.zero_le _, Nat.zero_le _⟩) hP hD hS hA [0, 1] [2] rfl rfl (by decide) (by decide) [1, 2, 0] (by decide) rfl rfl (fun H locs hP hD hS => ?_)
        cases hok
        subst hQe; exact W.iret hx hb hr (fun t ht hW => ⟨⟨_, (), rfl, rfl, by rw [ht]; exact hP, va_K.moved hW.alike hK, hD⟩, hS.F ht⟩) hS.2.2 dX9_size_129
      have hok := k_neg c40_3 hok
      by_cases c40_4 : x1 = 4
      · have hok := k_pos c40_4 hok
        refine lv_tableIn (tgt := 130) (off := 90) hx hb dX9_size_40 (by rw [c40_4]; decide) (by rw [c40_4]; decide) (by rw [c40_4]; decide) (by decide) ?_
        refine lv_aload_n hx hb dX9_size_130 rfl (lv_at hl 0 rfl) ?_
        refine va_get (D := D) (ci := 8) (v := .ref (qM 15)) (C := RX9) (T := TX9) (N := 29) hx hb ht0 niX9 hown hK hP 0 rfl rfl 15 (by decide) (ht0 _ wd854) (fun _ h9 => h9) rfl dX9_size_131 ?_
        refine lv_iconst (v := 3) hx hb dX9_size_134 (by decide) ?_
        obtain ⟨g135, hok⟩ := gd_some hok
        refine va_iald hx hb hK hP 1 0 rfl rfl (okI_in g135) dX9_size_135 ?_
        cases hok
        subst hQe; exact W.iret hx hb hr (fun t ht hW => ⟨⟨_, (), rfl, rfl, by rw [ht]; exact hP, va_K.moved hW.alike hK, hD⟩, hS.F ht⟩) hS.2.2 dX9_size_136
      have hok := k_neg c40_4 hok
      by_cases c40_5 : x1 = 5
      · have hok := k_pos c40_5 hok
        refine lv_tableIn (tgt := 137) (off := 97) hx hb dX9_size_40 (by rw [c40_5]; decide) (by rw [c40_5]; decide) (by rw [c40_5]; decide) (by decide) ?_
        refine lv_aload_n hx hb dX9_size_137 rfl (lv_at hl 0 rfl) ?_
        refine va_get (D := D) (ci := 8) (v := .ref (qM 15)) (C := RX9) (T := TX9) (N := 29) hx hb ht0 niX9 hown hK hP 0 rfl rfl 15 (by decide) (ht0 _ wd854) (fun _ h9 => h9) rfl dX9_size_138 ?_
        refine lv_iconst (v := 4) hx hb dX9_size_141 (by decide) ?_
        obtain ⟨g142, hok⟩ := gd_some hok
        refine va_iald hx hb hK hP 1 0 rfl rfl (okI_in g142) dX9_size_142 ?_
        cases hok
        subst hQe; exact W.iret hx hb hr (fun t ht hW => ⟨⟨_, (), rfl, rfl, by rw [ht]; exact hP, va_K.moved hW.alike hK, hD⟩, hS.F ht⟩) hS.2.2 dX9_size_143
      have hok := k_neg c40_5 hok
      by_cases c40_6 : x1 = 6
      · have hok := k_pos c40_6 hok
        refine lv_tableIn (tgt := 144) (off := 104) hx hb dX9_size_40 (by rw [c40_6]; decide) (by rw [c40_6]; decide) (by rw [c40_6]; decide) (by decide) ?_
        refine lv_aload_n hx hb dX9_size_144 rfl (lv_at hl 0 rfl) ?_
        refine va_get (D := D) (ci := 8) (v := .ref (qM 15)) (C := RX9) (T := TX9) (N := 29) hx hb ht0 niX9 hown hK hP 0 rfl rfl 15 (by decide) (ht0 _ wd854) (fun _ h9 => h9) rfl dX9_size_145 ?_
        refine lv_iconst (v := 5) hx hb dX9_size_148 (by decide) ?_
        obtain ⟨g149, hok⟩ := gd_some hok
        refine va_iald hx hb hK hP 1 0 rfl rfl (okI_in g149) dX9_size_149 ?_
        cases hok
        subst hQe; exact W.iret hx hb hr (fun t ht hW => ⟨⟨_, (), rfl, rfl, by rw [ht]; exact hP, va_K.moved hW.alike hK, hD⟩, hS.F ht⟩) hS.2.2 dX9_size_150
      have hok := k_neg c40_6 hok
      by_cases c40_7 : x1 = 7
      · have hok := k_pos c40_7 hok
        refine lv_tableIn (tgt := 151) (off := 111) hx hb dX9_size_40 (by rw [c40_7]; decide) (by rw [c40_7]; decide) (by rw [c40_7]; decide) (by decide) ?_
        refine lv_aload_n hx hb dX9_size_151 rfl (lv_at hl 0 rfl) ?_
        refine va_get (D := D) (ci := 8) (v := .ref (qM 15)) (C := RX9) (T := TX9) (N := 29) hx hb ht0 niX9 hown hK hP 0 rfl rfl 15 (by decide) (ht0 _ wd854) (fun _ h9 => h9) rfl dX9_size_152 ?_
        refine lv_bipush (v := 6) hx hb dX9_size_155 (by decide) ?_
        obtain ⟨g157, hok⟩ := gd_some hok
        refine va_iald hx hb hK hP 1 0 rfl rfl (okI_in g157) dX9_size_157 ?_
        cases hok
        subst hQe; exact W.iret hx hb hr (fun t ht hW => ⟨⟨_, (), rfl, rfl, by rw [ht]; exact hP, va_K.moved hW.alike hK, hD⟩, hS.F ht⟩) hS.2.2 dX9_size_158
      have hok := k_neg c40_7 hok
      by_cases c40_8 : x1 = 8
      · have hok := k_pos c40_8 hok
        refine lv_tableIn (tgt := 159) (off := 119) hx hb dX9_size_40 (by rw [c40_8]; decide) (by rw [c40_8]; decide) (by rw [c40_8]; decide) (by decide) ?_
        refine lv_aload_n hx hb dX9_size_159 rfl (lv_at hl 0 rfl) ?_
        refine va_get (D := D) (ci := 8) (v := .ref (qM 15)) (C := RX9) (T := TX9) (N := 29) hx hb ht0 niX9 hown hK hP 0 rfl rfl 15 (by decide) (ht0 _ wd854) (fun _ h9 => h9) rfl dX9_size_160 ?_
        refine lv_bipush (v := 7) hx hb dX9_size_163 (by decide) ?_
        obtain ⟨g165, hok⟩ := gd_some hok
        refine va_iald hx hb hK hP 1 0 rfl rfl (okI_in g165) dX9_size_165 ?_
        cases hok
        subst hQe; exact W.iret hx hb hr (fun t ht hW => ⟨⟨_, (), rfl, rfl, by rw [ht]; exact hP, va_K.moved hW.alike hK, hD⟩, hS.F ht⟩) hS.2.2 dX9_size_166
      have hok := k_neg c40_8 hok
      by_cases c40_9 : x1 = 9
      · have hok := k_pos c40_9 hok
        refine lv_tableIn (tgt := 167) (off := 127) hx hb dX9_size_40 (by rw [c40_9]; decide) (by rw [c40_9]; decide) (by rw [c40_9]; decide) (by decide) ?_
        refine lv_aload_n hx hb dX9_size_167 rfl (lv_at hl 0 rfl) ?_
        refine va_get (D := D) (ci := 8) (v := .ref (qM 17)) (C := RX9) (T := TX9) (N := 29) hx hb ht0 niX9 hown hK hP 0 rfl rfl 17 (by decide) (ht0 _ wd858) (fun _ h9 => h9) rfl dX9_size_168 ?_
        refine lv_bipush (v := 8) hx hb dX9_size_171 (by decide) ?_
        obtain ⟨g173, hok⟩ := gd_some hok
        refine va_iald hx hb hK hP 2 0 rfl rfl (okI_in g173) dX9_size_173 ?_
        cases hok
        subst hQe; exact W.iret hx hb hr (fun t ht hW => ⟨⟨_, (), rfl, rfl, by rw [ht]; exact hP, va_K.moved hW.alike hK, hD⟩, hS.F ht⟩) hS.2.2 dX9_size_174
      have hok := k_neg c40_9 hok
      by_cases c40_10 : x1 = 10
      · have hok := k_pos c40_10 hok
        refine lv_tableIn (tgt := 175) (off := 135) hx hb dX9_size_40 (by rw [c40_10]; decide) (by rw [c40_10]; decide) (by rw [c40_10]; decide) (by decide) ?_
        refine lv_aload_n hx hb dX9_size_175 rfl (lv_at hl 0 rfl) ?_
        refine va_get (D := D) (ci := 8) (v := .int (vM 20)) (C := RX9) (T := TX9) (N := 29) hx hb ht0 niX9 hown hK hP 0 rfl rfl 20 (by decide) (ht0 _ wd856) (fun _ h9 => h9) rfl dX9_size_176 ?_
        cases hok
        subst hQe; exact W.iret hx hb hr (fun t ht hW => ⟨⟨_, (), rfl, rfl, by rw [ht]; exact hP, va_K.moved hW.alike hK, hD⟩, hS.F ht⟩) hS.2.2 dX9_size_179
      have hok := k_neg c40_10 hok
      by_cases c40_11 : x1 = 11
      · have hok := k_pos c40_11 hok
        refine lv_tableIn (tgt := 180) (off := 140) hx hb dX9_size_40 (by rw [c40_11]; decide) (by rw [c40_11]; decide) (by rw [c40_11]; decide) (by decide) ?_
        refine lv_aload_n hx hb dX9_size_180 rfl (lv_at hl 0 rfl) ?_
        refine va_get (D := D) (ci := 8) (v := .int (vM 21)) (C := RX9) (T := TX9) (N := 29) hx hb ht0 niX9 hown hK hP 0 rfl rfl 21 (by decide) (ht0 _ wd857) (fun _ h9 => h9) rfl dX9_size_181 ?_
        cases hok
        subst hQe; exact W.iret hx hb hr (fun t ht hW => ⟨⟨_, (), rfl, rfl, by rw [ht]; exact hP, va_K.moved hW.alike hK, hD⟩, hS.F ht⟩) hS.2.2 dX9_size_184
      have hok := k_neg c40_11 hok
      refine lv_tableOut (tgt := 185) hx hb dX9_size_40 (by have q0 := lv_neT c40_0 (a := 0) (by decide); have q1 := lv_neT c40_1 (a := 1) (by decide); have q2 := lv_neT c40_2 (a := 2) (by decide); have q3 := lv_neT c40_3 (a := 3) (by decide); have q4 := lv_neT c40_4 (a := 4) (by decide); have q5 := lv_neT c40_5 (a := 5) (by decide); have q6 := lv_neT c40_6 (a := 6) (by decide); have q7 := lv_neT c40_7 (a := 7) (by decide); have q8 := lv_neT c40_8 (a := 8) (by decide); have q9 := lv_neT c40_9 (a := 9) (by decide); have q10 := lv_neT c40_10 (a := 10) (by decide); have q11 := lv_neT c40_11 (a := 11) (by decide); omega) (by decide) ?_
      refine lv_iconst (v := -1) hx hb dX9_size_185 (by decide) ?_
      cases hok
      subst hQe; exact W.iret hx hb hr (fun t ht hW => ⟨⟨_, (), rfl, rfl, by rw [ht]; exact hP, va_K.moved hW.alike hK, hD⟩, hS.F ht⟩) hS.2.2 dX9_size_186
    · have hok := k_pos c20 hok
      refine lv_iload_n hx hb dX9_size_23 rfl (lv_at hl 1 rfl) ?_
      refine lv_iconst (v := 0) hx hb dX9_size_24 (by decide) ?_
      refine lv_bipush (v := 11) hx hb dX9_size_25 (by decide) ?_
      obtain ⟨r27, hc27, hok⟩ := k_bind hok
      refine kCi (wc := (wX9_in cy )) (wc2 := (wX9_in cy )) (wr := [(aM, oX9 (upd vM 0 (0 : Int32)) qM), (qM 15, rI cy 224 vM_r), (qM 17, rI cy 9 vM_st)]) (ws2 := (wX9_size cy aM qM (upd vM 0 (0 : Int32)) vM_r vM_st)) (kRunS (As := [.int x1, .int 0, .int 11]) (rest := []) ⟨hx, hb, hml, hown, ht0⟩ (kX9_in l D cy _ x1 (0 : Int32) (11 : Int32) r27 hc27 _ rfl) (va_cwS 3 ht0 (gS wd787 wd788 wd744 wd789) rfl rfl rfl (by decide +kernel) ⟨Nat.le_of_ble_eq_true rfl, Nat.le_of_ble_eq_true rfl⟩) hK hN hP hD [] rfl (by decide) rfl hl.1 rfl (Nat.le_of_ble_eq_true rfl) dX9_size_27 ⟨Nat.zero_le _, Nat.zero_le _⟩) hP hD hS hA [] [0, 1, 2] rfl rfl (by decide) (by decide) [0, 1, 2] (by decide) rfl rfl (fun H locs hP hD hS => ?_)
      refine lv_if_eq (tgt := 37) hx hb dX9_size_30 (by decide) (fun c30 => ?_) (fun c30 => ?_)
      · have hok := k_pos c30 hok
        refine lv_iconst (v := -1) hx hb dX9_size_37 (by decide) ?_
        exact J38 (-1 : Int32) H locs ls hP hD hS (lv_sub hl [] rfl) hok
      · have hok := k_neg c30 hok
        refine lv_iconst (v := 0) hx hb dX9_size_33 (by decide) ?_
        refine lv_goto (tgt := 38) hx hb dX9_size_34 (by decide) ?_
        exact J38 (0 : Int32) H locs ls hP hD hS (lv_sub hl [] rfl) hok
  · have hok := k_pos c8 hok
    refine lv_aload_n hx hb dX9_size_11 rfl (lv_at hl 0 rfl) ?_
    refine va_get (D := D) (ci := 8) (v := .int (vM 2)) (C := RX9) (T := TX9) (N := 29) hx hb ht0 niX9 hown hK hP 0 rfl rfl 2 (by decide) (ht0 _ wd738) (fun _ h9 => h9) rfl dX9_size_12 ?_
    cases hok
    subst hQe; exact W.iret hx hb hr (fun t ht hW => ⟨⟨_, (), rfl, rfl, by rw [ht]; exact hP, va_K.moved hW.alike hK, hD⟩, hS.F ht⟩) hS.2.2 dX9_size_15
def wsX9_trouble : List Cond := .code yX9_trouble cX9_trouble 1 (some .int) :: W0
abbrev wX9_trouble (cy : Nat → ClassId) (aM : Nat) (qM : Nat → Nat) (vM : Nat → Int32) : va_W := [(aM, oX9 vM qM)]
set_option maxHeartbeats 4000000 in
set_option maxRecDepth 100000 in
theorem kX9_trouble (l : Launch) (D : va_G) (cy : Nat → ClassId) (sz : Nat) (aM : Nat) (qM : Nat → Nat) (vM : Nat → Int32) (zr : Int32) (z_vM : Nat → Int32) (hok : fX9_trouble vM = some (zr, z_vM)) (A : Nat → Prop) (hAe : va_A (wX9_trouble cy aM qM vM) sz = A) : Met l yX9_trouble wsX9_trouble ({ frames := 0, cells := 0, slots := 0, locals := 0 } : Room) (kPre D cy [.ref aM] (wX9_trouble cy aM qM vM) sz) (kQi D cy zr A (wX9_trouble cy aM qM z_vM)) 0 0 A := by
  refine Met.ofW (cc := cX9_trouble) (maxL := 1) (ret := (some .int)) (by decide) rfl ?_
  intro p e s m args below meth c s₁ B hml hv
  obtain ⟨rfl, hsz, hP, hK, hD0, hN⟩ := hv
  have hx := B.exec
  have hb := B.bytes
  have hr := B.returns
  have ht0 : ∀ w ∈ W0, w.before _ s = true := fun w h => atoms_spec (ws := wsX9_trouble) B.pre w (List.mem_cons_of_mem _ h)
  have hown : s.vm.findClass RX9 = some m.cls := findClass_of_methodNamed B.named
  have hlocks := B.notSynchronized
  subst hsz
  have hD : va_D A (wX9_trouble cy aM qM vM) := by rw [← hAe]; exact hD0.self
  have hA : ∀ q : Nat, s.heap.size ≤ q → A q := fun q h => by rw [← hAe]; exact Or.inr h
  have hS : va_S A s.heap s.heap [] := va_S.rf
  have hl := lv_entry ([.ref aM]) (n := 1) (Nat.le_of_ble_eq_true rfl)
  rw [lg_entry_eq]
  generalize (lg_sl ([.ref aM]) ++ List.replicate (1 - (lg_sl ([.ref aM])).length) Slot.unset).toArray = ls at hl ⊢
  have hl : lv_has ls 1 [(0, .ref aM)] := hl
  unfold fX9_trouble at hok
  obtain ⟨H, hH⟩ : ∃ H, H = s.heap := ⟨_, rfl⟩
  obtain ⟨locs, hlc⟩ : ∃ x : List Loc, x = [] := ⟨_, rfl⟩
  have hP : va_P D vwCl (wX9_trouble cy aM qM vM) H := by rw [hH]; exact hP
  have hS : va_S A s.heap H locs := by rw [hH, hlc]; exact hS
  rw [show W p l e _ s m _ below meth c s.heap [] = W p l e _ s m _ below meth c H locs from by rw [hH, hlc]]
  refine lv_aload_n hx hb dX9_trouble_0 rfl (lv_at hl 0 rfl) ?_
  refine lv_iconst (v := 0) hx hb dX9_trouble_1 (by decide) ?_
  refine va_put (D := D) (ci := 8) (v := .int 0) (ty := .int) (C := RX9) (T := TX9) (N := 29) hx hb ht0 niX9 tyX9 tyX9_ok nmX9 hown hK hP hD hS 0 rfl rfl 0 (by decide) (ht0 _ wd735) (fun _ h9 => h9) rfl (by decide +kernel) rfl rfl (Nat.le_of_ble_eq_true rfl) dX9_trouble_2 (fun H locs hP hD hS => ?_)
  have hP : va_P D vwCl (wX9_trouble cy aM qM (upd vM 0 (0 : Int32))) H := hP
  have hD : va_D A (wX9_trouble cy aM qM (upd vM 0 (0 : Int32))) := hD
  refine lv_aload_n hx hb dX9_trouble_5 rfl (lv_at hl 0 rfl) ?_
  refine va_get (D := D) (ci := 8) (v := .int (vM 11)) (C := RX9) (T := TX9) (N := 29) hx hb ht0 niX9 hown hK hP 0 rfl rfl 11 (by decide) (ht0 _ wd736) (fun _ h9 => h9) rfl dX9_trouble_6 ?_
  cases hok
  exact W.iret hx hb hr (fun t ht hW => ⟨⟨_, (), rfl, rfl, by rw [ht]; exact hP, va_K.moved hW.alike hK, hD⟩, hS.F ht⟩) hS.2.2 dX9_trouble_9
