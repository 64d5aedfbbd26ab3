def wsX9_houseLine : List Cond := .code yX9_houseLine cX9_houseLine 2 none :: W0
abbrev wX9_houseLine (cy : Nat → ClassId) (aM : Nat) (qM : Nat → Nat) (vM : Nat → Int32) (vM_fresh : Nat → Int32) (vM_tape : Nat → Int32) (vM_letters : Nat → Int32) : va_W := [(aM, oX9 vM qM), (qM 16, rI cy 224 vM_fresh), (qM 1, rI cy 900 vM_tape), (qM 12, rI cy 8 vM_letters)]
set_option maxHeartbeats 4000000 in
set_option maxRecDepth 100000 in
theorem kX9_houseLine (l : Launch) (D : va_G) (cy : Nat → ClassId) (ad : (Nat → Nat) × (Nat → Nat)) (sz : Nat) (aM : Nat) (qM : Nat → Nat) (vM : Nat → Int32) (vM_fresh : Nat → Int32) (vM_tape : Nat → Int32) (vM_letters : Nat → Int32) (z_vM : Nat → Int32) (z_vM_fresh : Nat → Int32) (z_vM_letters : Nat → Int32) (hok : fX9_houseLine vM vM_fresh vM_tape vM_letters = some (z_vM, z_vM_fresh, z_vM_letters)) (A : Nat → Prop) (hAe : va_A (wX9_houseLine cy aM qM vM vM_fresh vM_tape vM_letters) sz = A) : Met l yX9_houseLine wsX9_houseLine ({ frames := 8, cells := 0, slots := 0, locals := 173 } : Room) (kPreS D cy ad [.ref aM] (wX9_houseLine cy aM qM vM vM_fresh vM_tape vM_letters) sz A) (kQv D cy A (wX9_houseLine cy aM qM z_vM z_vM_fresh vM_tape z_vM_letters)) 0 0 A := by
  refine Met.ofW (cc := cX9_houseLine) (maxL := 2) (ret := none) (by decide) rfl ?_
  intro p e s m args below meth c s₁ B hml hv
  obtain ⟨rfl, ⟨hsz, hP, hK, hD0, hN⟩, hSt⟩ := hv
  have hx := B.exec
  have hb := B.bytes
  have hr := B.returns
  have ht0 : ∀ w ∈ W0, w.before _ s = true := fun w h => atoms_spec (ws := wsX9_houseLine) B.pre w (List.mem_cons_of_mem _ h)
  have hown : s.vm.findClass RX9 = some m.cls := findClass_of_methodNamed B.named
  have hlocks := B.notSynchronized
  subst hsz
  have hD : va_D A (wX9_houseLine cy aM qM vM vM_fresh vM_tape vM_letters) := by rw [← hAe]; exact hD0.self
  have hA : ∀ q : Nat, s.heap.size ≤ q → A q := fun q h => by rw [← hAe]; exact Or.inr h
  have hS : va_S A s.heap s.heap [] := va_S.rf
  have hl := lv_entry ([.ref aM]) (n := 2) (Nat.le_of_ble_eq_true rfl)
  rw [lg_entry_eq]
  generalize (lg_sl ([.ref aM]) ++ List.replicate (2 - (lg_sl ([.ref aM])).length) Slot.unset).toArray = ls at hl ⊢
  have hl : lv_has ls 2 [(0, .ref aM)] := hl
  generalize hQe : MQ below (kQv D cy A (wX9_houseLine cy aM qM z_vM z_vM_fresh vM_tape z_vM_letters)) ([.ref aM] : List Value).toArray s 0 0 A = Q
  have J68 : ∀ (vM_fresh_68 : Nat → Int32) (vM_letters_68 : Nat → Int32) (vM_68 : Nat → Int32), ∀ (H : Heap) (locs : List Loc) (ls : Array Slot), va_P D vwCl (wX9_houseLine cy aM qM vM_68 vM_fresh_68 vM_tape vM_letters_68) H → va_D A (wX9_houseLine cy aM qM vM_68 vM_fresh_68 vM_tape vM_letters_68) → va_S A s.heap H locs → lv_has ls 2 [] → fX9_houseLine_J68 vM_fresh_68 vM_letters_68 vM_68 = some (z_vM, z_vM_fresh, z_vM_letters) → W p l e ({ frames := 8, cells := 0, slots := 0, locals := 173 } : Room) s m ([.ref aM] : List Value).toArray below meth c H locs 0 0 Q (F0 m 68 ls []) := by
    intro vM_fresh_68 vM_letters_68 vM_68 H locs ls hP hD hS hl hok
    unfold fX9_houseLine_J68 at hok
    cases hok
    subst hQe; exact W.vret hx hb hr (fun t ht hW => ⟨⟨(), rfl, trivial, by rw [ht]; exact hP, va_K.moved hW.alike hK, hD⟩, hS.F ht⟩) hS.2.2 dX9_houseLine_68
  have J18 : ∀ (vM_18 : Nat → Int32), ∀ (H : Heap) (locs : List Loc) (ls : Array Slot), va_P D vwCl (wX9_houseLine cy aM qM vM_18 vM_fresh vM_tape vM_letters) H → va_D A (wX9_houseLine cy aM qM vM_18 vM_fresh vM_tape vM_letters) → va_S A s.heap H locs → lv_has ls 2 [(0, .ref aM)] → fX9_houseLine_J18 vM_fresh vM_tape vM_letters vM_18 = some (z_vM, z_vM_fresh, z_vM_letters) → W p l e ({ frames := 8, cells := 0, slots := 0, locals := 173 } : Room) s m ([.ref aM] : List Value).toArray below meth c H locs 0 0 Q (F0 m 18 ls []) := by
    intro vM_18 H locs ls hP hD hS hl hok
    unfold fX9_houseLine_J18 at hok
    refine lv_aload_n hx hb dX9_houseLine_18 rfl (lv_at hl 0 rfl) ?_
    refine va_get (D := D) (ci := 8) (v := .int (vM_18 13)) (C := RX9) (T := TX9) (N := 29) hx hb ht0 niX9 hown hK hP 0 rfl rfl 13 (by decide) (ht0 _ wd757) (fun _ h9 => h9) rfl dX9_houseLine_19 ?_
    refine lv_if_eq (tgt := 26) hx hb dX9_houseLine_22 (by decide) (fun c22 => ?_) (fun c22 => ?_)
    · have hok := k_pos c22 hok
      refine lv_aload_n hx hb dX9_houseLine_26 rfl (lv_at hl 0 rfl) ?_
      obtain ⟨⟨vM_27, vM_letters_27⟩, hc27, hok⟩ := k_bind hok
      try dsimp only at hok
      refine kCv (wc := (wX9_next cy aM qM vM_18 vM_tape vM_letters)) (wc2 := (wX9_next cy aM qM vM_27 vM_tape vM_letters_27)) (wr := [(qM 16, rI cy 224 vM_fresh)]) (ws2 := (wX9_houseLine cy aM qM vM_27 vM_fresh vM_tape vM_letters_27)) (kRunV (As := []) (rest := []) ⟨hx, hb, hml, hown, ht0⟩ (kX9_next l D cy _ aM qM vM_18 vM_tape vM_letters vM_27 vM_letters_27 hc27 _ rfl) (cwV 0 ht0 (gV wd766 wd767 wd768 wd744 wd769) rfl rfl rfl (by decide +kernel) ⟨Nat.le_of_ble_eq_true rfl, Nat.le_of_ble_eq_true rfl⟩) hK hN hP hD [0, 2, 3] rfl (by decide) 0 8 rfl rfl rfl hl.1 rfl (Nat.le_of_ble_eq_true rfl) dX9_houseLine_27 ⟨Nat.zero_le _, Nat.zero_le _⟩) hP hD hS hA [0, 2, 3] [1] rfl rfl (by decide) (by decide) [1, 0, 2, 3] (by decide) rfl rfl (fun H locs hP hD hS => ?_)
      refine lv_aload_n hx hb dX9_houseLine_30 rfl (lv_at hl 0 rfl) ?_
      refine va_ldcS (own := RX9) (tx := "cellar") (index := 201) (q := ad.1 4) hx hb hown (hSt.2.1 (RX9, 201, "cellar", 4) (List.mem_of_getElem? (i := 30) rfl)) dX9_houseLine_31 ?_
      refine lv_iconst (v := 1) hx hb dX9_houseLine_33 (by decide) ?_
      refine lv_iconst (v := 5) hx hb dX9_houseLine_34 (by decide) ?_
      obtain ⟨⟨r35, vM_35, vM_letters_35⟩, hc35, hok⟩ := k_bind hok
      try dsimp only at hok
      refine kCi (wc := (wX9_after cy aM qM vM_27 vM_letters_27 vM_tape)) (wc2 := (wX9_after cy aM qM vM_35 vM_letters_35 vM_tape)) (wr := [(qM 16, rI cy 224 vM_fresh)]) (ws2 := (wX9_houseLine cy aM qM vM_35 vM_fresh vM_tape vM_letters_35)) (kRunVS (As := [.ref (ad.1 4), .int 1, .int 5]) (rest := []) ⟨hx, hb, hml, hown, ht0⟩ (kX9_after l D cy ad _ aM qM vM_27 vM_letters_27 vM_tape 4 (1 : Int32) (5 : Int32) r35 vM_35 vM_letters_35 hc35 _ rfl) (cwV 3 ht0 (gV wd806 wd807 wd808 wd744 wd809) rfl rfl rfl (by decide +kernel) ⟨Nat.le_of_ble_eq_true rfl, Nat.le_of_ble_eq_true rfl⟩) hK hN hP hD hSt hS hA [0, 3, 2] rfl (by decide) 0 8 rfl rfl rfl hl.1 rfl (Nat.le_of_ble_eq_true rfl) dX9_houseLine_35 ⟨Nat.zero_le _, Nat.zero_le _⟩) hP hD hS hA [0, 3, 2] [1] rfl rfl (by decide) (by decide) [1, 0, 3, 2] (by decide) rfl rfl (fun H locs hP hD hS => ?_)
      refine lv_istore_n (lv' := [(1, .int r35), (0, .ref aM)]) hx hb dX9_houseLine_38 rfl hl (by decide) rfl (fun ls hl => ?_)
      refine lv_aload_n hx hb dX9_houseLine_39 rfl (lv_at hl 1 rfl) ?_
      refine va_get (D := D) (ci := 8) (v := .ref (qM 16)) (C := RX9) (T := TX9) (N := 29) hx hb ht0 niX9 hown hK hP 0 rfl rfl 16 (by decide) (ht0 _ wd778) (fun _ h9 => h9) rfl dX9_houseLine_40 ?_
      refine lv_iconst (v := 1) hx hb dX9_houseLine_43 (by decide) ?_
      refine lv_aload_n hx hb dX9_houseLine_44 rfl (lv_at hl 1 rfl) ?_
      refine va_ldcS (own := RX9) (tx := "damp") (index := 207) (q := ad.1 5) hx hb hown (hSt.2.1 (RX9, 207, "damp", 5) (List.mem_of_getElem? (i := 31) rfl)) dX9_houseLine_45 ?_
      refine lv_iconst (v := 0) hx hb dX9_houseLine_47 (by decide) ?_
      refine lv_bipush (v := 100) hx hb dX9_houseLine_48 (by decide) ?_
      obtain ⟨⟨r50, vM_50, vM_letters_50⟩, hc50, hok⟩ := k_bind hok
      try dsimp only at hok
      refine kCi (wc := (wX9_after cy aM qM vM_35 vM_letters_35 vM_tape)) (wc2 := (wX9_after cy aM qM vM_50 vM_letters_50 vM_tape)) (wr := [(qM 16, rI cy 224 vM_fresh)]) (ws2 := (wX9_houseLine cy aM qM vM_50 vM_fresh vM_tape vM_letters_50)) (kRunVS (As := [.ref (ad.1 5), .int 0, .int 100]) (rest := [.int 1, .ref (qM 16)]) ⟨hx, hb, hml, hown, ht0⟩ (kX9_after l D cy ad _ aM qM vM_35 vM_letters_35 vM_tape 5 (0 : Int32) (100 : Int32) r50 vM_50 vM_letters_50 hc50 _ rfl) (cwV 3 ht0 (gV wd806 wd807 wd808 wd744 wd809) rfl rfl rfl (by decide +kernel) ⟨Nat.le_of_ble_eq_true rfl, Nat.le_of_ble_eq_true rfl⟩) hK hN hP hD hSt hS hA [0, 3, 2] rfl (by decide) 0 8 rfl rfl rfl hl.1 rfl (Nat.le_of_ble_eq_true rfl) dX9_houseLine_50 ⟨Nat.zero_le _, Nat.zero_le _⟩) hP hD hS hA [0, 3, 2] [1] rfl rfl (by decide) (by decide) [1, 0, 3, 2] (by decide) rfl rfl (fun H locs hP hD hS => ?_)
      obtain ⟨g53, hok⟩ := gd_some hok
      refine va_iast hx hb hK hP hD hS 1 0 rfl rfl (okI_in g53) dX9_houseLine_53 (fun H locs hP hD hS => ?_)
      have hP : va_P D vwCl (wX9_houseLine cy aM qM vM_50 (upd vM_fresh (1 : Int32).toNatClampNeg r50) vM_tape vM_letters_50) H := hP
      have hD : va_D A (wX9_houseLine cy aM qM vM_50 (upd vM_fresh (1 : Int32).toNatClampNeg r50) vM_tape vM_letters_50) := hD
      refine lv_aload_n hx hb dX9_houseLine_54 rfl (lv_at hl 1 rfl) ?_
      refine va_get (D := D) (ci := 8) (v := .int (vM_50 13)) (C := RX9) (T := TX9) (N := 29) hx hb ht0 niX9 hown hK hP 0 rfl rfl 13 (by decide) (ht0 _ wd757) (fun _ h9 => h9) rfl dX9_houseLine_55 ?_
      refine lv_if_ne (tgt := 68) hx hb dX9_houseLine_58 (by decide) (fun c58 => ?_) (fun c58 => ?_)
      · have hok := k_neg c58 hok
        exact J68 (upd vM_fresh (1 : Int32).toNatClampNeg r50) vM_letters_50 vM_50 H locs ls hP hD hS (lv_sub hl [] rfl) hok
      · have hok := k_pos c58 hok
        refine lv_aload_n hx hb dX9_houseLine_61 rfl (lv_at hl 1 rfl) ?_
        refine va_get (D := D) (ci := 8) (v := .ref (qM 16)) (C := RX9) (T := TX9) (N := 29) hx hb ht0 niX9 hown hK hP 0 rfl rfl 16 (by decide) (ht0 _ wd778) (fun _ h9 => h9) rfl dX9_houseLine_62 ?_
        refine lv_iconst (v := 0) hx hb dX9_houseLine_65 (by decide) ?_
        refine lv_iload_n hx hb dX9_houseLine_66 rfl (lv_at hl 0 rfl) ?_
        obtain ⟨g67, hok⟩ := gd_some hok
        refine va_iast hx hb hK hP hD hS 1 0 rfl rfl (okI_in g67) dX9_houseLine_67 (fun H locs hP hD hS => ?_)
        have hP : va_P D vwCl (wX9_houseLine cy aM qM vM_50 (upd (upd vM_fresh (1 : Int32).toNatClampNeg r50) (0 : Int32).toNatClampNeg r35) vM_tape vM_letters_50) H := hP
        have hD : va_D A (wX9_houseLine cy aM qM vM_50 (upd (upd vM_fresh (1 : Int32).toNatClampNeg r50) (0 : Int32).toNatClampNeg r35) vM_tape vM_letters_50) := hD
        exact J68 (upd (upd vM_fresh (1 : Int32).toNatClampNeg r50) (0 : Int32).toNatClampNeg r35) vM_letters_50 vM_50 H locs ls hP hD hS (lv_sub hl [] rfl) hok
    · have hok := k_neg c22 hok
      cases hok
      subst hQe; exact W.vret hx hb hr (fun t ht hW => ⟨⟨(), rfl, trivial, by rw [ht]; exact hP, va_K.moved hW.alike hK, hD⟩, hS.F ht⟩) hS.2.2 dX9_houseLine_25
  unfold fX9_houseLine at hok
  obtain ⟨H, hH⟩ : ∃ H, H = s.heap := ⟨_, rfl⟩
  obtain ⟨locs, hlc⟩ : ∃ x : List Loc, x = [] := ⟨_, rfl⟩
  have hP : va_P D vwCl (wX9_houseLine cy aM qM vM vM_fresh vM_tape vM_letters) H := by rw [hH]; exact hP
  have hS : va_S A s.heap H locs := by rw [hH, hlc]; exact hS
  rw [show W p l e _ s m _ below meth c s.heap [] = W p l e _ s m _ below meth c H locs from by rw [hH, hlc]]
  refine lv_aload_n hx hb dX9_houseLine_0 rfl (lv_at hl 0 rfl) ?_
  refine va_get (D := D) (ci := 8) (v := .ref (qM 16)) (C := RX9) (T := TX9) (N := 29) hx hb ht0 niX9 hown hK hP 0 rfl rfl 16 (by decide) (ht0 _ wd778) (fun _ h9 => h9) rfl dX9_houseLine_1 ?_
  refine lv_iconst (v := 0) hx hb dX9_houseLine_4 (by decide) ?_
  obtain ⟨g5, hok⟩ := gd_some hok
  refine va_iald hx hb hK hP 1 0 rfl rfl (okI_in g5) dX9_houseLine_5 ?_
  refine lv_if_le (tgt := 18) hx hb dX9_houseLine_6 (by decide) (fun c6 => ?_) (fun c6 => ?_)
  · have hok := k_pos c6 hok
    exact J18 vM H locs ls hP hD hS (lv_sub hl [0] rfl) hok
  · have hok := k_neg c6 hok
    refine lv_aload_n hx hb dX9_houseLine_9 rfl (lv_at hl 0 rfl) ?_
    refine lv_iconst (v := 3) hx hb dX9_houseLine_10 (by decide) ?_
    refine lv_aload_n hx hb dX9_houseLine_11 rfl (lv_at hl 0 rfl) ?_
    refine va_get (D := D) (ci := 8) (v := .int (vM 4)) (C := RX9) (T := TX9) (N := 29) hx hb ht0 niX9 hown hK hP 0 rfl rfl 4 (by decide) (ht0 _ wd756) (fun _ h9 => h9) rfl dX9_houseLine_12 ?_
    obtain ⟨vM_15, hc15, hok⟩ := k_bind hok
    refine kCv (wc := (wX9_wrong cy aM qM vM)) (wc2 := (wX9_wrong cy aM qM vM_15)) (wr := [(qM 16, rI cy 224 vM_fresh), (qM 1, rI cy 900 vM_tape), (qM 12, rI cy 8 vM_letters)]) (ws2 := (wX9_houseLine cy aM qM vM_15 vM_fresh vM_tape vM_letters)) (kRunV (As := [.int 3, .int (vM 4)]) (rest := []) ⟨hx, hb, hml, hown, ht0⟩ (kX9_wrong l D cy _ aM qM vM (3 : Int32) (vM 4) vM_15 hc15 _ rfl) (cwV 2 ht0 (gV wd774 wd775 wd776 wd744 wd777) rfl rfl rfl (by decide +kernel) ⟨Nat.le_of_ble_eq_true rfl, Nat.le_of_ble_eq_true rfl⟩) hK hN hP hD [0] rfl (by decide) 0 8 rfl rfl rfl hl.1 rfl (Nat.le_of_ble_eq_true rfl) dX9_houseLine_15 ⟨Nat.zero_le _, Nat.zero_le _⟩) hP hD hS hA [0] [1, 2, 3] rfl rfl (by decide) (by decide) [3, 0, 1, 2] (by decide) rfl rfl (fun H locs hP hD hS => ?_)
    exact J18 vM_15 H locs ls hP hD hS (lv_sub hl [0] rfl) hok
def wsX9_begins : List Cond := .code yX9_begins cX9_begins 3 (some .boolean) :: W0
abbrev wX9_begins (cy : Nat → ClassId) (aM : Nat) (qM : Nat → Nat) (vM : Nat → Int32) (vM_letters : Nat → Int32) (vM_fresh : Nat → Int32) (vM_tape : Nat → Int32) : va_W := [(aM, oX9 vM qM), (qM 12, rI cy 8 vM_letters), (qM 16, rI cy 224 vM_fresh), (qM 1, rI cy 900 vM_tape)]
set_option maxHeartbeats 4000000 in
set_option maxRecDepth 100000 in
theorem kX9_begins (l : Launch) (D : va_G) (cy : Nat → ClassId) (ad : (Nat → Nat) × (Nat → Nat)) (sz : Nat) (aM : Nat) (qM : Nat → Nat) (vM : Nat → Int32) (vM_letters : Nat → Int32) (vM_fresh : Nat → Int32) (vM_tape : Nat → Int32) (x1 : Nat) (x2 : Int32) (zr : Int32) (z_vM : Nat → Int32) (z_vM_letters : Nat → Int32) (hok : fX9_begins vM vM_letters vM_fresh vM_tape x1 x2 = some (zr, z_vM, z_vM_letters)) (A : Nat → Prop) (hAe : va_A (wX9_begins cy aM qM vM vM_letters vM_fresh vM_tape) sz = A) : Met l yX9_begins wsX9_begins ({ frames := 5, cells := 0, slots := 0, locals := 108 } : Room) (kPreS D cy ad [.ref aM, .ref (ad.1 x1), .int x2] (wX9_begins cy aM qM vM vM_letters vM_fresh vM_tape) sz A) (kQi D cy zr A (wX9_begins cy aM qM z_vM z_vM_letters vM_fresh vM_tape)) 0 0 A := by
  refine Met.ofW (cc := cX9_begins) (maxL := 3) (ret := (some .boolean)) (by decide) rfl ?_
  intro p e s m args below meth c s₁ B hml hv
  obtain ⟨rfl, ⟨hsz, hP, hK, hD0, hN⟩, hSt⟩ := hv
  have hx := B.exec
  have hb := B.bytes
  have hr := B.returns
  have ht0 : ∀ w ∈ W0, w.before _ s = true := fun w h => atoms_spec (ws := wsX9_begins) B.pre w (List.mem_cons_of_mem _ h)
  have hown : s.vm.findClass RX9 = some m.cls := findClass_of_methodNamed B.named
  have hlocks := B.notSynchronized
  subst hsz
  have hD : va_D A (wX9_begins cy aM qM vM vM_letters vM_fresh vM_tape) := by rw [← hAe]; exact hD0.self
  have hA : ∀ q : Nat, s.heap.size ≤ q → A q := fun q h => by rw [← hAe]; exact Or.inr h
  have hS : va_S A s.heap s.heap [] := va_S.rf
  have hl := lv_entry ([.ref aM, .ref (ad.1 x1), .int x2]) (n := 3) (Nat.le_of_ble_eq_true rfl)
  rw [lg_entry_eq]
  generalize (lg_sl ([.ref aM, .ref (ad.1 x1), .int x2]) ++ List.replicate (3 - (lg_sl ([.ref aM, .ref (ad.1 x1), .int x2])).length) Slot.unset).toArray = ls at hl ⊢
  have hl : lv_has ls 3 [(0, .ref aM), (1, .ref (ad.1 x1)), (2, .int x2)] := hl
  generalize hQe : MQ below (kQi D cy zr A (wX9_begins cy aM qM z_vM z_vM_letters vM_fresh vM_tape)) ([.ref aM, .ref (ad.1 x1), .int x2] : List Value).toArray s 0 0 A = Q
  have J53 : ∀ (vM_letters_53 : Nat → Int32) (vM_53 : Nat → Int32), ∀ (H : Heap) (locs : List Loc) (ls : Array Slot), va_P D vwCl (wX9_begins cy aM qM vM_53 vM_letters_53 vM_fresh vM_tape) H → va_D A (wX9_begins cy aM qM vM_53 vM_letters_53 vM_fresh vM_tape) → va_S A s.heap H locs → lv_has ls 3 [] → fX9_begins_J53 vM_letters_53 vM_53 = some (zr, z_vM, z_vM_letters) → W p l e ({ frames := 5, cells := 0, slots := 0, locals := 108 } : Room) s m ([.ref aM, .ref (ad.1 x1), .int x2] : List Value).toArray below meth c H locs 0 0 Q (F0 m 53 ls []) := by
    intro vM_letters_53 vM_53 H locs ls hP hD hS hl hok
    unfold fX9_begins_J53 at hok
    refine lv_iconst (v := 1) hx hb dX9_begins_53 (by decide) ?_
    cases hok
    subst hQe; exact W.zret hx hb hr rfl (fun t ht hW => ⟨⟨_, (), rfl, rfl, by rw [ht]; exact hP, va_K.moved hW.alike hK, hD⟩, hS.F ht⟩) hS.2.2 dX9_begins_54
  have J42 : ∀ (vM_42 : Nat → Int32), ∀ (H : Heap) (locs : List Loc) (ls : Array Slot), va_P D vwCl (wX9_begins cy aM qM vM_42 vM_letters vM_fresh vM_tape) H → va_D A (wX9_begins cy aM qM vM_42 vM_letters vM_fresh vM_tape) → va_S A s.heap H locs → lv_has ls 3 [(0, .ref aM)] → fX9_begins_J42 vM_letters vM_tape vM_42 = some (zr, z_vM, z_vM_letters) → W p l e ({ frames := 5, cells := 0, slots := 0, locals := 108 } : Room) s m ([.ref aM, .ref (ad.1 x1), .int x2] : List Value).toArray below meth c H locs 0 0 Q (F0 m 42 ls []) := by
    intro vM_42 H locs ls hP hD hS hl hok
    unfold fX9_begins_J42 at hok
    refine lv_aload_n hx hb dX9_begins_42 rfl (lv_at hl 0 rfl) ?_
    refine va_get (D := D) (ci := 8) (v := .int (vM_42 13)) (C := RX9) (T := TX9) (N := 29) hx hb ht0 niX9 hown hK hP 0 rfl rfl 13 (by decide) (ht0 _ wd757) (fun _ h9 => h9) rfl dX9_begins_43 ?_
    refine lv_if_ne (tgt := 53) hx hb dX9_begins_46 (by decide) (fun c46 => ?_) (fun c46 => ?_)
    · have hok := k_neg c46 hok
      exact J53 vM_letters vM_42 H locs ls hP hD hS (lv_sub hl [] rfl) hok
    · have hok := k_pos c46 hok
      refine lv_aload_n hx hb dX9_begins_49 rfl (lv_at hl 0 rfl) ?_
      obtain ⟨⟨vM_50, vM_letters_50⟩, hc50, hok⟩ := k_bind hok
      try dsimp only at hok
      refine kCv (wc := (wX9_next cy aM qM vM_42 vM_tape vM_letters)) (wc2 := (wX9_next cy aM qM vM_50 vM_tape vM_letters_50)) (wr := [(qM 16, rI cy 224 vM_fresh)]) (ws2 := (wX9_begins cy aM qM vM_50 vM_letters_50 vM_fresh vM_tape)) (kRunV (As := []) (rest := []) ⟨hx, hb, hml, hown, ht0⟩ (kX9_next l D cy _ aM qM vM_42 vM_tape vM_letters vM_50 vM_letters_50 hc50 _ rfl) (cwV 0 ht0 (gV wd766 wd767 wd768 wd744 wd769) rfl rfl rfl (by decide +kernel) ⟨Nat.le_of_ble_eq_true rfl, Nat.le_of_ble_eq_true rfl⟩) hK hN hP hD [0, 3, 1] rfl (by decide) 0 8 rfl rfl rfl hl.1 rfl (Nat.le_of_ble_eq_true rfl) dX9_begins_50 ⟨Nat.zero_le _, Nat.zero_le _⟩) hP hD hS hA [0, 3, 1] [2] rfl rfl (by decide) (by decide) [1, 3, 0, 2] (by decide) rfl rfl (fun H locs hP hD hS => ?_)
      exact J53 vM_letters_50 vM_50 H locs ls hP hD hS (lv_sub hl [] rfl) hok
  have J23 : ∀ (vM_23 : Nat → Int32), ∀ (H : Heap) (locs : List Loc) (ls : Array Slot), va_P D vwCl (wX9_begins cy aM qM vM_23 vM_letters vM_fresh vM_tape) H → va_D A (wX9_begins cy aM qM vM_23 vM_letters vM_fresh vM_tape) → va_S A s.heap H locs → lv_has ls 3 [(0, .ref aM)] → fX9_begins_J23 vM_letters vM_fresh vM_tape vM_23 = some (zr, z_vM, z_vM_letters) → W p l e ({ frames := 5, cells := 0, slots := 0, locals := 108 } : Room) s m ([.ref aM, .ref (ad.1 x1), .int x2] : List Value).toArray below meth c H locs 0 0 Q (F0 m 23 ls []) := by
    intro vM_23 H locs ls hP hD hS hl hok
    unfold fX9_begins_J23 at hok
    refine lv_aload_n hx hb dX9_begins_23 rfl (lv_at hl 0 rfl) ?_
    refine va_get (D := D) (ci := 8) (v := .ref (qM 16)) (C := RX9) (T := TX9) (N := 29) hx hb ht0 niX9 hown hK hP 0 rfl rfl 16 (by decide) (ht0 _ wd778) (fun _ h9 => h9) rfl dX9_begins_24 ?_
    refine lv_iconst (v := 0) hx hb dX9_begins_27 (by decide) ?_
    obtain ⟨g28, hok⟩ := gd_some hok
    refine va_iald hx hb hK hP 2 0 rfl rfl (okI_in g28) dX9_begins_28 ?_
    refine lv_if_ne (tgt := 42) hx hb dX9_begins_29 (by decide) (fun c29 => ?_) (fun c29 => ?_)
    · have hok := k_neg c29 hok
      exact J42 vM_23 H locs ls hP hD hS (lv_sub hl [0] rfl) hok
    · have hok := k_pos c29 hok
      refine lv_aload_n hx hb dX9_begins_32 rfl (lv_at hl 0 rfl) ?_
      refine lv_bipush (v := 6) hx hb dX9_begins_33 (by decide) ?_
      refine lv_aload_n hx hb dX9_begins_35 rfl (lv_at hl 0 rfl) ?_
      refine va_get (D := D) (ci := 8) (v := .int (vM_23 4)) (C := RX9) (T := TX9) (N := 29) hx hb ht0 niX9 hown hK hP 0 rfl rfl 4 (by decide) (ht0 _ wd756) (fun _ h9 => h9) rfl dX9_begins_36 ?_
      obtain ⟨vM_39, hc39, hok⟩ := k_bind hok
      refine kCv (wc := (wX9_wrong cy aM qM vM_23)) (wc2 := (wX9_wrong cy aM qM vM_39)) (wr := [(qM 12, rI cy 8 vM_letters), (qM 16, rI cy 224 vM_fresh), (qM 1, rI cy 900 vM_tape)]) (ws2 := (wX9_begins cy aM qM vM_39 vM_letters vM_fresh vM_tape)) (kRunV (As := [.int 6, .int (vM_23 4)]) (rest := []) ⟨hx, hb, hml, hown, ht0⟩ (kX9_wrong l D cy _ aM qM vM_23 (6 : Int32) (vM_23 4) vM_39 hc39 _ rfl) (cwV 2 ht0 (gV wd774 wd775 wd776 wd744 wd777) rfl rfl rfl (by decide +kernel) ⟨Nat.le_of_ble_eq_true rfl, Nat.le_of_ble_eq_true rfl⟩) hK hN hP hD [0] rfl (by decide) 0 8 rfl rfl rfl hl.1 rfl (Nat.le_of_ble_eq_true rfl) dX9_begins_39 ⟨Nat.zero_le _, Nat.zero_le _⟩) hP hD hS hA [0] [1, 2, 3] rfl rfl (by decide) (by decide) [3, 0, 1, 2] (by decide) rfl rfl (fun H locs hP hD hS => ?_)
      exact J42 vM_39 H locs ls hP hD hS (lv_sub hl [0] rfl) hok
  unfold fX9_begins at hok
  obtain ⟨H, hH⟩ : ∃ H, H = s.heap := ⟨_, rfl⟩
  obtain ⟨locs, hlc⟩ : ∃ x : List Loc, x = [] := ⟨_, rfl⟩
  have hP : va_P D vwCl (wX9_begins cy aM qM vM vM_letters vM_fresh vM_tape) H := by rw [hH]; exact hP
  have hS : va_S A s.heap H locs := by rw [hH, hlc]; exact hS
  rw [show W p l e _ s m _ below meth c s.heap [] = W p l e _ s m _ below meth c H locs from by rw [hH, hlc]]
  refine lv_aload_n hx hb dX9_begins_0 rfl (lv_at hl 0 rfl) ?_
  refine lv_aload_n hx hb dX9_begins_1 rfl (lv_at hl 1 rfl) ?_
  obtain ⟨r2, hc2, hok⟩ := k_bind hok
  refine kCi (wc := (wX9_isWord cy aM qM vM vM_letters)) (wc2 := (wX9_isWord cy aM qM vM vM_letters)) (wr := [(qM 16, rI cy 224 vM_fresh), (qM 1, rI cy 900 vM_tape)]) (ws2 := (wX9_begins cy aM qM vM vM_letters vM_fresh vM_tape)) (kRunVS (As := [.ref (ad.1 x1)]) (rest := []) ⟨hx, hb, hml, hown, ht0⟩ (kX9_isWord l D cy ad _ aM qM vM vM_letters x1 r2 hc2 _ rfl) (cwV 1 ht0 (gV wd762 wd763 wd764 wd744 wd765) rfl rfl rfl (by decide +kernel) ⟨Nat.le_of_ble_eq_true rfl, Nat.le_of_ble_eq_true rfl⟩) hK hN hP hD hSt hS hA [0, 1] rfl (by decide) 0 8 rfl rfl rfl hl.1 rfl (Nat.le_of_ble_eq_true rfl) dX9_begins_2 ⟨Nat.zero_le _, Nat.zero_le _⟩) hP hD hS hA [0, 1] [2, 3] rfl rfl (by decide) (by decide) [2, 3, 0, 1] (by decide) rfl rfl (fun H locs hP hD hS => ?_)
  refine lv_if_ne (tgt := 10) hx hb dX9_begins_5 (by decide) (fun c5 => ?_) (fun c5 => ?_)
  · have hok := k_neg c5 hok
    refine lv_iload_n hx hb dX9_begins_10 rfl (lv_at hl 2 rfl) ?_
    refine lv_if_ne (tgt := 23) hx hb dX9_begins_11 (by decide) (fun c11 => ?_) (fun c11 => ?_)
    · have hok := k_neg c11 hok
      exact J23 vM H locs ls hP hD hS (lv_sub hl [0] rfl) hok
    · have hok := k_pos c11 hok
      refine lv_aload_n hx hb dX9_begins_14 rfl (lv_at hl 0 rfl) ?_
      refine lv_iconst (v := 5) hx hb dX9_begins_15 (by decide) ?_
      refine lv_aload_n hx hb dX9_begins_16 rfl (lv_at hl 0 rfl) ?_
      refine va_get (D := D) (ci := 8) (v := .int (vM 4)) (C := RX9) (T := TX9) (N := 29) hx hb ht0 niX9 hown hK hP 0 rfl rfl 4 (by decide) (ht0 _ wd756) (fun _ h9 => h9) rfl dX9_begins_17 ?_
      obtain ⟨vM_20, hc20, hok⟩ := k_bind hok
      refine kCv (wc := (wX9_wrong cy aM qM vM)) (wc2 := (wX9_wrong cy aM qM vM_20)) (wr := [(qM 12, rI cy 8 vM_letters), (qM 16, rI cy 224 vM_fresh), (qM 1, rI cy 900 vM_tape)]) (ws2 := (wX9_begins cy aM qM vM_20 vM_letters vM_fresh vM_tape)) (kRunV (As := [.int 5, .int (vM 4)]) (rest := []) ⟨hx, hb, hml, hown, ht0⟩ (kX9_wrong l D cy _ aM qM vM (5 : Int32) (vM 4) vM_20 hc20 _ rfl) (cwV 2 ht0 (gV wd774 wd775 wd776 wd744 wd777) rfl rfl rfl (by decide +kernel) ⟨Nat.le_of_ble_eq_true rfl, Nat.le_of_ble_eq_true rfl⟩) hK hN hP hD [0] rfl (by decide) 0 8 rfl rfl rfl hl.1 rfl (Nat.le_of_ble_eq_true rfl) dX9_begins_20 ⟨Nat.zero_le _, Nat.zero_le _⟩) hP hD hS hA [0] [1, 2, 3] rfl rfl (by decide) (by decide) [3, 0, 1, 2] (by decide) rfl rfl (fun H locs hP hD hS => ?_)
      exact J23 vM_20 H locs ls hP hD hS (lv_sub hl [0] rfl) hok
  · have hok := k_pos c5 hok
    refine lv_iconst (v := 0) hx hb dX9_begins_8 (by decide) ?_
    cases hok
    subst hQe; exact W.zret hx hb hr rfl (fun t ht hW => ⟨⟨_, (), rfl, rfl, by rw [ht]; exact hP, va_K.moved hW.alike hK, hD⟩, hS.F ht⟩) hS.2.2 dX9_begins_9
def wsX9_ringLine : List Cond := .code yX9_ringLine cX9_ringLine 3 none :: W0
abbrev wX9_ringLine (cy : Nat → ClassId) (aM : Nat) (qM : Nat → Nat) (vM : Nat → Int32) (vM_fresh : Nat → Int32) (vM_letters : Nat → Int32) (vM_tape : Nat → Int32) : va_W := [(aM, oX9 vM qM), (qM 16, rI cy 224 vM_fresh), (qM 12, rI cy 8 vM_letters), (qM 1, rI cy 900 vM_tape)]
set_option maxHeartbeats 4000000 in
set_option maxRecDepth 100000 in
theorem kX9_ringLine (l : Launch) (D : va_G) (cy : Nat → ClassId) (ad : (Nat → Nat) × (Nat → Nat)) (sz : Nat) (aM : Nat) (qM : Nat → Nat) (vM : Nat → Int32) (vM_fresh : Nat → Int32) (vM_letters : Nat → Int32) (vM_tape : Nat → Int32) (z_vM : Nat → Int32) (z_vM_fresh : Nat → Int32) (z_vM_letters : Nat → Int32) (hok : fX9_ringLine vM vM_fresh vM_letters vM_tape = some (z_vM, z_vM_fresh, z_vM_letters)) (A : Nat → Prop) (hAe : va_A (wX9_ringLine cy aM qM vM vM_fresh vM_letters vM_tape) sz = A) : Met l yX9_ringLine wsX9_ringLine ({ frames := 8, cells := 0, slots := 0, locals := 173 } : Room) (kPreS D cy ad [.ref aM] (wX9_ringLine cy aM qM vM vM_fresh vM_letters vM_tape) sz A) (kQv D cy A (wX9_ringLine cy aM qM z_vM z_vM_fresh z_vM_letters vM_tape)) 0 0 A := by
  refine Met.ofW (cc := cX9_ringLine) (maxL := 3) (ret := none) (by decide) rfl ?_
  intro p e s m args below meth c s₁ B hml hv
  obtain ⟨rfl, ⟨hsz, hP, hK, hD0, hN⟩, hSt⟩ := hv
  have hx := B.exec
  have hb := B.bytes
  have hr := B.returns
  have ht0 : ∀ w ∈ W0, w.before _ s = true := fun w h => atoms_spec (ws := wsX9_ringLine) B.pre w (List.mem_cons_of_mem _ h)
  have hown : s.vm.findClass RX9 = some m.cls := findClass_of_methodNamed B.named
  have hlocks := B.notSynchronized
  subst hsz
  have hD : va_D A (wX9_ringLine cy aM qM vM vM_fresh vM_letters vM_tape) := by rw [← hAe]; exact hD0.self
  have hA : ∀ q : Nat, s.heap.size ≤ q → A q := fun q h => by rw [← hAe]; exact Or.inr h
  have hS : va_S A s.heap s.heap [] := va_S.rf
  have hl := lv_entry ([.ref aM]) (n := 3) (Nat.le_of_ble_eq_true rfl)
  rw [lg_entry_eq]
  generalize (lg_sl ([.ref aM]) ++ List.replicate (3 - (lg_sl ([.ref aM])).length) Slot.unset).toArray = ls at hl ⊢
  have hl : lv_has ls 3 [(0, .ref aM)] := hl
  generalize hQe : MQ below (kQv D cy A (wX9_ringLine cy aM qM z_vM z_vM_fresh z_vM_letters vM_tape)) ([.ref aM] : List Value).toArray s 0 0 A = Q
  have J137 : ∀ (vM_fresh_137 : Nat → Int32) (vM_letters_137 : Nat → Int32) (vM_137 : Nat → Int32), ∀ (H : Heap) (locs : List Loc) (ls : Array Slot), va_P D vwCl (wX9_ringLine cy aM qM vM_137 vM_fresh_137 vM_letters_137 vM_tape) H → va_D A (wX9_ringLine cy aM qM vM_137 vM_fresh_137 vM_letters_137 vM_tape) → va_S A s.heap H locs → lv_has ls 3 [] → fX9_ringLine_J137 vM_fresh_137 vM_letters_137 vM_137 = some (z_vM, z_vM_fresh, z_vM_letters) → W p l e ({ frames := 8, cells := 0, slots := 0, locals := 173 } : Room) s m ([.ref aM] : List Value).toArray below meth c H locs 0 0 Q (F0 m 137 ls []) := by
    intro vM_fresh_137 vM_letters_137 vM_137 H locs ls hP hD hS hl hok
    unfold fX9_ringLine_J137 at hok
    cases hok
    subst hQe; exact W.vret hx hb hr (fun t ht hW => ⟨⟨(), rfl, trivial, by rw [ht]; exact hP, va_K.moved hW.alike hK, hD⟩, hS.F ht⟩) hS.2.2 dX9_ringLine_137
  have J84 : ∀ (y2_84 : Int32) (vM_fresh_84 : Nat → Int32) (vM_letters_84 : Nat → Int32) (vM_84 : Nat → Int32), ∀ (H : Heap) (locs : List Loc) (ls : Array Slot), va_P D vwCl (wX9_ringLine cy aM qM vM_84 vM_fresh_84 vM_letters_84 vM_tape) H → va_D A (wX9_ringLine cy aM qM vM_84 vM_fresh_84 vM_letters_84 vM_tape) → va_S A s.heap H locs → lv_has ls 3 [(0, .ref aM), (1, .int ((8 : Int32) + ((2 : Int32) * (vM_fresh (2 : Int32).toNatClampNeg)))), (2, .int y2_84)] → fX9_ringLine_J84 vM_fresh vM_tape y2_84 vM_fresh_84 vM_letters_84 vM_84 = some (z_vM, z_vM_fresh, z_vM_letters) → W p l e ({ frames := 8, cells := 0, slots := 0, locals := 173 } : Room) s m ([.ref aM] : List Value).toArray below meth c H locs 0 0 Q (F0 m 84 ls []) := by
    intro y2_84 vM_fresh_84 vM_letters_84 vM_84 H locs ls hP hD hS hl hok
    unfold fX9_ringLine_J84 at hok
    refine lv_aload_n hx hb dX9_ringLine_84 rfl (lv_at hl 0 rfl) ?_
    refine va_get (D := D) (ci := 8) (v := .int (vM_84 13)) (C := RX9) (T := TX9) (N := 29) hx hb ht0 niX9 hown hK hP 0 rfl rfl 13 (by decide) (ht0 _ wd757) (fun _ h9 => h9) rfl dX9_ringLine_85 ?_
    refine lv_if_eq (tgt := 92) hx hb dX9_ringLine_88 (by decide) (fun c88 => ?_) (fun c88 => ?_)
    · have hok := k_pos c88 hok
      refine lv_aload_n hx hb dX9_ringLine_92 rfl (lv_at hl 0 rfl) ?_
      obtain ⟨⟨vM_93, vM_letters_93⟩, hc93, hok⟩ := k_bind hok
      try dsimp only at hok
      refine kCv (wc := (wX9_next cy aM qM vM_84 vM_tape vM_letters_84)) (wc2 := (wX9_next cy aM qM vM_93 vM_tape vM_letters_93)) (wr := [(qM 16, rI cy 224 vM_fresh_84)]) (ws2 := (wX9_ringLine cy aM qM vM_93 vM_fresh_84 vM_letters_93 vM_tape)) (kRunV (As := []) (rest := []) ⟨hx, hb, hml, hown, ht0⟩ (kX9_next l D cy _ aM qM vM_84 vM_tape vM_letters_84 vM_93 vM_letters_93 hc93 _ rfl) (cwV 0 ht0 (gV wd766 wd767 wd768 wd744 wd769) rfl rfl rfl (by decide +kernel) ⟨Nat.le_of_ble_eq_true rfl, Nat.le_of_ble_eq_true rfl⟩) hK hN hP hD [0, 3, 2] rfl (by decide) 0 8 rfl rfl rfl hl.1 rfl (Nat.le_of_ble_eq_true rfl) dX9_ringLine_93 ⟨Nat.zero_le _, Nat.zero_le _⟩) hP hD hS hA [0, 3, 2] [1] rfl rfl (by decide) (by decide) [1, 0, 3, 2] (by decide) rfl rfl (fun H locs hP hD hS => ?_)
      refine lv_aload_n hx hb dX9_ringLine_96 rfl (lv_at hl 0 rfl) ?_
      refine va_get (D := D) (ci := 8) (v := .ref (qM 16)) (C := RX9) (T := TX9) (N := 29) hx hb ht0 niX9 hown hK hP 0 rfl rfl 16 (by decide) (ht0 _ wd778) (fun _ h9 => h9) rfl dX9_ringLine_97 ?_
      refine lv_iload_n hx hb dX9_ringLine_100 rfl (lv_at hl 1 rfl) ?_
      refine lv_iload_n hx hb dX9_ringLine_101 rfl (lv_at hl 2 rfl) ?_
      obtain ⟨g102, hok⟩ := gd_some hok
      refine va_iast hx hb hK hP hD hS 1 0 rfl rfl (okI_in g102) dX9_ringLine_102 (fun H locs hP hD hS => ?_)
      have hP : va_P D vwCl (wX9_ringLine cy aM qM vM_93 (upd vM_fresh_84 ((8 : Int32) + ((2 : Int32) * (vM_fresh (2 : Int32).toNatClampNeg))).toNatClampNeg y2_84) vM_letters_93 vM_tape) H := hP
      have hD : va_D A (wX9_ringLine cy aM qM vM_93 (upd vM_fresh_84 ((8 : Int32) + ((2 : Int32) * (vM_fresh (2 : Int32).toNatClampNeg))).toNatClampNeg y2_84) vM_letters_93 vM_tape) := hD
      refine lv_aload_n hx hb dX9_ringLine_103 rfl (lv_at hl 0 rfl) ?_
      refine va_get (D := D) (ci := 8) (v := .ref (qM 16)) (C := RX9) (T := TX9) (N := 29) hx hb ht0 niX9 hown hK hP 0 rfl rfl 16 (by decide) (ht0 _ wd778) (fun _ h9 => h9) rfl dX9_ringLine_104 ?_
      refine lv_iload_n hx hb dX9_ringLine_107 rfl (lv_at hl 1 rfl) ?_
      refine lv_iconst (v := 1) hx hb dX9_ringLine_108 (by decide) ?_
      refine lv_iadd hx hb dX9_ringLine_109 ?_
      refine lv_aload_n hx hb dX9_ringLine_110 rfl (lv_at hl 0 rfl) ?_
      refine va_ldcS (own := RX9) (tx := "places") (index := 216) (q := ad.1 16) hx hb hown (hSt.2.1 (RX9, 216, "places", 16) (List.mem_of_getElem? (i := 34) rfl)) dX9_ringLine_111 ?_
      refine lv_iconst (v := 2) hx hb dX9_ringLine_113 (by decide) ?_
      refine lv_bipush (v := 9) hx hb dX9_ringLine_114 (by decide) ?_
      obtain ⟨⟨r116, vM_116, vM_letters_116⟩, hc116, hok⟩ := k_bind hok
      try dsimp only at hok
      refine kCi (wc := (wX9_after cy aM qM vM_93 vM_letters_93 vM_tape)) (wc2 := (wX9_after cy aM qM vM_116 vM_letters_116 vM_tape)) (wr := [(qM 16, rI cy 224 (upd vM_fresh_84 ((8 : Int32) + ((2 : Int32) * (vM_fresh (2 : Int32).toNatClampNeg))).toNatClampNeg y2_84))]) (ws2 := (wX9_ringLine cy aM qM vM_116 (upd vM_fresh_84 ((8 : Int32) + ((2 : Int32) * (vM_fresh (2 : Int32).toNatClampNeg))).toNatClampNeg y2_84) vM_letters_116 vM_tape)) (kRunVS (As := [.ref (ad.1 16), .int 2, .int 9]) (rest := [.int (((8 : Int32) + ((2 : Int32) * (vM_fresh (2 : Int32).toNatClampNeg))) + (1 : Int32)), .ref (qM 16)]) ⟨hx, hb, hml, hown, ht0⟩ (kX9_after l D cy ad _ aM qM vM_93 vM_letters_93 vM_tape 16 (2 : Int32) (9 : Int32) r116 vM_116 vM_letters_116 hc116 _ rfl) (cwV 3 ht0 (gV wd806 wd807 wd808 wd744 wd809) rfl rfl rfl (by decide +kernel) ⟨Nat.le_of_ble_eq_true rfl, Nat.le_of_ble_eq_true rfl⟩) hK hN hP hD hSt hS hA [0, 2, 3] rfl (by decide) 0 8 rfl rfl rfl hl.1 rfl (Nat.le_of_ble_eq_true rfl) dX9_ringLine_116 ⟨Nat.zero_le _, Nat.zero_le _⟩) hP hD hS hA [0, 2, 3] [1] rfl rfl (by decide) (by decide) [1, 0, 2, 3] (by decide) rfl rfl (fun H locs hP hD hS => ?_)
      obtain ⟨g119, hok⟩ := gd_some hok
      refine va_iast hx hb hK hP hD hS 1 0 rfl rfl (okI_in g119) dX9_ringLine_119 (fun H locs hP hD hS => ?_)
      have hP : va_P D vwCl (wX9_ringLine cy aM qM vM_116 (upd (upd vM_fresh_84 ((8 : Int32) + ((2 : Int32) * (vM_fresh (2 : Int32).toNatClampNeg))).toNatClampNeg y2_84) (((8 : Int32) + ((2 : Int32) * (vM_fresh (2 : Int32).toNatClampNeg))) + (1 : Int32)).toNatClampNeg r116) vM_letters_116 vM_tape) H := hP
      have hD : va_D A (wX9_ringLine cy aM qM vM_116 (upd (upd vM_fresh_84 ((8 : Int32) + ((2 : Int32) * (vM_fresh (2 : Int32).toNatClampNeg))).toNatClampNeg y2_84) (((8 : Int32) + ((2 : Int32) * (vM_fresh (2 : Int32).toNatClampNeg))) + (1 : Int32)).toNatClampNeg r116) vM_letters_116 vM_tape) := hD
      refine lv_aload_n hx hb dX9_ringLine_120 rfl (lv_at hl 0 rfl) ?_
      refine va_get (D := D) (ci := 8) (v := .int (vM_116 13)) (C := RX9) (T := TX9) (N := 29) hx hb ht0 niX9 hown hK hP 0 rfl rfl 13 (by decide) (ht0 _ wd757) (fun _ h9 => h9) rfl dX9_ringLine_121 ?_
      refine lv_if_ne (tgt := 137) hx hb dX9_ringLine_124 (by decide) (fun c124 => ?_) (fun c124 => ?_)
      · have hok := k_neg c124 hok
        exact J137 (upd (upd vM_fresh_84 ((8 : Int32) + ((2 : Int32) * (vM_fresh (2 : Int32).toNatClampNeg))).toNatClampNeg y2_84) (((8 : Int32) + ((2 : Int32) * (vM_fresh (2 : Int32).toNatClampNeg))) + (1 : Int32)).toNatClampNeg r116) vM_letters_116 vM_116 H locs ls hP hD hS (lv_sub hl [] rfl) hok
      · have hok := k_pos c124 hok
        refine lv_aload_n hx hb dX9_ringLine_127 rfl (lv_at hl 0 rfl) ?_
        refine va_get (D := D) (ci := 8) (v := .ref (qM 16)) (C := RX9) (T := TX9) (N := 29) hx hb ht0 niX9 hown hK hP 0 rfl rfl 16 (by decide) (ht0 _ wd778) (fun _ h9 => h9) rfl dX9_ringLine_128 ?_
        refine lv_iconst (v := 2) hx hb dX9_ringLine_131 (by decide) ?_
        refine lv_dup2_11 hx hb dX9_ringLine_132 rfl rfl ?_
        obtain ⟨g133, hok⟩ := gd_some hok
        refine va_iald hx hb hK hP 1 0 rfl rfl (okI_in g133) dX9_ringLine_133 ?_
        refine lv_iconst (v := 1) hx hb dX9_ringLine_134 (by decide) ?_
        refine lv_iadd hx hb dX9_ringLine_135 ?_
        obtain ⟨g136, hok⟩ := gd_some hok
        refine va_iast hx hb hK hP hD hS 1 0 rfl rfl (okI_in g136) dX9_ringLine_136 (fun H locs hP hD hS => ?_)
        have hP : va_P D vwCl (wX9_ringLine cy aM qM vM_116 (upd (upd (upd vM_fresh_84 ((8 : Int32) + ((2 : Int32) * (vM_fresh (2 : Int32).toNatClampNeg))).toNatClampNeg y2_84) (((8 : Int32) + ((2 : Int32) * (vM_fresh (2 : Int32).toNatClampNeg))) + (1 : Int32)).toNatClampNeg r116) (2 : Int32).toNatClampNeg (((upd (upd vM_fresh_84 ((8 : Int32) + ((2 : Int32) * (vM_fresh (2 : Int32).toNatClampNeg))).toNatClampNeg y2_84) (((8 : Int32) + ((2 : Int32) * (vM_fresh (2 : Int32).toNatClampNeg))) + (1 : Int32)).toNatClampNeg r116) (2 : Int32).toNatClampNeg) + (1 : Int32))) vM_letters_116 vM_tape) H := hP
        have hD : va_D A (wX9_ringLine cy aM qM vM_116 (upd (upd (upd vM_fresh_84 ((8 : Int32) + ((2 : Int32) * (vM_fresh (2 : Int32).toNatClampNeg))).toNatClampNeg y2_84) (((8 : Int32) + ((2 : Int32) * (vM_fresh (2 : Int32).toNatClampNeg))) + (1 : Int32)).toNatClampNeg r116) (2 : Int32).toNatClampNeg (((upd (upd vM_fresh_84 ((8 : Int32) + ((2 : Int32) * (vM_fresh (2 : Int32).toNatClampNeg))).toNatClampNeg y2_84) (((8 : Int32) + ((2 : Int32) * (vM_fresh (2 : Int32).toNatClampNeg))) + (1 : Int32)).toNatClampNeg r116) (2 : Int32).toNatClampNeg) + (1 : Int32))) vM_letters_116 vM_tape) := hD
        exact J137 (upd (upd (upd vM_fresh_84 ((8 : Int32) + ((2 : Int32) * (vM_fresh (2 : Int32).toNatClampNeg))).toNatClampNeg y2_84) (((8 : Int32) + ((2 : Int32) * (vM_fresh (2 : Int32).toNatClampNeg))) + (1 : Int32)).toNatClampNeg r116) (2 : Int32).toNatClampNeg (((upd (upd vM_fresh_84 ((8 : Int32) + ((2 : Int32) * (vM_fresh (2 : Int32).toNatClampNeg))).toNatClampNeg y2_84) (((8 : Int32) + ((2 : Int32) * (vM_fresh (2 : Int32).toNatClampNeg))) + (1 : Int32)).toNatClampNeg r116) (2 : Int32).toNatClampNeg) + (1 : Int32))) vM_letters_116 vM_116 H locs ls hP hD hS (lv_sub hl [] rfl) hok
    · have hok := k_neg c88 hok
      cases hok
      subst hQe; exact W.vret hx hb hr (fun t ht hW => ⟨⟨(), rfl, trivial, by rw [ht]; exact hP, va_K.moved hW.alike hK, hD⟩, hS.F ht⟩) hS.2.2 dX9_ringLine_91
  have J70 : ∀ (t0_70 : Int32) (vM_fresh_70 : Nat → Int32) (vM_letters_70 : Nat → Int32) (vM_70 : Nat → Int32), ∀ (H : Heap) (locs : List Loc) (ls : Array Slot), va_P D vwCl (wX9_ringLine cy aM qM vM_70 vM_fresh_70 vM_letters_70 vM_tape) H → va_D A (wX9_ringLine cy aM qM vM_70 vM_fresh_70 vM_letters_70 vM_tape) → va_S A s.heap H locs → lv_has ls 3 [(0, .ref aM), (1, .int ((8 : Int32) + ((2 : Int32) * (vM_fresh (2 : Int32).toNatClampNeg))))] → fX9_ringLine_J70 vM_fresh vM_tape t0_70 vM_fresh_70 vM_letters_70 vM_70 = some (z_vM, z_vM_fresh, z_vM_letters) → W p l e ({ frames := 8, cells := 0, slots := 0, locals := 173 } : Room) s m ([.ref aM] : List Value).toArray below meth c H locs 0 0 Q (F0 m 70 ls [.int t0_70]) := by
    intro t0_70 vM_fresh_70 vM_letters_70 vM_70 H locs ls hP hD hS hl hok
    unfold fX9_ringLine_J70 at hok
    refine lv_istore_n (lv' := [(2, .int t0_70), (0, .ref aM), (1, .int ((8 : Int32) + ((2 : Int32) * (vM_fresh (2 : Int32).toNatClampNeg))))]) hx hb dX9_ringLine_70 rfl hl (by decide) rfl (fun ls hl => ?_)
    refine lv_iload_n hx hb dX9_ringLine_71 rfl (lv_at hl 0 rfl) ?_
    refine lv_if_ge (tgt := 84) hx hb dX9_ringLine_72 (by decide) (fun c72 => ?_) (fun c72 => ?_)
    · have hok := k_pos c72 hok
      exact J84 t0_70 vM_fresh_70 vM_letters_70 vM_70 H locs ls hP hD hS (lv_sub hl [1, 2, 0] rfl) hok
    · have hok := k_neg c72 hok
      refine lv_aload_n hx hb dX9_ringLine_75 rfl (lv_at hl 1 rfl) ?_
      refine lv_iconst (v := 1) hx hb dX9_ringLine_76 (by decide) ?_
      refine lv_aload_n hx hb dX9_ringLine_77 rfl (lv_at hl 1 rfl) ?_
      refine va_get (D := D) (ci := 8) (v := .int (vM_70 4)) (C := RX9) (T := TX9) (N := 29) hx hb ht0 niX9 hown hK hP 0 rfl rfl 4 (by decide) (ht0 _ wd756) (fun _ h9 => h9) rfl dX9_ringLine_78 ?_
      obtain ⟨vM_81, hc81, hok⟩ := k_bind hok
      refine kCv (wc := (wX9_wrong cy aM qM vM_70)) (wc2 := (wX9_wrong cy aM qM vM_81)) (wr := [(qM 16, rI cy 224 vM_fresh_70), (qM 12, rI cy 8 vM_letters_70), (qM 1, rI cy 900 vM_tape)]) (ws2 := (wX9_ringLine cy aM qM vM_81 vM_fresh_70 vM_letters_70 vM_tape)) (kRunV (As := [.int 1, .int (vM_70 4)]) (rest := []) ⟨hx, hb, hml, hown, ht0⟩ (kX9_wrong l D cy _ aM qM vM_70 (1 : Int32) (vM_70 4) vM_81 hc81 _ rfl) (cwV 2 ht0 (gV wd774 wd775 wd776 wd744 wd777) rfl rfl rfl (by decide +kernel) ⟨Nat.le_of_ble_eq_true rfl, Nat.le_of_ble_eq_true rfl⟩) hK hN hP hD [0] rfl (by decide) 0 8 rfl rfl rfl hl.1 rfl (Nat.le_of_ble_eq_true rfl) dX9_ringLine_81 ⟨Nat.zero_le _, Nat.zero_le _⟩) hP hD hS hA [0] [1, 2, 3] rfl rfl (by decide) (by decide) [3, 0, 1, 2] (by decide) rfl rfl (fun H locs hP hD hS => ?_)
      exact J84 t0_70 vM_fresh_70 vM_letters_70 vM_81 H locs ls hP hD hS (lv_sub hl [1, 2, 0] rfl) hok
  unfold fX9_ringLine at hok
  obtain ⟨H, hH⟩ : ∃ H, H = s.heap := ⟨_, rfl⟩
  obtain ⟨locs, hlc⟩ : ∃ x : List Loc, x = [] := ⟨_, rfl⟩
  have hP : va_P D vwCl (wX9_ringLine cy aM qM vM vM_fresh vM_letters vM_tape) H := by rw [hH]; exact hP
  have hS : va_S A s.heap H locs := by rw [hH, hlc]; exact hS
  rw [show W p l e _ s m _ below meth c s.heap [] = W p l e _ s m _ below meth c H locs from by rw [hH, hlc]]
  refine lv_aload_n hx hb dX9_ringLine_0 rfl (lv_at hl 0 rfl) ?_
  refine va_get (D := D) (ci := 8) (v := .int (vM 13)) (C := RX9) (T := TX9) (N := 29) hx hb ht0 niX9 hown hK hP 0 rfl rfl 13 (by decide) (ht0 _ wd757) (fun _ h9 => h9) rfl dX9_ringLine_1 ?_
  refine lv_if_eq (tgt := 8) hx hb dX9_ringLine_4 (by decide) (fun c4 => ?_) (fun c4 => ?_)
  · have hok := k_pos c4 hok
    refine lv_bipush (v := 8) hx hb dX9_ringLine_8 (by decide) ?_
    refine lv_iconst (v := 2) hx hb dX9_ringLine_10 (by decide) ?_
    refine lv_aload_n hx hb dX9_ringLine_11 rfl (lv_at hl 0 rfl) ?_
    refine va_get (D := D) (ci := 8) (v := .ref (qM 16)) (C := RX9) (T := TX9) (N := 29) hx hb ht0 niX9 hown hK hP 0 rfl rfl 16 (by decide) (ht0 _ wd778) (fun _ h9 => h9) rfl dX9_ringLine_12 ?_
    refine lv_iconst (v := 2) hx hb dX9_ringLine_15 (by decide) ?_
    obtain ⟨g16, hok⟩ := gd_some hok
    refine va_iald hx hb hK hP 1 0 rfl rfl (okI_in g16) dX9_ringLine_16 ?_
    refine lv_imul hx hb dX9_ringLine_17 ?_
    refine lv_iadd hx hb dX9_ringLine_18 ?_
    refine lv_istore_n (lv' := [(1, .int ((8 : Int32) + ((2 : Int32) * (vM_fresh (2 : Int32).toNatClampNeg)))), (0, .ref aM)]) hx hb dX9_ringLine_19 rfl hl (by decide) rfl (fun ls hl => ?_)
    refine lv_aload_n hx hb dX9_ringLine_20 rfl (lv_at hl 1 rfl) ?_
    refine lv_aload_n hx hb dX9_ringLine_21 rfl (lv_at hl 1 rfl) ?_
    refine va_get (D := D) (ci := 8) (v := .ref (qM 16)) (C := RX9) (T := TX9) (N := 29) hx hb ht0 niX9 hown hK hP 0 rfl rfl 16 (by decide) (ht0 _ wd778) (fun _ h9 => h9) rfl dX9_ringLine_22 ?_
    refine lv_iconst (v := 2) hx hb dX9_ringLine_25 (by decide) ?_
    obtain ⟨g26, hok⟩ := gd_some hok
    refine va_iald hx hb hK hP 1 0 rfl rfl (okI_in g26) dX9_ringLine_26 ?_
    obtain ⟨⟨vM_27, vM_letters_27, vM_fresh_27⟩, hc27, hok⟩ := k_bind hok
    try dsimp only at hok
    refine kCv (wc := (wX9_newName cy aM qM vM vM_letters vM_fresh vM_tape)) (wc2 := (wX9_newName cy aM qM vM_27 vM_letters_27 vM_fresh_27 vM_tape)) (wr := []) (ws2 := (wX9_ringLine cy aM qM vM_27 vM_fresh_27 vM_letters_27 vM_tape)) (kRunVS (As := [.int (vM_fresh (2 : Int32).toNatClampNeg)]) (rest := []) ⟨hx, hb, hml, hown, ht0⟩ (kX9_newName l D cy ad _ aM qM vM vM_letters vM_fresh vM_tape (vM_fresh (2 : Int32).toNatClampNeg) vM_27 vM_letters_27 vM_fresh_27 hc27 _ rfl) (cwV 1 ht0 (gV wd810 wd811 wd812 wd744 wd813) rfl rfl rfl (by decide +kernel) ⟨Nat.le_of_ble_eq_true rfl, Nat.le_of_ble_eq_true rfl⟩) hK hN hP hD hSt hS hA [0, 2, 1, 3] rfl (by decide) 0 8 rfl rfl rfl hl.1 rfl (Nat.le_of_ble_eq_true rfl) dX9_ringLine_27 ⟨Nat.zero_le _, Nat.zero_le _⟩) hP hD hS hA [0, 2, 1, 3] [] rfl rfl (by decide) (by decide) [0, 2, 1, 3] (by decide) rfl rfl (fun H locs hP hD hS => ?_)
    refine lv_aload_n hx hb dX9_ringLine_30 rfl (lv_at hl 1 rfl) ?_
    refine va_ldcS (own := RX9) (tx := "plain") (index := 212) (q := ad.1 17) hx hb hown (hSt.2.1 (RX9, 212, "plain", 17) (List.mem_of_getElem? (i := 32) rfl)) dX9_ringLine_31 ?_
    obtain ⟨r33, hc33, hok⟩ := k_bind hok
    refine kCi (wc := (wX9_isWord cy aM qM vM_27 vM_letters_27)) (wc2 := (wX9_isWord cy aM qM vM_27 vM_letters_27)) (wr := [(qM 16, rI cy 224 vM_fresh_27), (qM 1, rI cy 900 vM_tape)]) (ws2 := (wX9_ringLine cy aM qM vM_27 vM_fresh_27 vM_letters_27 vM_tape)) (kRunVS (As := [.ref (ad.1 17)]) (rest := []) ⟨hx, hb, hml, hown, ht0⟩ (kX9_isWord l D cy ad _ aM qM vM_27 vM_letters_27 17 r33 hc33 _ rfl) (cwV 1 ht0 (gV wd762 wd763 wd764 wd744 wd765) rfl rfl rfl (by decide +kernel) ⟨Nat.le_of_ble_eq_true rfl, Nat.le_of_ble_eq_true rfl⟩) hK hN hP hD hSt hS hA [0, 2] rfl (by decide) 0 8 rfl rfl rfl hl.1 rfl (Nat.le_of_ble_eq_true rfl) dX9_ringLine_33 ⟨Nat.zero_le _, Nat.zero_le _⟩) hP hD hS hA [0, 2] [1, 3] rfl rfl (by decide) (by decide) [2, 0, 3, 1] (by decide) rfl rfl (fun H locs hP hD hS => ?_)
    refine lv_if_eq (tgt := 43) hx hb dX9_ringLine_36 (by decide) (fun c36 => ?_) (fun c36 => ?_)
    · have hok := k_pos c36 hok
      refine lv_aload_n hx hb dX9_ringLine_43 rfl (lv_at hl 1 rfl) ?_
      refine va_ldcS (own := RX9) (tx := "cellar") (index := 201) (q := ad.1 4) hx hb hown (hSt.2.1 (RX9, 201, "cellar", 4) (List.mem_of_getElem? (i := 30) rfl)) dX9_ringLine_44 ?_
      obtain ⟨r46, hc46, hok⟩ := k_bind hok
      refine kCi (wc := (wX9_isWord cy aM qM vM_27 vM_letters_27)) (wc2 := (wX9_isWord cy aM qM vM_27 vM_letters_27)) (wr := [(qM 16, rI cy 224 vM_fresh_27), (qM 1, rI cy 900 vM_tape)]) (ws2 := (wX9_ringLine cy aM qM vM_27 vM_fresh_27 vM_letters_27 vM_tape)) (kRunVS (As := [.ref (ad.1 4)]) (rest := []) ⟨hx, hb, hml, hown, ht0⟩ (kX9_isWord l D cy ad _ aM qM vM_27 vM_letters_27 4 r46 hc46 _ rfl) (cwV 1 ht0 (gV wd762 wd763 wd764 wd744 wd765) rfl rfl rfl (by decide +kernel) ⟨Nat.le_of_ble_eq_true rfl, Nat.le_of_ble_eq_true rfl⟩) hK hN hP hD hSt hS hA [0, 2] rfl (by decide) 0 8 rfl rfl rfl hl.1 rfl (Nat.le_of_ble_eq_true rfl) dX9_ringLine_46 ⟨Nat.zero_le _, Nat.zero_le _⟩) hP hD hS hA [0, 2] [1, 3] rfl rfl (by decide) (by decide) [2, 0, 3, 1] (by decide) rfl rfl (fun H locs hP hD hS => ?_)
      refine lv_if_eq (tgt := 56) hx hb dX9_ringLine_49 (by decide) (fun c49 => ?_) (fun c49 => ?_)
      · have hok := k_pos c49 hok
        refine lv_aload_n hx hb dX9_ringLine_56 rfl (lv_at hl 1 rfl) ?_
        refine va_ldcS (own := RX9) (tx := "attic") (index := 214) (q := ad.1 1) hx hb hown (hSt.2.1 (RX9, 214, "attic", 1) (List.mem_of_getElem? (i := 33) rfl)) dX9_ringLine_57 ?_
        obtain ⟨r59, hc59, hok⟩ := k_bind hok
        refine kCi (wc := (wX9_isWord cy aM qM vM_27 vM_letters_27)) (wc2 := (wX9_isWord cy aM qM vM_27 vM_letters_27)) (wr := [(qM 16, rI cy 224 vM_fresh_27), (qM 1, rI cy 900 vM_tape)]) (ws2 := (wX9_ringLine cy aM qM vM_27 vM_fresh_27 vM_letters_27 vM_tape)) (kRunVS (As := [.ref (ad.1 1)]) (rest := []) ⟨hx, hb, hml, hown, ht0⟩ (kX9_isWord l D cy ad _ aM qM vM_27 vM_letters_27 1 r59 hc59 _ rfl) (cwV 1 ht0 (gV wd762 wd763 wd764 wd744 wd765) rfl rfl rfl (by decide +kernel) ⟨Nat.le_of_ble_eq_true rfl, Nat.le_of_ble_eq_true rfl⟩) hK hN hP hD hSt hS hA [0, 2] rfl (by decide) 0 8 rfl rfl rfl hl.1 rfl (Nat.le_of_ble_eq_true rfl) dX9_ringLine_59 ⟨Nat.zero_le _, Nat.zero_le _⟩) hP hD hS hA [0, 2] [1, 3] rfl rfl (by decide) (by decide) [2, 0, 3, 1] (by decide) rfl rfl (fun H locs hP hD hS => ?_)
        refine lv_if_eq (tgt := 69) hx hb dX9_ringLine_62 (by decide) (fun c62 => ?_) (fun c62 => ?_)
        · have hok := k_pos c62 hok
          refine lv_iconst (v := -1) hx hb dX9_ringLine_69 (by decide) ?_
          exact J70 (-1 : Int32) vM_fresh_27 vM_letters_27 vM_27 H locs ls hP hD hS (lv_sub hl [1, 0] rfl) hok
        · have hok := k_neg c62 hok
          refine lv_iconst (v := 2) hx hb dX9_ringLine_65 (by decide) ?_
          refine lv_goto (tgt := 70) hx hb dX9_ringLine_66 (by decide) ?_
          exact J70 (2 : Int32) vM_fresh_27 vM_letters_27 vM_27 H locs ls hP hD hS (lv_sub hl [1, 0] rfl) hok
      · have hok := k_neg c49 hok
        refine lv_iconst (v := 1) hx hb dX9_ringLine_52 (by decide) ?_
        refine lv_goto (tgt := 70) hx hb dX9_ringLine_53 (by decide) ?_
        exact J70 (1 : Int32) vM_fresh_27 vM_letters_27 vM_27 H locs ls hP hD hS (lv_sub hl [1, 0] rfl) hok
    · have hok := k_neg c36 hok
      refine lv_iconst (v := 0) hx hb dX9_ringLine_39 (by decide) ?_
      refine lv_goto (tgt := 70) hx hb dX9_ringLine_40 (by decide) ?_
      exact J70 (0 : Int32) vM_fresh_27 vM_letters_27 vM_27 H locs ls hP hD hS (lv_sub hl [1, 0] rfl) hok
  · have hok := k_neg c4 hok
    cases hok
    subst hQe; exact W.vret hx hb hr (fun t ht hW => ⟨⟨(), rfl, trivial, by rw [ht]; exact hP, va_K.moved hW.alike hK, hD⟩, hS.F ht⟩) hS.2.2 dX9_ringLine_7
def wsX9_narrowLine : List Cond := .code yX9_narrowLine cX9_narrowLine 4 none :: W0
abbrev wX9_narrowLine (cy : Nat → ClassId) (aM : Nat) (qM : Nat → Nat) (vM : Nat → Int32) (vM_letters : Nat → Int32) (vM_fresh : Nat → Int32) (vM_tape : Nat → Int32) : va_W := [(aM, oX9 vM qM), (qM 12, rI cy 8 vM_letters), (qM 16, rI cy 224 vM_fresh), (qM 1, rI cy 900 vM_tape)]
set_option maxHeartbeats 4000000 in
set_option maxRecDepth 100000 in
theorem kX9_narrowLine (l : Launch) (D : va_G) (cy : Nat → ClassId) (ad : (Nat → Nat) × (Nat → Nat)) (sz : Nat) (aM : Nat) (qM : Nat → Nat) (vM : Nat → Int32) (vM_letters : Nat → Int32) (vM_fresh : Nat → Int32) (vM_tape : Nat → Int32) (z_vM : Nat → Int32) (z_vM_letters : Nat → Int32) (z_vM_fresh : Nat → Int32) (hok : fX9_narrowLine vM vM_letters vM_fresh vM_tape = some (z_vM, z_vM_letters, z_vM_fresh)) (A : Nat → Prop) (hAe : va_A (wX9_narrowLine cy aM qM vM vM_letters vM_fresh vM_tape) sz = A) : Met l yX9_narrowLine wsX9_narrowLine ({ frames := 8, cells := 0, slots := 0, locals := 173 } : Room) (kPreS D cy ad [.ref aM] (wX9_narrowLine cy aM qM vM vM_letters vM_fresh vM_tape) sz A) (kQv D cy A (wX9_narrowLine cy aM qM z_vM z_vM_letters z_vM_fresh vM_tape)) 0 0 A := by
  refine Met.ofW (cc := cX9_narrowLine) (maxL := 4) (ret := none) (by decide) rfl ?_
  intro p e s m args below meth c s₁ B hml hv
  obtain ⟨rfl, ⟨hsz, hP, hK, hD0, hN⟩, hSt⟩ := hv
  have hx := B.exec
  have hb := B.bytes
  have hr := B.returns
  have ht0 : ∀ w ∈ W0, w.before _ s = true := fun w h => atoms_spec (ws := wsX9_narrowLine) B.pre w (List.mem_cons_of_mem _ h)
  have hown : s.vm.findClass RX9 = some m.cls := findClass_of_methodNamed B.named
  have hlocks := B.notSynchronized
  subst hsz
  have hD : va_D A (wX9_narrowLine cy aM qM vM vM_letters vM_fresh vM_tape) := by rw [← hAe]; exact hD0.self
  have hA : ∀ q : Nat, s.heap.size ≤ q → A q := fun q h => by rw [← hAe]; exact Or.inr h
  have hS : va_S A s.heap s.heap [] := va_S.rf
  have hl := lv_entry ([.ref aM]) (n := 4) (Nat.le_of_ble_eq_true rfl)
  rw [lg_entry_eq]
  generalize (lg_sl ([.ref aM]) ++ List.replicate (4 - (lg_sl ([.ref aM])).length) Slot.unset).toArray = ls at hl ⊢
  have hl : lv_has ls 4 [(0, .ref aM)] := hl
  generalize hQe : MQ below (kQv D cy A (wX9_narrowLine cy aM qM z_vM z_vM_letters z_vM_fresh vM_tape)) ([.ref aM] : List Value).toArray s 0 0 A = Q
  have J55 : ∀ (y2_55 : Int32) (vM_letters_55 : Nat → Int32) (vM_55 : Nat → Int32), ∀ (H : Heap) (locs : List Loc) (ls : Array Slot), va_P D vwCl (wX9_narrowLine cy aM qM vM_55 vM_letters_55 vM_fresh vM_tape) H → va_D A (wX9_narrowLine cy aM qM vM_55 vM_letters_55 vM_fresh vM_tape) → va_S A s.heap H locs → lv_has ls 4 [(0, .ref aM), (2, .int y2_55)] → fX9_narrowLine_J55 vM_fresh vM_tape y2_55 vM_letters_55 vM_55 = some (z_vM, z_vM_letters, z_vM_fresh) → W p l e ({ frames := 8, cells := 0, slots := 0, locals := 173 } : Room) s m ([.ref aM] : List Value).toArray below meth c H locs 0 0 Q (F0 m 55 ls []) := by
    intro y2_55 vM_letters_55 vM_55 H locs ls hP hD hS hl hok
    unfold fX9_narrowLine_J55 at hok
    refine lv_aload_n hx hb dX9_narrowLine_55 rfl (lv_at hl 0 rfl) ?_
    refine va_get (D := D) (ci := 8) (v := .int (vM_55 13)) (C := RX9) (T := TX9) (N := 29) hx hb ht0 niX9 hown hK hP 0 rfl rfl 13 (by decide) (ht0 _ wd757) (fun _ h9 => h9) rfl dX9_narrowLine_56 ?_
    refine lv_if_eq (tgt := 63) hx hb dX9_narrowLine_59 (by decide) (fun c59 => ?_) (fun c59 => ?_)
    · have hok := k_pos c59 hok
      refine lv_aload_n hx hb dX9_narrowLine_63 rfl (lv_at hl 0 rfl) ?_
      obtain ⟨⟨vM_64, vM_letters_64⟩, hc64, hok⟩ := k_bind hok
      try dsimp only at hok
      refine kCv (wc := (wX9_next cy aM qM vM_55 vM_tape vM_letters_55)) (wc2 := (wX9_next cy aM qM vM_64 vM_tape vM_letters_64)) (wr := [(qM 16, rI cy 224 vM_fresh)]) (ws2 := (wX9_narrowLine cy aM qM vM_64 vM_letters_64 vM_fresh vM_tape)) (kRunV (As := []) (rest := []) ⟨hx, hb, hml, hown, ht0⟩ (kX9_next l D cy _ aM qM vM_55 vM_tape vM_letters_55 vM_64 vM_letters_64 hc64 _ rfl) (cwV 0 ht0 (gV wd766 wd767 wd768 wd744 wd769) rfl rfl rfl (by decide +kernel) ⟨Nat.le_of_ble_eq_true rfl, Nat.le_of_ble_eq_true rfl⟩) hK hN hP hD [0, 3, 1] rfl (by decide) 0 8 rfl rfl rfl hl.1 rfl (Nat.le_of_ble_eq_true rfl) dX9_narrowLine_64 ⟨Nat.zero_le _, Nat.zero_le _⟩) hP hD hS hA [0, 3, 1] [2] rfl rfl (by decide) (by decide) [1, 3, 0, 2] (by decide) rfl rfl (fun H locs hP hD hS => ?_)
      refine lv_aload_n hx hb dX9_narrowLine_67 rfl (lv_at hl 0 rfl) ?_
      refine va_ldcS (own := RX9) (tx := "by") (index := 224) (q := ad.1 3) hx hb hown (hSt.2.1 (RX9, 224, "by", 3) (List.mem_of_getElem? (i := 35) rfl)) dX9_narrowLine_68 ?_
      refine lv_iconst (v := 0) hx hb dX9_narrowLine_70 (by decide) ?_
      refine lv_bipush (v := 9) hx hb dX9_narrowLine_71 (by decide) ?_
      obtain ⟨⟨r73, vM_73, vM_letters_73⟩, hc73, hok⟩ := k_bind hok
      try dsimp only at hok
      refine kCi (wc := (wX9_after cy aM qM vM_64 vM_letters_64 vM_tape)) (wc2 := (wX9_after cy aM qM vM_73 vM_letters_73 vM_tape)) (wr := [(qM 16, rI cy 224 vM_fresh)]) (ws2 := (wX9_narrowLine cy aM qM vM_73 vM_letters_73 vM_fresh vM_tape)) (kRunVS (As := [.ref (ad.1 3), .int 0, .int 9]) (rest := []) ⟨hx, hb, hml, hown, ht0⟩ (kX9_after l D cy ad _ aM qM vM_64 vM_letters_64 vM_tape 3 (0 : Int32) (9 : Int32) r73 vM_73 vM_letters_73 hc73 _ rfl) (cwV 3 ht0 (gV wd806 wd807 wd808 wd744 wd809) rfl rfl rfl (by decide +kernel) ⟨Nat.le_of_ble_eq_true rfl, Nat.le_of_ble_eq_true rfl⟩) hK hN hP hD hSt hS hA [0, 1, 3] rfl (by decide) 0 8 rfl rfl rfl hl.1 rfl (Nat.le_of_ble_eq_true rfl) dX9_narrowLine_73 ⟨Nat.zero_le _, Nat.zero_le _⟩) hP hD hS hA [0, 1, 3] [2] rfl rfl (by decide) (by decide) [1, 2, 0, 3] (by decide) rfl rfl (fun H locs hP hD hS => ?_)
      refine lv_istore_n (lv' := [(3, .int r73), (0, .ref aM), (2, .int y2_55)]) hx hb dX9_narrowLine_76 rfl hl (by decide) rfl (fun ls hl => ?_)
      refine lv_aload_n hx hb dX9_narrowLine_77 rfl (lv_at hl 1 rfl) ?_
      refine va_get (D := D) (ci := 8) (v := .int (vM_73 13)) (C := RX9) (T := TX9) (N := 29) hx hb ht0 niX9 hown hK hP 0 rfl rfl 13 (by decide) (ht0 _ wd757) (fun _ h9 => h9) rfl dX9_narrowLine_78 ?_
      refine lv_if_eq (tgt := 85) hx hb dX9_narrowLine_81 (by decide) (fun c81 => ?_) (fun c81 => ?_)
      · have hok := k_pos c81 hok
        refine lv_aload_n hx hb dX9_narrowLine_85 rfl (lv_at hl 1 rfl) ?_
        refine va_get (D := D) (ci := 8) (v := .ref (qM 16)) (C := RX9) (T := TX9) (N := 29) hx hb ht0 niX9 hown hK hP 0 rfl rfl 16 (by decide) (ht0 _ wd778) (fun _ h9 => h9) rfl dX9_narrowLine_86 ?_
        refine lv_bipush (v := 16) hx hb dX9_narrowLine_89 (by decide) ?_
        refine lv_iload_n hx hb dX9_narrowLine_91 rfl (lv_at hl 2 rfl) ?_
        refine lv_iadd hx hb dX9_narrowLine_92 ?_
        refine lv_iload_n hx hb dX9_narrowLine_93 rfl (lv_at hl 0 rfl) ?_
        refine lv_iconst (v := 1) hx hb dX9_narrowLine_94 (by decide) ?_
        refine lv_iadd hx hb dX9_narrowLine_95 ?_
        obtain ⟨g96, hok⟩ := gd_some hok
        refine va_iast hx hb hK hP hD hS 2 0 rfl rfl (okI_in g96) dX9_narrowLine_96 (fun H locs hP hD hS => ?_)
        have hP : va_P D vwCl (wX9_narrowLine cy aM qM vM_73 vM_letters_73 (upd vM_fresh ((16 : Int32) + y2_55).toNatClampNeg (r73 + (1 : Int32))) vM_tape) H := hP
        have hD : va_D A (wX9_narrowLine cy aM qM vM_73 vM_letters_73 (upd vM_fresh ((16 : Int32) + y2_55).toNatClampNeg (r73 + (1 : Int32))) vM_tape) := hD
        refine lv_aload_n hx hb dX9_narrowLine_97 rfl (lv_at hl 1 rfl) ?_
        refine va_get (D := D) (ci := 8) (v := .ref (qM 16)) (C := RX9) (T := TX9) (N := 29) hx hb ht0 niX9 hown hK hP 0 rfl rfl 16 (by decide) (ht0 _ wd778) (fun _ h9 => h9) rfl dX9_narrowLine_98 ?_
        refine lv_iconst (v := 4) hx hb dX9_narrowLine_101 (by decide) ?_
        refine lv_dup2_11 hx hb dX9_narrowLine_102 rfl rfl ?_
        obtain ⟨g103, hok⟩ := gd_some hok
        refine va_iald hx hb hK hP 2 0 rfl rfl (okI_in g103) dX9_narrowLine_103 ?_
        refine lv_iconst (v := 1) hx hb dX9_narrowLine_104 (by decide) ?_
        refine lv_iadd hx hb dX9_narrowLine_105 ?_
        obtain ⟨g106, hok⟩ := gd_some hok
        refine va_iast hx hb hK hP hD hS 2 0 rfl rfl (okI_in g106) dX9_narrowLine_106 (fun H locs hP hD hS => ?_)
        have hP : va_P D vwCl (wX9_narrowLine cy aM qM vM_73 vM_letters_73 (upd (upd vM_fresh ((16 : Int32) + y2_55).toNatClampNeg (r73 + (1 : Int32))) (4 : Int32).toNatClampNeg (((upd vM_fresh ((16 : Int32) + y2_55).toNatClampNeg (r73 + (1 : Int32))) (4 : Int32).toNatClampNeg) + (1 : Int32))) vM_tape) H := hP
        have hD : va_D A (wX9_narrowLine cy aM qM vM_73 vM_letters_73 (upd (upd vM_fresh ((16 : Int32) + y2_55).toNatClampNeg (r73 + (1 : Int32))) (4 : Int32).toNatClampNeg (((upd vM_fresh ((16 : Int32) + y2_55).toNatClampNeg (r73 + (1 : Int32))) (4 : Int32).toNatClampNeg) + (1 : Int32))) vM_tape) := hD
        cases hok
        subst hQe; exact W.vret hx hb hr (fun t ht hW => ⟨⟨(), rfl, trivial, by rw [ht]; exact hP, va_K.moved hW.alike hK, hD⟩, hS.F ht⟩) hS.2.2 dX9_narrowLine_107
      · have hok := k_neg c81 hok
        cases hok
        subst hQe; exact W.vret hx hb hr (fun t ht hW => ⟨⟨(), rfl, trivial, by rw [ht]; exact hP, va_K.moved hW.alike hK, hD⟩, hS.F ht⟩) hS.2.2 dX9_narrowLine_84
    · have hok := k_neg c59 hok
      cases hok
      subst hQe; exact W.vret hx hb hr (fun t ht hW => ⟨⟨(), rfl, trivial, by rw [ht]; exact hP, va_K.moved hW.alike hK, hD⟩, hS.F ht⟩) hS.2.2 dX9_narrowLine_62
  unfold fX9_narrowLine at hok
  obtain ⟨H, hH⟩ : ∃ H, H = s.heap := ⟨_, rfl⟩
  obtain ⟨locs, hlc⟩ : ∃ x : List Loc, x = [] := ⟨_, rfl⟩
  have hP : va_P D vwCl (wX9_narrowLine cy aM qM vM vM_letters vM_fresh vM_tape) H := by rw [hH]; exact hP
  have hS : va_S A s.heap H locs := by rw [hH, hlc]; exact hS
  rw [show W p l e _ s m _ below meth c s.heap [] = W p l e _ s m _ below meth c H locs from by rw [hH, hlc]]
  refine lv_aload_n hx hb dX9_narrowLine_0 rfl (lv_at hl 0 rfl) ?_
  refine va_get (D := D) (ci := 8) (v := .int (vM 13)) (C := RX9) (T := TX9) (N := 29) hx hb ht0 niX9 hown hK hP 0 rfl rfl 13 (by decide) (ht0 _ wd757) (fun _ h9 => h9) rfl dX9_narrowLine_1 ?_
  refine lv_if_eq (tgt := 8) hx hb dX9_narrowLine_4 (by decide) (fun c4 => ?_) (fun c4 => ?_)
  · have hok := k_pos c4 hok
    refine lv_aload_n hx hb dX9_narrowLine_8 rfl (lv_at hl 0 rfl) ?_
    obtain ⟨⟨r9, vM_9, vM_letters_9⟩, hc9, hok⟩ := k_bind hok
    try dsimp only at hok
    refine kCi (wc := (wX9_ringName cy aM qM vM vM_letters vM_fresh vM_tape)) (wc2 := (wX9_ringName cy aM qM vM_9 vM_letters_9 vM_fresh vM_tape)) (wr := []) (ws2 := (wX9_narrowLine cy aM qM vM_9 vM_letters_9 vM_fresh vM_tape)) (kRunVS (As := []) (rest := []) ⟨hx, hb, hml, hown, ht0⟩ (kX9_ringName l D cy ad _ aM qM vM vM_letters vM_fresh vM_tape r9 vM_9 vM_letters_9 hc9 _ rfl) (cwV 0 ht0 (gV wd814 wd815 wd816 wd744 wd817) rfl rfl rfl (by decide +kernel) ⟨Nat.le_of_ble_eq_true rfl, Nat.le_of_ble_eq_true rfl⟩) hK hN hP hD hSt hS hA [0, 1, 2, 3] rfl (by decide) 0 8 rfl rfl rfl hl.1 rfl (Nat.le_of_ble_eq_true rfl) dX9_narrowLine_9 ⟨Nat.zero_le _, Nat.zero_le _⟩) hP hD hS hA [0, 1, 2, 3] [] rfl rfl (by decide) (by decide) [0, 1, 2, 3] (by decide) rfl rfl (fun H locs hP hD hS => ?_)
    refine lv_istore_n (lv' := [(1, .int r9), (0, .ref aM)]) hx hb dX9_narrowLine_12 rfl hl (by decide) rfl (fun ls hl => ?_)
    refine lv_aload_n hx hb dX9_narrowLine_13 rfl (lv_at hl 1 rfl) ?_
    refine va_get (D := D) (ci := 8) (v := .int (vM_9 13)) (C := RX9) (T := TX9) (N := 29) hx hb ht0 niX9 hown hK hP 0 rfl rfl 13 (by decide) (ht0 _ wd757) (fun _ h9 => h9) rfl dX9_narrowLine_14 ?_
    refine lv_if_eq (tgt := 21) hx hb dX9_narrowLine_17 (by decide) (fun c17 => ?_) (fun c17 => ?_)
    · have hok := k_pos c17 hok
      refine lv_aload_n hx hb dX9_narrowLine_21 rfl (lv_at hl 1 rfl) ?_
      refine lv_iload_n hx hb dX9_narrowLine_22 rfl (lv_at hl 0 rfl) ?_
      obtain ⟨⟨r23, vM_23⟩, hc23, hok⟩ := k_bind hok
      try dsimp only at hok
      refine kCi (wc := (wX9_placeHere cy aM qM vM_9 vM_fresh)) (wc2 := (wX9_placeHere cy aM qM vM_23 vM_fresh)) (wr := [(qM 12, rI cy 8 vM_letters_9), (qM 1, rI cy 900 vM_tape)]) (ws2 := (wX9_narrowLine cy aM qM vM_23 vM_letters_9 vM_fresh vM_tape)) (kRunV (As := [.int r9]) (rest := []) ⟨hx, hb, hml, hown, ht0⟩ (kX9_placeHere l D cy _ aM qM vM_9 vM_fresh r9 r23 vM_23 hc23 _ rfl) (cwV 1 ht0 (gV wd818 wd819 wd820 wd744 wd821) rfl rfl rfl (by decide +kernel) ⟨Nat.le_of_ble_eq_true rfl, Nat.le_of_ble_eq_true rfl⟩) hK hN hP hD [0, 2] rfl (by decide) 0 8 rfl rfl rfl hl.1 rfl (Nat.le_of_ble_eq_true rfl) dX9_narrowLine_23 ⟨Nat.zero_le _, Nat.zero_le _⟩) hP hD hS hA [0, 2] [1, 3] rfl rfl (by decide) (by decide) [2, 0, 3, 1] (by decide) rfl rfl (fun H locs hP hD hS => ?_)
      refine lv_istore_n (lv' := [(2, .int r23), (1, .int r9), (0, .ref aM)]) hx hb dX9_narrowLine_26 rfl hl (by decide) rfl (fun ls hl => ?_)
      refine lv_aload_n hx hb dX9_narrowLine_27 rfl (lv_at hl 2 rfl) ?_
      refine va_get (D := D) (ci := 8) (v := .int (vM_23 13)) (C := RX9) (T := TX9) (N := 29) hx hb ht0 niX9 hown hK hP 0 rfl rfl 13 (by decide) (ht0 _ wd757) (fun _ h9 => h9) rfl dX9_narrowLine_28 ?_
      refine lv_if_ne (tgt := 55) hx hb dX9_narrowLine_31 (by decide) (fun c31 => ?_) (fun c31 => ?_)
      · have hok := k_neg c31 hok
        exact J55 r23 vM_letters_9 vM_23 H locs ls hP hD hS (lv_sub hl [2, 0] rfl) hok
      · have hok := k_pos c31 hok
        refine lv_aload_n hx hb dX9_narrowLine_34 rfl (lv_at hl 2 rfl) ?_
        refine va_get (D := D) (ci := 8) (v := .ref (qM 16)) (C := RX9) (T := TX9) (N := 29) hx hb ht0 niX9 hown hK hP 0 rfl rfl 16 (by decide) (ht0 _ wd778) (fun _ h9 => h9) rfl dX9_narrowLine_35 ?_
        refine lv_bipush (v := 16) hx hb dX9_narrowLine_38 (by decide) ?_
        refine lv_iload_n hx hb dX9_narrowLine_40 rfl (lv_at hl 0 rfl) ?_
        refine lv_iadd hx hb dX9_narrowLine_41 ?_
        obtain ⟨g42, hok⟩ := gd_some hok
        refine va_iald hx hb hK hP 2 0 rfl rfl (okI_in g42) dX9_narrowLine_42 ?_
        refine lv_if_le (tgt := 55) hx hb dX9_narrowLine_43 (by decide) (fun c43 => ?_) (fun c43 => ?_)
        · have hok := k_pos c43 hok
          exact J55 r23 vM_letters_9 vM_23 H locs ls hP hD hS (lv_sub hl [2, 0] rfl) hok
        · have hok := k_neg c43 hok
          refine lv_aload_n hx hb dX9_narrowLine_46 rfl (lv_at hl 2 rfl) ?_
          refine lv_iconst (v := 3) hx hb dX9_narrowLine_47 (by decide) ?_
          refine lv_aload_n hx hb dX9_narrowLine_48 rfl (lv_at hl 2 rfl) ?_
          refine va_get (D := D) (ci := 8) (v := .int (vM_23 4)) (C := RX9) (T := TX9) (N := 29) hx hb ht0 niX9 hown hK hP 0 rfl rfl 4 (by decide) (ht0 _ wd756) (fun _ h9 => h9) rfl dX9_narrowLine_49 ?_
          obtain ⟨vM_52, hc52, hok⟩ := k_bind hok
          refine kCv (wc := (wX9_wrong cy aM qM vM_23)) (wc2 := (wX9_wrong cy aM qM vM_52)) (wr := [(qM 12, rI cy 8 vM_letters_9), (qM 16, rI cy 224 vM_fresh), (qM 1, rI cy 900 vM_tape)]) (ws2 := (wX9_narrowLine cy aM qM vM_52 vM_letters_9 vM_fresh vM_tape)) (kRunV (As := [.int 3, .int (vM_23 4)]) (rest := []) ⟨hx, hb, hml, hown, ht0⟩ (kX9_wrong l D cy _ aM qM vM_23 (3 : Int32) (vM_23 4) vM_52 hc52 _ rfl) (cwV 2 ht0 (gV wd774 wd775 wd776 wd744 wd777) rfl rfl rfl (by decide +kernel) ⟨Nat.le_of_ble_eq_true rfl, Nat.le_of_ble_eq_true rfl⟩) hK hN hP hD [0] rfl (by decide) 0 8 rfl rfl rfl hl.1 rfl (Nat.le_of_ble_eq_true rfl) dX9_narrowLine_52 ⟨Nat.zero_le _, Nat.zero_le _⟩) hP hD hS hA [0] [1, 2, 3] rfl rfl (by decide) (by decide) [3, 0, 1, 2] (by decide) rfl rfl (fun H locs hP hD hS => ?_)
          exact J55 r23 vM_letters_9 vM_52 H locs ls hP hD hS (lv_sub hl [2, 0] rfl) hok
    · have hok := k_neg c17 hok
      cases hok
      subst hQe; exact W.vret hx hb hr (fun t ht hW => ⟨⟨(), rfl, trivial, by rw [ht]; exact hP, va_K.moved hW.alike hK, hD⟩, hS.F ht⟩) hS.2.2 dX9_narrowLine_20
  · have hok := k_neg c4 hok
    cases hok
    subst hQe; exact W.vret hx hb hr (fun t ht hW => ⟨⟨(), rfl, trivial, by rw [ht]; exact hP, va_K.moved hW.alike hK, hD⟩, hS.F ht⟩) hS.2.2 dX9_narrowLine_7
def wsX9_doorLine : List Cond := .code yX9_doorLine cX9_doorLine 10 none :: W0
abbrev wX9_doorLine (cy : Nat → ClassId) (aM : Nat) (qM : Nat → Nat) (vM : Nat → Int32) (vM_fresh : Nat → Int32) (vM_letters : Nat → Int32) (vM_tape : Nat → Int32) : va_W := [(aM, oX9 vM qM), (qM 16, rI cy 224 vM_fresh), (qM 12, rI cy 8 vM_letters), (qM 1, rI cy 900 vM_tape)]
set_option maxHeartbeats 4000000 in
set_option maxRecDepth 100000 in
theorem kX9_doorLine (l : Launch) (D : va_G) (cy : Nat → ClassId) (ad : (Nat → Nat) × (Nat → Nat)) (sz : Nat) (aM : Nat) (qM : Nat → Nat) (vM : Nat → Int32) (vM_fresh : Nat → Int32) (vM_letters : Nat → Int32) (vM_tape : Nat → Int32) (z_vM : Nat → Int32) (z_vM_fresh : Nat → Int32) (z_vM_letters : Nat → Int32) (hok : fX9_doorLine vM vM_fresh vM_letters vM_tape = some (z_vM, z_vM_fresh, z_vM_letters)) (A : Nat → Prop) (hAe : va_A (wX9_doorLine cy aM qM vM vM_fresh vM_letters vM_tape) sz = A) : Met l yX9_doorLine wsX9_doorLine ({ frames := 8, cells := 0, slots := 0, locals := 171 } : Room) (kPreS D cy ad [.ref aM] (wX9_doorLine cy aM qM vM vM_fresh vM_letters vM_tape) sz A) (kQv D cy A (wX9_doorLine cy aM qM z_vM z_vM_fresh z_vM_letters vM_tape)) 0 0 A := by
  refine Met.ofW (cc := cX9_doorLine) (maxL := 10) (ret := none) (by decide) rfl ?_
  intro p e s m args below meth c s₁ B hml hv
  obtain ⟨rfl, ⟨hsz, hP, hK, hD0, hN⟩, hSt⟩ := hv
  have hx := B.exec
  have hb := B.bytes
  have hr := B.returns
  have ht0 : ∀ w ∈ W0, w.before _ s = true := fun w h => atoms_spec (ws := wsX9_doorLine) B.pre w (List.mem_cons_of_mem _ h)
  have hown : s.vm.findClass RX9 = some m.cls := findClass_of_methodNamed B.named
  have hlocks := B.notSynchronized
  subst hsz
  have hD : va_D A (wX9_doorLine cy aM qM vM vM_fresh vM_letters vM_tape) := by rw [← hAe]; exact hD0.self
  have hA : ∀ q : Nat, s.heap.size ≤ q → A q := fun q h => by rw [← hAe]; exact Or.inr h
  have hS : va_S A s.heap s.heap [] := va_S.rf
  have hl := lv_entry ([.ref aM]) (n := 10) (Nat.le_of_ble_eq_true rfl)
  rw [lg_entry_eq]
  generalize (lg_sl ([.ref aM]) ++ List.replicate (10 - (lg_sl ([.ref aM])).length) Slot.unset).toArray = ls at hl ⊢
  have hl : lv_has ls 10 [(0, .ref aM)] := hl
  generalize hQe : MQ below (kQv D cy A (wX9_doorLine cy aM qM z_vM z_vM_fresh z_vM_letters vM_tape)) ([.ref aM] : List Value).toArray s 0 0 A = Q
  have J195 : ∀ (y3_195 : Int32) (y5_195 : Int32) (vM_letters_195 : Nat → Int32) (vM_195 : Nat → Int32), ∀ (H : Heap) (locs : List Loc) (ls : Array Slot), va_P D vwCl (wX9_doorLine cy aM qM vM_195 vM_fresh vM_letters_195 vM_tape) H → va_D A (wX9_doorLine cy aM qM vM_195 vM_fresh vM_letters_195 vM_tape) → va_S A s.heap H locs → lv_has ls 10 [(0, .ref aM), (1, .int ((52 : Int32) + ((2 : Int32) * (vM_fresh (5 : Int32).toNatClampNeg)))), (3, .int y3_195), (5, .int y5_195)] → fX9_doorLine_J195 vM_fresh vM_tape y3_195 y5_195 vM_letters_195 vM_195 = some (z_vM, z_vM_fresh, z_vM_letters) → W p l e ({ frames := 8, cells := 0, slots := 0, locals := 171 } : Room) s m ([.ref aM] : List Value).toArray below meth c H locs 0 0 Q (F0 m 195 ls []) := by
    intro y3_195 y5_195 vM_letters_195 vM_195 H locs ls hP hD hS hl hok
    unfold fX9_doorLine_J195 at hok
    refine lv_aload_n hx hb dX9_doorLine_195 rfl (lv_at hl 0 rfl) ?_
    refine va_get (D := D) (ci := 8) (v := .int (vM_195 13)) (C := RX9) (T := TX9) (N := 29) hx hb ht0 niX9 hown hK hP 0 rfl rfl 13 (by decide) (ht0 _ wd757) (fun _ h9 => h9) rfl dX9_doorLine_196 ?_
    refine lv_if_eq (tgt := 203) hx hb dX9_doorLine_199 (by decide) (fun c199 => ?_) (fun c199 => ?_)
    · have hok := k_pos c199 hok
      refine lv_aload_n hx hb dX9_doorLine_203 rfl (lv_at hl 0 rfl) ?_
      obtain ⟨⟨vM_204, vM_letters_204⟩, hc204, hok⟩ := k_bind hok
      try dsimp only at hok
      refine kCv (wc := (wX9_next cy aM qM vM_195 vM_tape vM_letters_195)) (wc2 := (wX9_next cy aM qM vM_204 vM_tape vM_letters_204)) (wr := [(qM 16, rI cy 224 vM_fresh)]) (ws2 := (wX9_doorLine cy aM qM vM_204 vM_fresh vM_letters_204 vM_tape)) (kRunV (As := []) (rest := []) ⟨hx, hb, hml, hown, ht0⟩ (kX9_next l D cy _ aM qM vM_195 vM_tape vM_letters_195 vM_204 vM_letters_204 hc204 _ rfl) (cwV 0 ht0 (gV wd766 wd767 wd768 wd744 wd769) rfl rfl rfl (by decide +kernel) ⟨Nat.le_of_ble_eq_true rfl, Nat.le_of_ble_eq_true rfl⟩) hK hN hP hD [0, 3, 2] rfl (by decide) 0 8 rfl rfl rfl hl.1 rfl (Nat.le_of_ble_eq_true rfl) dX9_doorLine_204 ⟨Nat.zero_le _, Nat.zero_le _⟩) hP hD hS hA [0, 3, 2] [1] rfl rfl (by decide) (by decide) [1, 0, 3, 2] (by decide) rfl rfl (fun H locs hP hD hS => ?_)
      refine lv_aload_n hx hb dX9_doorLine_207 rfl (lv_at hl 0 rfl) ?_
      refine va_get (D := D) (ci := 8) (v := .ref (qM 16)) (C := RX9) (T := TX9) (N := 29) hx hb ht0 niX9 hown hK hP 0 rfl rfl 16 (by decide) (ht0 _ wd778) (fun _ h9 => h9) rfl dX9_doorLine_208 ?_
      refine lv_iload_n hx hb dX9_doorLine_211 rfl (lv_at hl 1 rfl) ?_
      refine lv_iload_n hx hb dX9_doorLine_212 rfl (lv_at hl 2 rfl) ?_
      obtain ⟨g213, hok⟩ := gd_some hok
      refine va_iast hx hb hK hP hD hS 1 0 rfl rfl (okI_in g213) dX9_doorLine_213 (fun H locs hP hD hS => ?_)
      have hP : va_P D vwCl (wX9_doorLine cy aM qM vM_204 (upd vM_fresh ((52 : Int32) + ((2 : Int32) * (vM_fresh (5 : Int32).toNatClampNeg))).toNatClampNeg y3_195) vM_letters_204 vM_tape) H := hP
      have hD : va_D A (wX9_doorLine cy aM qM vM_204 (upd vM_fresh ((52 : Int32) + ((2 : Int32) * (vM_fresh (5 : Int32).toNatClampNeg))).toNatClampNeg y3_195) vM_letters_204 vM_tape) := hD
      refine lv_aload_n hx hb dX9_doorLine_214 rfl (lv_at hl 0 rfl) ?_
      refine va_get (D := D) (ci := 8) (v := .ref (qM 16)) (C := RX9) (T := TX9) (N := 29) hx hb ht0 niX9 hown hK hP 0 rfl rfl 16 (by decide) (ht0 _ wd778) (fun _ h9 => h9) rfl dX9_doorLine_215 ?_
      refine lv_iload_n hx hb dX9_doorLine_218 rfl (lv_at hl 1 rfl) ?_
      refine lv_iconst (v := 1) hx hb dX9_doorLine_219 (by decide) ?_
      refine lv_iadd hx hb dX9_doorLine_220 ?_
      refine lv_iload hx hb dX9_doorLine_221 (lv_at hl 3 rfl) ?_
      obtain ⟨g223, hok⟩ := gd_some hok
      refine va_iast hx hb hK hP hD hS 1 0 rfl rfl (okI_in g223) dX9_doorLine_223 (fun H locs hP hD hS => ?_)
      have hP : va_P D vwCl (wX9_doorLine cy aM qM vM_204 (upd (upd vM_fresh ((52 : Int32) + ((2 : Int32) * (vM_fresh (5 : Int32).toNatClampNeg))).toNatClampNeg y3_195) (((52 : Int32) + ((2 : Int32) * (vM_fresh (5 : Int32).toNatClampNeg))) + (1 : Int32)).toNatClampNeg y5_195) vM_letters_204 vM_tape) H := hP
      have hD : va_D A (wX9_doorLine cy aM qM vM_204 (upd (upd vM_fresh ((52 : Int32) + ((2 : Int32) * (vM_fresh (5 : Int32).toNatClampNeg))).toNatClampNeg y3_195) (((52 : Int32) + ((2 : Int32) * (vM_fresh (5 : Int32).toNatClampNeg))) + (1 : Int32)).toNatClampNeg y5_195) vM_letters_204 vM_tape) := hD
      refine lv_aload_n hx hb dX9_doorLine_224 rfl (lv_at hl 0 rfl) ?_
      refine va_get (D := D) (ci := 8) (v := .ref (qM 16)) (C := RX9) (T := TX9) (N := 29) hx hb ht0 niX9 hown hK hP 0 rfl rfl 16 (by decide) (ht0 _ wd778) (fun _ h9 => h9) rfl dX9_doorLine_225 ?_
      refine lv_iconst (v := 5) hx hb dX9_doorLine_228 (by decide) ?_
      refine lv_dup2_11 hx hb dX9_doorLine_229 rfl rfl ?_
      obtain ⟨g230, hok⟩ := gd_some hok
      refine va_iald hx hb hK hP 1 0 rfl rfl (okI_in g230) dX9_doorLine_230 ?_
      refine lv_iconst (v := 1) hx hb dX9_doorLine_231 (by decide) ?_
      refine lv_iadd hx hb dX9_doorLine_232 ?_
      obtain ⟨g233, hok⟩ := gd_some hok
      refine va_iast hx hb hK hP hD hS 1 0 rfl rfl (okI_in g233) dX9_doorLine_233 (fun H locs hP hD hS => ?_)
      have hP : va_P D vwCl (wX9_doorLine cy aM qM vM_204 (upd (upd (upd vM_fresh ((52 : Int32) + ((2 : Int32) * (vM_fresh (5 : Int32).toNatClampNeg))).toNatClampNeg y3_195) (((52 : Int32) + ((2 : Int32) * (vM_fresh (5 : Int32).toNatClampNeg))) + (1 : Int32)).toNatClampNeg y5_195) (5 : Int32).toNatClampNeg (((upd (upd vM_fresh ((52 : Int32) + ((2 : Int32) * (vM_fresh (5 : Int32).toNatClampNeg))).toNatClampNeg y3_195) (((52 : Int32) + ((2 : Int32) * (vM_fresh (5 : Int32).toNatClampNeg))) + (1 : Int32)).toNatClampNeg y5_195) (5 : Int32).toNatClampNeg) + (1 : Int32))) vM_letters_204 vM_tape) H := hP
      have hD : va_D A (wX9_doorLine cy aM qM vM_204 (upd (upd (upd vM_fresh ((52 : Int32) + ((2 : Int32) * (vM_fresh (5 : Int32).toNatClampNeg))).toNatClampNeg y3_195) (((52 : Int32) + ((2 : Int32) * (vM_fresh (5 : Int32).toNatClampNeg))) + (1 : Int32)).toNatClampNeg y5_195) (5 : Int32).toNatClampNeg (((upd (upd vM_fresh ((52 : Int32) + ((2 : Int32) * (vM_fresh (5 : Int32).toNatClampNeg))).toNatClampNeg y3_195) (((52 : Int32) + ((2 : Int32) * (vM_fresh (5 : Int32).toNatClampNeg))) + (1 : Int32)).toNatClampNeg y5_195) (5 : Int32).toNatClampNeg) + (1 : Int32))) vM_letters_204 vM_tape) := hD
      cases hok
      subst hQe; exact W.vret hx hb hr (fun t ht hW => ⟨⟨(), rfl, trivial, by rw [ht]; exact hP, va_K.moved hW.alike hK, hD⟩, hS.F ht⟩) hS.2.2 dX9_doorLine_234
    · have hok := k_neg c199 hok
      cases hok
      subst hQe; exact W.vret hx hb hr (fun t ht hW => ⟨⟨(), rfl, trivial, by rw [ht]; exact hP, va_K.moved hW.alike hK, hD⟩, hS.F ht⟩) hS.2.2 dX9_doorLine_202
  have L89 : ∀ (fuel : Nat) (y3_89 : Int32) (y5_89 : Int32) (y6_89 : Int32) (y7_89 : Int32) (vM_letters_89 : Nat → Int32) (vM_89 : Nat → Int32), ∀ (H : Heap) (locs : List Loc) (ls : Array Slot), va_P D vwCl (wX9_doorLine cy aM qM vM_89 vM_fresh vM_letters_89 vM_tape) H → va_D A (wX9_doorLine cy aM qM vM_89 vM_fresh vM_letters_89 vM_tape) → va_S A s.heap H locs → lv_has ls 10 [(0, .ref aM), (1, .int ((52 : Int32) + ((2 : Int32) * (vM_fresh (5 : Int32).toNatClampNeg)))), (3, .int y3_89), (5, .int y5_89), (6, .int y6_89), (7, .int y7_89)] → lp (fX9_doorLine_B89 vM_fresh vM_tape) fuel (y3_89, y5_89, y6_89, y7_89, vM_letters_89, vM_89) = some (z_vM, z_vM_fresh, z_vM_letters) → W p l e ({ frames := 8, cells := 0, slots := 0, locals := 171 } : Room) s m ([.ref aM] : List Value).toArray below meth c H locs 0 0 Q (F0 m 89 ls []) := by
    intro fuel
    induction fuel with
    | zero => intro y3_89 y5_89 y6_89 y7_89 vM_letters_89 vM_89 H locs ls hP hD hS hl hok; exact (lp_0 hok).elim
    | succ fuel ih89 =>
      intro y3_89 y5_89 y6_89 y7_89 vM_letters_89 vM_89 H locs ls hP hD hS hl hok
      obtain ⟨y89, hok, hL89, hR89⟩ := lp_step hok
      have J166 : ∀ (t0_166 : Int32), ∀ (H : Heap) (locs : List Loc) (ls : Array Slot), va_P D vwCl (wX9_doorLine cy aM qM vM_89 vM_fresh vM_letters_89 vM_tape) H → va_D A (wX9_doorLine cy aM qM vM_89 vM_fresh vM_letters_89 vM_tape) → va_S A s.heap H locs → lv_has ls 10 [(0, .ref aM), (1, .int ((52 : Int32) + ((2 : Int32) * (vM_fresh (5 : Int32).toNatClampNeg)))), (3, .int y3_89), (5, .int y5_89), (7, .int y7_89)] → fX9_doorLine_J166 y3_89 y5_89 y7_89 vM_letters_89 vM_89 t0_166 = some y89 → W p l e ({ frames := 8, cells := 0, slots := 0, locals := 171 } : Room) s m ([.ref aM] : List Value).toArray below meth c H locs 0 0 Q (F0 m 166 ls [.int t0_166]) := by
        intro t0_166 H locs ls hP hD hS hl hok
        unfold fX9_doorLine_J166 at hok
        refine lv_istore (lv' := [(6, .int t0_166), (0, .ref aM), (1, .int ((52 : Int32) + ((2 : Int32) * (vM_fresh (5 : Int32).toNatClampNeg)))), (3, .int y3_89), (5, .int y5_89), (7, .int y7_89)]) hx hb dX9_doorLine_166 hl (by decide) rfl (fun ls hl => ?_)
        refine lv_iinc (v := (y7_89 + 1)) (lv' := [(7, .int (y7_89 + 1)), (6, .int t0_166), (0, .ref aM), (1, .int ((52 : Int32) + ((2 : Int32) * (vM_fresh (5 : Int32).toNatClampNeg)))), (3, .int y3_89), (5, .int y5_89)]) hx hb dX9_doorLine_168 hl (k := 5) rfl (by first | rfl | decide) (by decide) rfl (fun ls hl => ?_)
        refine lv_goto (tgt := 89) hx hb dX9_doorLine_171 (by decide) ?_
        exact ih89 y3_89 y5_89 t0_166 (y7_89 + 1) vM_letters_89 vM_89 H locs ls hP hD hS (lv_sub hl [2, 3, 4, 5, 1, 0] rfl) (hR89 _ (Option.some.inj hok).symm)
      have J165 : ∀ (H : Heap) (locs : List Loc) (ls : Array Slot), va_P D vwCl (wX9_doorLine cy aM qM vM_89 vM_fresh vM_letters_89 vM_tape) H → va_D A (wX9_doorLine cy aM qM vM_89 vM_fresh vM_letters_89 vM_tape) → va_S A s.heap H locs → lv_has ls 10 [(0, .ref aM), (1, .int ((52 : Int32) + ((2 : Int32) * (vM_fresh (5 : Int32).toNatClampNeg)))), (3, .int y3_89), (5, .int y5_89), (7, .int y7_89)] → fX9_doorLine_J165 y3_89 y5_89 y7_89 vM_letters_89 vM_89 = some y89 → W p l e ({ frames := 8, cells := 0, slots := 0, locals := 171 } : Room) s m ([.ref aM] : List Value).toArray below meth c H locs 0 0 Q (F0 m 165 ls []) := by
        intro  H locs ls hP hD hS hl hok
        unfold fX9_doorLine_J165 at hok
        refine lv_iconst (v := 0) hx hb dX9_doorLine_165 (by decide) ?_
        exact J166 (0 : Int32) H locs ls hP hD hS (lv_sub hl [0, 1, 2, 3, 4] rfl) hok
      have J161 : ∀ (H : Heap) (locs : List Loc) (ls : Array Slot), va_P D vwCl (wX9_doorLine cy aM qM vM_89 vM_fresh vM_letters_89 vM_tape) H → va_D A (wX9_doorLine cy aM qM vM_89 vM_fresh vM_letters_89 vM_tape) → va_S A s.heap H locs → lv_has ls 10 [(0, .ref aM), (1, .int ((52 : Int32) + ((2 : Int32) * (vM_fresh (5 : Int32).toNatClampNeg)))), (3, .int y3_89), (5, .int y5_89), (7, .int y7_89)] → fX9_doorLine_J161 y3_89 y5_89 y7_89 vM_letters_89 vM_89 = some y89 → W p l e ({ frames := 8, cells := 0, slots := 0, locals := 171 } : Room) s m ([.ref aM] : List Value).toArray below meth c H locs 0 0 Q (F0 m 161 ls []) := by
        intro  H locs ls hP hD hS hl hok
        unfold fX9_doorLine_J161 at hok
        refine lv_iconst (v := 1) hx hb dX9_doorLine_161 (by decide) ?_
        refine lv_goto (tgt := 166) hx hb dX9_doorLine_162 (by decide) ?_
        exact J166 (1 : Int32) H locs ls hP hD hS (lv_sub hl [0, 1, 2, 3, 4] rfl) hok
      have J148 : ∀ (H : Heap) (locs : List Loc) (ls : Array Slot), va_P D vwCl (wX9_doorLine cy aM qM vM_89 vM_fresh vM_letters_89 vM_tape) H → va_D A (wX9_doorLine cy aM qM vM_89 vM_fresh vM_letters_89 vM_tape) → va_S A s.heap H locs → lv_has ls 10 [(0, .ref aM), (1, .int ((52 : Int32) + ((2 : Int32) * (vM_fresh (5 : Int32).toNatClampNeg)))), (3, .int y3_89), (5, .int y5_89), (7, .int y7_89), (8, .int (vM_fresh ((52 : Int32) + ((2 : Int32) * y7_89)).toNatClampNeg)), (9, .int (vM_fresh (((52 : Int32) + ((2 : Int32) * y7_89)) + (1 : Int32)).toNatClampNeg))] → fX9_doorLine_J148 vM_fresh y3_89 y5_89 y7_89 vM_letters_89 vM_89 = some y89 → W p l e ({ frames := 8, cells := 0, slots := 0, locals := 171 } : Room) s m ([.ref aM] : List Value).toArray below meth c H locs 0 0 Q (F0 m 148 ls []) := by
        intro  H locs ls hP hD hS hl hok
        unfold fX9_doorLine_J148 at hok
        refine lv_iload hx hb dX9_doorLine_148 (lv_at hl 5 rfl) ?_
        refine lv_iload hx hb dX9_doorLine_150 (lv_at hl 3 rfl) ?_
        refine lv_icmp_ne (tgt := 165) hx hb dX9_doorLine_152 (by decide) (fun c152 => ?_) (fun c152 => ?_)
        · have hok := k_neg c152 hok
          exact J165  H locs ls hP hD hS (lv_sub hl [0, 1, 2, 3, 4] rfl) hok
        · have hok := k_pos c152 hok
          refine lv_iload hx hb dX9_doorLine_155 (lv_at hl 6 rfl) ?_
          refine lv_iload_n hx hb dX9_doorLine_157 rfl (lv_at hl 2 rfl) ?_
          refine lv_icmp_ne (tgt := 165) hx hb dX9_doorLine_158 (by decide) (fun c158 => ?_) (fun c158 => ?_)
          · have hok := k_neg c158 hok
            exact J165  H locs ls hP hD hS (lv_sub hl [0, 1, 2, 3, 4] rfl) hok
          · have hok := k_pos c158 hok
            exact J161  H locs ls hP hD hS (lv_sub hl [0, 1, 2, 3, 4] rfl) hok
      unfold fX9_doorLine_B89 at hok
      try dsimp only at hok
      refine lv_iload hx hb dX9_doorLine_89 (lv_at hl 5 rfl) ?_
      refine lv_aload_n hx hb dX9_doorLine_91 rfl (lv_at hl 0 rfl) ?_
      refine va_get (D := D) (ci := 8) (v := .ref (qM 16)) (C := RX9) (T := TX9) (N := 29) hx hb ht0 niX9 hown hK hP 0 rfl rfl 16 (by decide) (ht0 _ wd778) (fun _ h9 => h9) rfl dX9_doorLine_92 ?_
      refine lv_iconst (v := 5) hx hb dX9_doorLine_95 (by decide) ?_
      obtain ⟨g96, hok⟩ := gd_some hok
      refine va_iald hx hb hK hP 1 0 rfl rfl (okI_in g96) dX9_doorLine_96 ?_
      refine lv_icmp_ge (tgt := 174) hx hb dX9_doorLine_97 (by decide) (fun c97 => ?_) (fun c97 => ?_)
      · have hok := k_pos c97 hok
        obtain ⟨e89, hok, he89⟩ := ex_some hok
        have hok := hok.trans (congrArg some (hL89 _ he89))
        refine lv_aload_n hx hb dX9_doorLine_174 rfl (lv_at hl 0 rfl) ?_
        refine va_get (D := D) (ci := 8) (v := .int (vM_89 13)) (C := RX9) (T := TX9) (N := 29) hx hb ht0 niX9 hown hK hP 0 rfl rfl 13 (by decide) (ht0 _ wd757) (fun _ h9 => h9) rfl dX9_doorLine_175 ?_
        refine lv_if_ne (tgt := 195) hx hb dX9_doorLine_178 (by decide) (fun c178 => ?_) (fun c178 => ?_)
        · have hok := k_neg c178 hok
          exact J195 y3_89 y5_89 vM_letters_89 vM_89 H locs ls hP hD hS (lv_sub hl [0, 1, 2, 3] rfl) hok
        · have hok := k_pos c178 hok
          refine lv_iload hx hb dX9_doorLine_181 (lv_at hl 4 rfl) ?_
          refine lv_if_eq (tgt := 195) hx hb dX9_doorLine_183 (by decide) (fun c183 => ?_) (fun c183 => ?_)
          · have hok := k_pos c183 hok
            exact J195 y3_89 y5_89 vM_letters_89 vM_89 H locs ls hP hD hS (lv_sub hl [0, 1, 2, 3] rfl) hok
          · have hok := k_neg c183 hok
            refine lv_aload_n hx hb dX9_doorLine_186 rfl (lv_at hl 0 rfl) ?_
            refine lv_iconst (v := 3) hx hb dX9_doorLine_187 (by decide) ?_
            refine lv_aload_n hx hb dX9_doorLine_188 rfl (lv_at hl 0 rfl) ?_
            refine va_get (D := D) (ci := 8) (v := .int (vM_89 4)) (C := RX9) (T := TX9) (N := 29) hx hb ht0 niX9 hown hK hP 0 rfl rfl 4 (by decide) (ht0 _ wd756) (fun _ h9 => h9) rfl dX9_doorLine_189 ?_
            obtain ⟨vM_192, hc192, hok⟩ := k_bind hok
            refine kCv (wc := (wX9_wrong cy aM qM vM_89)) (wc2 := (wX9_wrong cy aM qM vM_192)) (wr := [(qM 16, rI cy 224 vM_fresh), (qM 12, rI cy 8 vM_letters_89), (qM 1, rI cy 900 vM_tape)]) (ws2 := (wX9_doorLine cy aM qM vM_192 vM_fresh vM_letters_89 vM_tape)) (kRunV (As := [.int 3, .int (vM_89 4)]) (rest := []) ⟨hx, hb, hml, hown, ht0⟩ (kX9_wrong l D cy _ aM qM vM_89 (3 : Int32) (vM_89 4) vM_192 hc192 _ rfl) (cwV 2 ht0 (gV wd774 wd775 wd776 wd744 wd777) rfl rfl rfl (by decide +kernel) ⟨Nat.le_of_ble_eq_true rfl, Nat.le_of_ble_eq_true rfl⟩) hK hN hP hD [0] rfl (by decide) 0 8 rfl rfl rfl hl.1 rfl (Nat.le_of_ble_eq_true rfl) dX9_doorLine_192 ⟨Nat.zero_le _, Nat.zero_le _⟩) hP hD hS hA [0] [1, 2, 3] rfl rfl (by decide) (by decide) [3, 0, 1, 2] (by decide) rfl rfl (fun H locs hP hD hS => ?_)
            exact J195 y3_89 y5_89 vM_letters_89 vM_192 H locs ls hP hD hS (lv_sub hl [0, 1, 2, 3] rfl) hok
      · have hok := k_neg c97 hok
        refine lv_aload_n hx hb dX9_doorLine_100 rfl (lv_at hl 0 rfl) ?_
        refine va_get (D := D) (ci := 8) (v := .ref (qM 16)) (C := RX9) (T := TX9) (N := 29) hx hb ht0 niX9 hown hK hP 0 rfl rfl 16 (by decide) (ht0 _ wd778) (fun _ h9 => h9) rfl dX9_doorLine_101 ?_
        refine lv_bipush (v := 52) hx hb dX9_doorLine_104 (by decide) ?_
        refine lv_iconst (v := 2) hx hb dX9_doorLine_106 (by decide) ?_
        refine lv_iload hx hb dX9_doorLine_107 (lv_at hl 5 rfl) ?_
        refine lv_imul hx hb dX9_doorLine_109 ?_
        refine lv_iadd hx hb dX9_doorLine_110 ?_
        obtain ⟨g111, hok⟩ := gd_some hok
        refine va_iald hx hb hK hP 1 0 rfl rfl (okI_in g111) dX9_doorLine_111 ?_
        refine lv_istore (lv' := [(8, .int (vM_fresh ((52 : Int32) + ((2 : Int32) * y7_89)).toNatClampNeg)), (0, .ref aM), (1, .int ((52 : Int32) + ((2 : Int32) * (vM_fresh (5 : Int32).toNatClampNeg)))), (3, .int y3_89), (5, .int y5_89), (6, .int y6_89), (7, .int y7_89)]) hx hb dX9_doorLine_112 hl (by decide) rfl (fun ls hl => ?_)
        refine lv_aload_n hx hb dX9_doorLine_114 rfl (lv_at hl 1 rfl) ?_
        refine va_get (D := D) (ci := 8) (v := .ref (qM 16)) (C := RX9) (T := TX9) (N := 29) hx hb ht0 niX9 hown hK hP 0 rfl rfl 16 (by decide) (ht0 _ wd778) (fun _ h9 => h9) rfl dX9_doorLine_115 ?_
        refine lv_bipush (v := 52) hx hb dX9_doorLine_118 (by decide) ?_
        refine lv_iconst (v := 2) hx hb dX9_doorLine_120 (by decide) ?_
        refine lv_iload hx hb dX9_doorLine_121 (lv_at hl 6 rfl) ?_
        refine lv_imul hx hb dX9_doorLine_123 ?_
        refine lv_iadd hx hb dX9_doorLine_124 ?_
        refine lv_iconst (v := 1) hx hb dX9_doorLine_125 (by decide) ?_
        refine lv_iadd hx hb dX9_doorLine_126 ?_
        obtain ⟨g127, hok⟩ := gd_some hok
        refine va_iald hx hb hK hP 1 0 rfl rfl (okI_in g127) dX9_doorLine_127 ?_
        refine lv_istore (lv' := [(9, .int (vM_fresh (((52 : Int32) + ((2 : Int32) * y7_89)) + (1 : Int32)).toNatClampNeg)), (8, .int (vM_fresh ((52 : Int32) + ((2 : Int32) * y7_89)).toNatClampNeg)), (0, .ref aM), (1, .int ((52 : Int32) + ((2 : Int32) * (vM_fresh (5 : Int32).toNatClampNeg)))), (3, .int y3_89), (5, .int y5_89), (6, .int y6_89), (7, .int y7_89)]) hx hb dX9_doorLine_128 hl (by decide) rfl (fun ls hl => ?_)
        refine lv_iload hx hb dX9_doorLine_130 (lv_at hl 6 rfl) ?_
        refine lv_if_ne (tgt := 161) hx hb dX9_doorLine_132 (by decide) (fun c132 => ?_) (fun c132 => ?_)
        · have hok := k_neg c132 hok
          exact J161  H locs ls hP hD hS (lv_sub hl [2, 3, 4, 5, 7] rfl) hok
        · have hok := k_pos c132 hok
          refine lv_iload hx hb dX9_doorLine_135 (lv_at hl 1 rfl) ?_
          refine lv_iload_n hx hb dX9_doorLine_137 rfl (lv_at hl 4 rfl) ?_
          refine lv_icmp_ne (tgt := 148) hx hb dX9_doorLine_138 (by decide) (fun c138 => ?_) (fun c138 => ?_)
          · have hok := k_neg c138 hok
            exact J148  H locs ls hP hD hS (lv_sub hl [2, 3, 4, 5, 7, 1, 0] rfl) hok
          · have hok := k_pos c138 hok
            refine lv_iload hx hb dX9_doorLine_141 (lv_at hl 0 rfl) ?_
            refine lv_iload hx hb dX9_doorLine_143 (lv_at hl 5 rfl) ?_
            refine lv_icmp_eq (tgt := 161) hx hb dX9_doorLine_145 (by decide) (fun c145 => ?_) (fun c145 => ?_)
            · have hok := k_pos c145 hok
              exact J161  H locs ls hP hD hS (lv_sub hl [2, 3, 4, 5, 7] rfl) hok
            · have hok := k_neg c145 hok
              exact J148  H locs ls hP hD hS (lv_sub hl [2, 3, 4, 5, 7, 1, 0] rfl) hok
  have J84 : ∀ (y3_84 : Int32) (y5_84 : Int32) (t0_84 : Int32) (vM_letters_84 : Nat → Int32) (vM_84 : Nat → Int32), ∀ (H : Heap) (locs : List Loc) (ls : Array Slot), va_P D vwCl (wX9_doorLine cy aM qM vM_84 vM_fresh vM_letters_84 vM_tape) H → va_D A (wX9_doorLine cy aM qM vM_84 vM_fresh vM_letters_84 vM_tape) → va_S A s.heap H locs → lv_has ls 10 [(0, .ref aM), (1, .int ((52 : Int32) + ((2 : Int32) * (vM_fresh (5 : Int32).toNatClampNeg)))), (3, .int y3_84), (5, .int y5_84)] → fX9_doorLine_J84 vM_fresh vM_tape y3_84 y5_84 t0_84 vM_letters_84 vM_84 = some (z_vM, z_vM_fresh, z_vM_letters) → W p l e ({ frames := 8, cells := 0, slots := 0, locals := 171 } : Room) s m ([.ref aM] : List Value).toArray below meth c H locs 0 0 Q (F0 m 84 ls [.int t0_84]) := by
    intro y3_84 y5_84 t0_84 vM_letters_84 vM_84 H locs ls hP hD hS hl hok
    unfold fX9_doorLine_J84 at hok
    refine lv_istore (lv' := [(6, .int t0_84), (0, .ref aM), (1, .int ((52 : Int32) + ((2 : Int32) * (vM_fresh (5 : Int32).toNatClampNeg)))), (3, .int y3_84), (5, .int y5_84)]) hx hb dX9_doorLine_84 hl (by decide) rfl (fun ls hl => ?_)
    refine lv_iconst (v := 0) hx hb dX9_doorLine_86 (by decide) ?_
    refine lv_istore (lv' := [(7, .int 0), (6, .int t0_84), (0, .ref aM), (1, .int ((52 : Int32) + ((2 : Int32) * (vM_fresh (5 : Int32).toNatClampNeg)))), (3, .int y3_84), (5, .int y5_84)]) hx hb dX9_doorLine_87 hl (by decide) rfl (fun ls hl => ?_)
    exact L89 5000 y3_84 y5_84 t0_84 (0 : Int32) vM_letters_84 vM_84 H locs ls hP hD hS (lv_sub hl [2, 3, 4, 5, 1, 0] rfl) hok
  unfold fX9_doorLine at hok
  obtain ⟨H, hH⟩ : ∃ H, H = s.heap := ⟨_, rfl⟩
  obtain ⟨locs, hlc⟩ : ∃ x : List Loc, x = [] := ⟨_, rfl⟩
  have hP : va_P D vwCl (wX9_doorLine cy aM qM vM vM_fresh vM_letters vM_tape) H := by rw [hH]; exact hP
  have hS : va_S A s.heap H locs := by rw [hH, hlc]; exact hS
  rw [show W p l e _ s m _ below meth c s.heap [] = W p l e _ s m _ below meth c H locs from by rw [hH, hlc]]
  refine lv_aload_n hx hb dX9_doorLine_0 rfl (lv_at hl 0 rfl) ?_
  refine va_get (D := D) (ci := 8) (v := .int (vM 13)) (C := RX9) (T := TX9) (N := 29) hx hb ht0 niX9 hown hK hP 0 rfl rfl 13 (by decide) (ht0 _ wd757) (fun _ h9 => h9) rfl dX9_doorLine_1 ?_
  refine lv_if_eq (tgt := 8) hx hb dX9_doorLine_4 (by decide) (fun c4 => ?_) (fun c4 => ?_)
  · have hok := k_pos c4 hok
    refine lv_bipush (v := 52) hx hb dX9_doorLine_8 (by decide) ?_
    refine lv_iconst (v := 2) hx hb dX9_doorLine_10 (by decide) ?_
    refine lv_aload_n hx hb dX9_doorLine_11 rfl (lv_at hl 0 rfl) ?_
    refine va_get (D := D) (ci := 8) (v := .ref (qM 16)) (C := RX9) (T := TX9) (N := 29) hx hb ht0 niX9 hown hK hP 0 rfl rfl 16 (by decide) (ht0 _ wd778) (fun _ h9 => h9) rfl dX9_doorLine_12 ?_
    refine lv_iconst (v := 5) hx hb dX9_doorLine_15 (by decide) ?_
    obtain ⟨g16, hok⟩ := gd_some hok
    refine va_iald hx hb hK hP 1 0 rfl rfl (okI_in g16) dX9_doorLine_16 ?_
    refine lv_imul hx hb dX9_doorLine_17 ?_
    refine lv_iadd hx hb dX9_doorLine_18 ?_
    refine lv_istore_n (lv' := [(1, .int ((52 : Int32) + ((2 : Int32) * (vM_fresh (5 : Int32).toNatClampNeg)))), (0, .ref aM)]) hx hb dX9_doorLine_19 rfl hl (by decide) rfl (fun ls hl => ?_)
    refine lv_aload_n hx hb dX9_doorLine_20 rfl (lv_at hl 1 rfl) ?_
    obtain ⟨⟨r21, vM_21, vM_letters_21⟩, hc21, hok⟩ := k_bind hok
    try dsimp only at hok
    refine kCi (wc := (wX9_ringName cy aM qM vM vM_letters vM_fresh vM_tape)) (wc2 := (wX9_ringName cy aM qM vM_21 vM_letters_21 vM_fresh vM_tape)) (wr := []) (ws2 := (wX9_doorLine cy aM qM vM_21 vM_fresh vM_letters_21 vM_tape)) (kRunVS (As := []) (rest := []) ⟨hx, hb, hml, hown, ht0⟩ (kX9_ringName l D cy ad _ aM qM vM vM_letters vM_fresh vM_tape r21 vM_21 vM_letters_21 hc21 _ rfl) (cwV 0 ht0 (gV wd814 wd815 wd816 wd744 wd817) rfl rfl rfl (by decide +kernel) ⟨Nat.le_of_ble_eq_true rfl, Nat.le_of_ble_eq_true rfl⟩) hK hN hP hD hSt hS hA [0, 2, 1, 3] rfl (by decide) 0 8 rfl rfl rfl hl.1 rfl (Nat.le_of_ble_eq_true rfl) dX9_doorLine_21 ⟨Nat.zero_le _, Nat.zero_le _⟩) hP hD hS hA [0, 2, 1, 3] [] rfl rfl (by decide) (by decide) [0, 2, 1, 3] (by decide) rfl rfl (fun H locs hP hD hS => ?_)
    refine lv_istore_n (lv' := [(2, .int r21), (1, .int ((52 : Int32) + ((2 : Int32) * (vM_fresh (5 : Int32).toNatClampNeg)))), (0, .ref aM)]) hx hb dX9_doorLine_24 rfl hl (by decide) rfl (fun ls hl => ?_)
    refine lv_aload_n hx hb dX9_doorLine_25 rfl (lv_at hl 2 rfl) ?_
    refine va_get (D := D) (ci := 8) (v := .int (vM_21 13)) (C := RX9) (T := TX9) (N := 29) hx hb ht0 niX9 hown hK hP 0 rfl rfl 13 (by decide) (ht0 _ wd757) (fun _ h9 => h9) rfl dX9_doorLine_26 ?_
    refine lv_if_eq (tgt := 33) hx hb dX9_doorLine_29 (by decide) (fun c29 => ?_) (fun c29 => ?_)
    · have hok := k_pos c29 hok
      refine lv_aload_n hx hb dX9_doorLine_33 rfl (lv_at hl 2 rfl) ?_
      refine lv_iload_n hx hb dX9_doorLine_34 rfl (lv_at hl 0 rfl) ?_
      obtain ⟨⟨r35, vM_35⟩, hc35, hok⟩ := k_bind hok
      try dsimp only at hok
      refine kCi (wc := (wX9_placeHere cy aM qM vM_21 vM_fresh)) (wc2 := (wX9_placeHere cy aM qM vM_35 vM_fresh)) (wr := [(qM 12, rI cy 8 vM_letters_21), (qM 1, rI cy 900 vM_tape)]) (ws2 := (wX9_doorLine cy aM qM vM_35 vM_fresh vM_letters_21 vM_tape)) (kRunV (As := [.int r21]) (rest := []) ⟨hx, hb, hml, hown, ht0⟩ (kX9_placeHere l D cy _ aM qM vM_21 vM_fresh r21 r35 vM_35 hc35 _ rfl) (cwV 1 ht0 (gV wd818 wd819 wd820 wd744 wd821) rfl rfl rfl (by decide +kernel) ⟨Nat.le_of_ble_eq_true rfl, Nat.le_of_ble_eq_true rfl⟩) hK hN hP hD [0, 1] rfl (by decide) 0 8 rfl rfl rfl hl.1 rfl (Nat.le_of_ble_eq_true rfl) dX9_doorLine_35 ⟨Nat.zero_le _, Nat.zero_le _⟩) hP hD hS hA [0, 1] [2, 3] rfl rfl (by decide) (by decide) [2, 3, 0, 1] (by decide) rfl rfl (fun H locs hP hD hS => ?_)
      refine lv_istore_n (lv' := [(3, .int r35), (2, .int r21), (1, .int ((52 : Int32) + ((2 : Int32) * (vM_fresh (5 : Int32).toNatClampNeg)))), (0, .ref aM)]) hx hb dX9_doorLine_38 rfl hl (by decide) rfl (fun ls hl => ?_)
      refine lv_aload_n hx hb dX9_doorLine_39 rfl (lv_at hl 3 rfl) ?_
      refine va_get (D := D) (ci := 8) (v := .int (vM_35 13)) (C := RX9) (T := TX9) (N := 29) hx hb ht0 niX9 hown hK hP 0 rfl rfl 13 (by decide) (ht0 _ wd757) (fun _ h9 => h9) rfl dX9_doorLine_40 ?_
      refine lv_if_eq (tgt := 47) hx hb dX9_doorLine_43 (by decide) (fun c43 => ?_) (fun c43 => ?_)
      · have hok := k_pos c43 hok
        refine lv_aload_n hx hb dX9_doorLine_47 rfl (lv_at hl 3 rfl) ?_
        obtain ⟨⟨vM_48, vM_letters_48⟩, hc48, hok⟩ := k_bind hok
        try dsimp only at hok
        refine kCv (wc := (wX9_next cy aM qM vM_35 vM_tape vM_letters_21)) (wc2 := (wX9_next cy aM qM vM_48 vM_tape vM_letters_48)) (wr := [(qM 16, rI cy 224 vM_fresh)]) (ws2 := (wX9_doorLine cy aM qM vM_48 vM_fresh vM_letters_48 vM_tape)) (kRunV (As := []) (rest := []) ⟨hx, hb, hml, hown, ht0⟩ (kX9_next l D cy _ aM qM vM_35 vM_tape vM_letters_21 vM_48 vM_letters_48 hc48 _ rfl) (cwV 0 ht0 (gV wd766 wd767 wd768 wd744 wd769) rfl rfl rfl (by decide +kernel) ⟨Nat.le_of_ble_eq_true rfl, Nat.le_of_ble_eq_true rfl⟩) hK hN hP hD [0, 3, 2] rfl (by decide) 0 8 rfl rfl rfl hl.1 rfl (Nat.le_of_ble_eq_true rfl) dX9_doorLine_48 ⟨Nat.zero_le _, Nat.zero_le _⟩) hP hD hS hA [0, 3, 2] [1] rfl rfl (by decide) (by decide) [1, 0, 3, 2] (by decide) rfl rfl (fun H locs hP hD hS => ?_)
        refine lv_aload_n hx hb dX9_doorLine_51 rfl (lv_at hl 3 rfl) ?_
        obtain ⟨⟨r52, vM_52, vM_letters_52⟩, hc52, hok⟩ := k_bind hok
        try dsimp only at hok
        refine kCi (wc := (wX9_ringName cy aM qM vM_48 vM_letters_48 vM_fresh vM_tape)) (wc2 := (wX9_ringName cy aM qM vM_52 vM_letters_52 vM_fresh vM_tape)) (wr := []) (ws2 := (wX9_doorLine cy aM qM vM_52 vM_fresh vM_letters_52 vM_tape)) (kRunVS (As := []) (rest := []) ⟨hx, hb, hml, hown, ht0⟩ (kX9_ringName l D cy ad _ aM qM vM_48 vM_letters_48 vM_fresh vM_tape r52 vM_52 vM_letters_52 hc52 _ rfl) (cwV 0 ht0 (gV wd814 wd815 wd816 wd744 wd817) rfl rfl rfl (by decide +kernel) ⟨Nat.le_of_ble_eq_true rfl, Nat.le_of_ble_eq_true rfl⟩) hK hN hP hD hSt hS hA [0, 2, 1, 3] rfl (by decide) 0 8 rfl rfl rfl hl.1 rfl (Nat.le_of_ble_eq_true rfl) dX9_doorLine_52 ⟨Nat.zero_le _, Nat.zero_le _⟩) hP hD hS hA [0, 2, 1, 3] [] rfl rfl (by decide) (by decide) [0, 2, 1, 3] (by decide) rfl rfl (fun H locs hP hD hS => ?_)
        refine lv_istore (lv' := [(4, .int r52), (3, .int r35), (2, .int r21), (1, .int ((52 : Int32) + ((2 : Int32) * (vM_fresh (5 : Int32).toNatClampNeg)))), (0, .ref aM)]) hx hb dX9_doorLine_55 hl (by decide) rfl (fun ls hl => ?_)
        refine lv_aload_n hx hb dX9_doorLine_57 rfl (lv_at hl 4 rfl) ?_
        refine va_get (D := D) (ci := 8) (v := .int (vM_52 13)) (C := RX9) (T := TX9) (N := 29) hx hb ht0 niX9 hown hK hP 0 rfl rfl 13 (by decide) (ht0 _ wd757) (fun _ h9 => h9) rfl dX9_doorLine_58 ?_
        refine lv_if_eq (tgt := 65) hx hb dX9_doorLine_61 (by decide) (fun c61 => ?_) (fun c61 => ?_)
        · have hok := k_pos c61 hok
          refine lv_aload_n hx hb dX9_doorLine_65 rfl (lv_at hl 4 rfl) ?_
          refine lv_iload hx hb dX9_doorLine_66 (lv_at hl 0 rfl) ?_
          obtain ⟨⟨r68, vM_68⟩, hc68, hok⟩ := k_bind hok
          try dsimp only at hok
          refine kCi (wc := (wX9_placeHere cy aM qM vM_52 vM_fresh)) (wc2 := (wX9_placeHere cy aM qM vM_68 vM_fresh)) (wr := [(qM 12, rI cy 8 vM_letters_52), (qM 1, rI cy 900 vM_tape)]) (ws2 := (wX9_doorLine cy aM qM vM_68 vM_fresh vM_letters_52 vM_tape)) (kRunV (As := [.int r52]) (rest := []) ⟨hx, hb, hml, hown, ht0⟩ (kX9_placeHere l D cy _ aM qM vM_52 vM_fresh r52 r68 vM_68 hc68 _ rfl) (cwV 1 ht0 (gV wd818 wd819 wd820 wd744 wd821) rfl rfl rfl (by decide +kernel) ⟨Nat.le_of_ble_eq_true rfl, Nat.le_of_ble_eq_true rfl⟩) hK hN hP hD [0, 1] rfl (by decide) 0 8 rfl rfl rfl hl.1 rfl (Nat.le_of_ble_eq_true rfl) dX9_doorLine_68 ⟨Nat.zero_le _, Nat.zero_le _⟩) hP hD hS hA [0, 1] [2, 3] rfl rfl (by decide) (by decide) [2, 3, 0, 1] (by decide) rfl rfl (fun H locs hP hD hS => ?_)
          refine lv_istore (lv' := [(5, .int r68), (4, .int r52), (3, .int r35), (2, .int r21), (1, .int ((52 : Int32) + ((2 : Int32) * (vM_fresh (5 : Int32).toNatClampNeg)))), (0, .ref aM)]) hx hb dX9_doorLine_71 hl (by decide) rfl (fun ls hl => ?_)
          refine lv_iload_n hx hb dX9_doorLine_73 rfl (lv_at hl 2 rfl) ?_
          refine lv_iload hx hb dX9_doorLine_74 (lv_at hl 0 rfl) ?_
          refine lv_icmp_ne (tgt := 83) hx hb dX9_doorLine_76 (by decide) (fun c76 => ?_) (fun c76 => ?_)
          · have hok := k_neg c76 hok
            refine lv_iconst (v := 0) hx hb dX9_doorLine_83 (by decide) ?_
            exact J84 r35 r68 (0 : Int32) vM_letters_52 vM_68 H locs ls hP hD hS (lv_sub hl [5, 4, 2, 0] rfl) hok
          · have hok := k_pos c76 hok
            refine lv_iconst (v := 1) hx hb dX9_doorLine_79 (by decide) ?_
            refine lv_goto (tgt := 84) hx hb dX9_doorLine_80 (by decide) ?_
            exact J84 r35 r68 (1 : Int32) vM_letters_52 vM_68 H locs ls hP hD hS (lv_sub hl [5, 4, 2, 0] rfl) hok
        · have hok := k_neg c61 hok
          cases hok
          subst hQe; exact W.vret hx hb hr (fun t ht hW => ⟨⟨(), rfl, trivial, by rw [ht]; exact hP, va_K.moved hW.alike hK, hD⟩, hS.F ht⟩) hS.2.2 dX9_doorLine_64
      · have hok := k_neg c43 hok
        cases hok
        subst hQe; exact W.vret hx hb hr (fun t ht hW => ⟨⟨(), rfl, trivial, by rw [ht]; exact hP, va_K.moved hW.alike hK, hD⟩, hS.F ht⟩) hS.2.2 dX9_doorLine_46
    · have hok := k_neg c29 hok
      cases hok
      subst hQe; exact W.vret hx hb hr (fun t ht hW => ⟨⟨(), rfl, trivial, by rw [ht]; exact hP, va_K.moved hW.alike hK, hD⟩, hS.F ht⟩) hS.2.2 dX9_doorLine_32
  · have hok := k_neg c4 hok
    cases hok
    subst hQe; exact W.vret hx hb hr (fun t ht hW => ⟨⟨(), rfl, trivial, by rw [ht]; exact hP, va_K.moved hW.alike hK, hD⟩, hS.F ht⟩) hS.2.2 dX9_doorLine_7
def wsX9_thingLine : List Cond := .code yX9_thingLine cX9_thingLine 6 none :: W0
abbrev wX9_thingLine (cy : Nat → ClassId) (aM : Nat) (qM : Nat → Nat) (vM : Nat → Int32) (vM_fresh : Nat → Int32) (vM_letters : Nat → Int32) (vM_tape : Nat → Int32) : va_W := [(aM, oX9 vM qM), (qM 16, rI cy 224 vM_fresh), (qM 12, rI cy 8 vM_letters), (qM 1, rI cy 900 vM_tape)]
set_option maxHeartbeats 4000000 in
set_option maxRecDepth 100000 in
theorem kX9_thingLine (l : Launch) (D : va_G) (cy : Nat → ClassId) (ad : (Nat → Nat) × (Nat → Nat)) (sz : Nat) (aM : Nat) (qM : Nat → Nat) (vM : Nat → Int32) (vM_fresh : Nat → Int32) (vM_letters : Nat → Int32) (vM_tape : Nat → Int32) (z_vM : Nat → Int32) (z_vM_fresh : Nat → Int32) (z_vM_letters : Nat → Int32) (hok : fX9_thingLine vM vM_fresh vM_letters vM_tape = some (z_vM, z_vM_fresh, z_vM_letters)) (A : Nat → Prop) (hAe : va_A (wX9_thingLine cy aM qM vM vM_fresh vM_letters vM_tape) sz = A) : Met l yX9_thingLine wsX9_thingLine ({ frames := 8, cells := 0, slots := 0, locals := 173 } : Room) (kPreS D cy ad [.ref aM] (wX9_thingLine cy aM qM vM vM_fresh vM_letters vM_tape) sz A) (kQv D cy A (wX9_thingLine cy aM qM z_vM z_vM_fresh z_vM_letters vM_tape)) 0 0 A := by
  refine Met.ofW (cc := cX9_thingLine) (maxL := 6) (ret := none) (by decide) rfl ?_
  intro p e s m args below meth c s₁ B hml hv
  obtain ⟨rfl, ⟨hsz, hP, hK, hD0, hN⟩, hSt⟩ := hv
  have hx := B.exec
  have hb := B.bytes
  have hr := B.returns
  have ht0 : ∀ w ∈ W0, w.before _ s = true := fun w h => atoms_spec (ws := wsX9_thingLine) B.pre w (List.mem_cons_of_mem _ h)
  have hown : s.vm.findClass RX9 = some m.cls := findClass_of_methodNamed B.named
  have hlocks := B.notSynchronized
  subst hsz
  have hD : va_D A (wX9_thingLine cy aM qM vM vM_fresh vM_letters vM_tape) := by rw [← hAe]; exact hD0.self
  have hA : ∀ q : Nat, s.heap.size ≤ q → A q := fun q h => by rw [← hAe]; exact Or.inr h
  have hS : va_S A s.heap s.heap [] := va_S.rf
  have hl := lv_entry ([.ref aM]) (n := 6) (Nat.le_of_ble_eq_true rfl)
  rw [lg_entry_eq]
  generalize (lg_sl ([.ref aM]) ++ List.replicate (6 - (lg_sl ([.ref aM])).length) Slot.unset).toArray = ls at hl ⊢
  have hl : lv_has ls 6 [(0, .ref aM)] := hl
  generalize hQe : MQ below (kQv D cy A (wX9_thingLine cy aM qM z_vM z_vM_fresh z_vM_letters vM_tape)) ([.ref aM] : List Value).toArray s 0 0 A = Q
  have J261 : ∀ (vM_fresh_261 : Nat → Int32) (vM_letters_261 : Nat → Int32) (vM_261 : Nat → Int32), ∀ (H : Heap) (locs : List Loc) (ls : Array Slot), va_P D vwCl (wX9_thingLine cy aM qM vM_261 vM_fresh_261 vM_letters_261 vM_tape) H → va_D A (wX9_thingLine cy aM qM vM_261 vM_fresh_261 vM_letters_261 vM_tape) → va_S A s.heap H locs → lv_has ls 6 [] → fX9_thingLine_J261 vM_fresh_261 vM_letters_261 vM_261 = some (z_vM, z_vM_fresh, z_vM_letters) → W p l e ({ frames := 8, cells := 0, slots := 0, locals := 173 } : Room) s m ([.ref aM] : List Value).toArray below meth c H locs 0 0 Q (F0 m 261 ls []) := by
    intro vM_fresh_261 vM_letters_261 vM_261 H locs ls hP hD hS hl hok
    unfold fX9_thingLine_J261 at hok
    cases hok
    subst hQe; exact W.vret hx hb hr (fun t ht hW => ⟨⟨(), rfl, trivial, by rw [ht]; exact hP, va_K.moved hW.alike hK, hD⟩, hS.F ht⟩) hS.2.2 dX9_thingLine_261
  have L146 : ∀ (fuel : Nat) (y2_146 : Int32) (y4_146 : Int32) (y5_146 : Int32) (vM_fresh_146 : Nat → Int32) (vM_letters_146 : Nat → Int32) (vM_146 : Nat → Int32), ∀ (H : Heap) (locs : List Loc) (ls : Array Slot), va_P D vwCl (wX9_thingLine cy aM qM vM_146 vM_fresh_146 vM_letters_146 vM_tape) H → va_D A (wX9_thingLine cy aM qM vM_146 vM_fresh_146 vM_letters_146 vM_tape) → va_S A s.heap H locs → lv_has ls 6 [(0, .ref aM), (1, .int ((62 : Int32) + ((3 : Int32) * (vM_fresh (3 : Int32).toNatClampNeg)))), (2, .int y2_146), (4, .int y4_146), (5, .int y5_146)] → lp (fX9_thingLine_B146 vM_fresh vM_tape) fuel (y2_146, y4_146, y5_146, vM_fresh_146, vM_letters_146, vM_146) = some (z_vM, z_vM_fresh, z_vM_letters) → W p l e ({ frames := 8, cells := 0, slots := 0, locals := 173 } : Room) s m ([.ref aM] : List Value).toArray below meth c H locs 0 0 Q (F0 m 146 ls []) := by
    intro fuel
    induction fuel with
    | zero => intro y2_146 y4_146 y5_146 vM_fresh_146 vM_letters_146 vM_146 H locs ls hP hD hS hl hok; exact (lp_0 hok).elim
    | succ fuel ih146 =>
      intro y2_146 y4_146 y5_146 vM_fresh_146 vM_letters_146 vM_146 H locs ls hP hD hS hl hok
      obtain ⟨y146, hok, hL146, hR146⟩ := lp_step hok
      have J192 : ∀ (vM_192 : Nat → Int32), ∀ (H : Heap) (locs : List Loc) (ls : Array Slot), va_P D vwCl (wX9_thingLine cy aM qM vM_192 vM_fresh_146 vM_letters_146 vM_tape) H → va_D A (wX9_thingLine cy aM qM vM_192 vM_fresh_146 vM_letters_146 vM_tape) → va_S A s.heap H locs → lv_has ls 6 [(0, .ref aM), (1, .int ((62 : Int32) + ((3 : Int32) * (vM_fresh (3 : Int32).toNatClampNeg)))), (2, .int y2_146), (4, .int y4_146), (5, .int y5_146)] → fX9_thingLine_J192 y2_146 y4_146 y5_146 vM_fresh_146 vM_letters_146 vM_192 = some y146 → W p l e ({ frames := 8, cells := 0, slots := 0, locals := 173 } : Room) s m ([.ref aM] : List Value).toArray below meth c H locs 0 0 Q (F0 m 192 ls []) := by
        intro vM_192 H locs ls hP hD hS hl hok
        unfold fX9_thingLine_J192 at hok
        refine lv_iinc (v := (y5_146 + 1)) (lv' := [(5, .int (y5_146 + 1)), (0, .ref aM), (1, .int ((62 : Int32) + ((3 : Int32) * (vM_fresh (3 : Int32).toNatClampNeg)))), (2, .int y2_146), (4, .int y4_146)]) hx hb dX9_thingLine_192 hl (k := 4) rfl (by first | rfl | decide) (by decide) rfl (fun ls hl => ?_)
        refine lv_goto (tgt := 146) hx hb dX9_thingLine_195 (by decide) ?_
        exact ih146 y2_146 y4_146 (y5_146 + 1) vM_fresh_146 vM_letters_146 vM_192 H locs ls hP hD hS (lv_sub hl [1, 2, 3, 4, 0] rfl) (hR146 _ (Option.some.inj hok).symm)
      unfold fX9_thingLine_B146 at hok
      try dsimp only at hok
      refine lv_iload hx hb dX9_thingLine_146 (lv_at hl 4 rfl) ?_
      refine lv_aload_n hx hb dX9_thingLine_148 rfl (lv_at hl 0 rfl) ?_
      refine va_get (D := D) (ci := 8) (v := .ref (qM 16)) (C := RX9) (T := TX9) (N := 29) hx hb ht0 niX9 hown hK hP 0 rfl rfl 16 (by decide) (ht0 _ wd778) (fun _ h9 => h9) rfl dX9_thingLine_149 ?_
      refine lv_iconst (v := 3) hx hb dX9_thingLine_152 (by decide) ?_
      obtain ⟨g153, hok⟩ := gd_some hok
      refine va_iald hx hb hK hP 1 0 rfl rfl (okI_in g153) dX9_thingLine_153 ?_
      refine lv_icmp_ge (tgt := 198) hx hb dX9_thingLine_154 (by decide) (fun c154 => ?_) (fun c154 => ?_)
      · have hok := k_pos c154 hok
        obtain ⟨e146, hok, he146⟩ := ex_some hok
        have hok := hok.trans (congrArg some (hL146 _ he146))
        refine lv_aload_n hx hb dX9_thingLine_198 rfl (lv_at hl 0 rfl) ?_
        refine va_get (D := D) (ci := 8) (v := .int (vM_146 13)) (C := RX9) (T := TX9) (N := 29) hx hb ht0 niX9 hown hK hP 0 rfl rfl 13 (by decide) (ht0 _ wd757) (fun _ h9 => h9) rfl dX9_thingLine_199 ?_
        refine lv_if_eq (tgt := 206) hx hb dX9_thingLine_202 (by decide) (fun c202 => ?_) (fun c202 => ?_)
        · have hok := k_pos c202 hok
          refine lv_aload_n hx hb dX9_thingLine_206 rfl (lv_at hl 0 rfl) ?_
          obtain ⟨⟨vM_207, vM_letters_207⟩, hc207, hok⟩ := k_bind hok
          try dsimp only at hok
          refine kCv (wc := (wX9_next cy aM qM vM_146 vM_tape vM_letters_146)) (wc2 := (wX9_next cy aM qM vM_207 vM_tape vM_letters_207)) (wr := [(qM 16, rI cy 224 vM_fresh_146)]) (ws2 := (wX9_thingLine cy aM qM vM_207 vM_fresh_146 vM_letters_207 vM_tape)) (kRunV (As := []) (rest := []) ⟨hx, hb, hml, hown, ht0⟩ (kX9_next l D cy _ aM qM vM_146 vM_tape vM_letters_146 vM_207 vM_letters_207 hc207 _ rfl) (cwV 0 ht0 (gV wd766 wd767 wd768 wd744 wd769) rfl rfl rfl (by decide +kernel) ⟨Nat.le_of_ble_eq_true rfl, Nat.le_of_ble_eq_true rfl⟩) hK hN hP hD [0, 3, 2] rfl (by decide) 0 8 rfl rfl rfl hl.1 rfl (Nat.le_of_ble_eq_true rfl) dX9_thingLine_207 ⟨Nat.zero_le _, Nat.zero_le _⟩) hP hD hS hA [0, 3, 2] [1] rfl rfl (by decide) (by decide) [1, 0, 3, 2] (by decide) rfl rfl (fun H locs hP hD hS => ?_)
          refine lv_aload_n hx hb dX9_thingLine_210 rfl (lv_at hl 0 rfl) ?_
          refine va_get (D := D) (ci := 8) (v := .ref (qM 16)) (C := RX9) (T := TX9) (N := 29) hx hb ht0 niX9 hown hK hP 0 rfl rfl 16 (by decide) (ht0 _ wd778) (fun _ h9 => h9) rfl dX9_thingLine_211 ?_
          refine lv_iload_n hx hb dX9_thingLine_214 rfl (lv_at hl 1 rfl) ?_
          refine lv_iload_n hx hb dX9_thingLine_215 rfl (lv_at hl 2 rfl) ?_
          obtain ⟨g216, hok⟩ := gd_some hok
          refine va_iast hx hb hK hP hD hS 1 0 rfl rfl (okI_in g216) dX9_thingLine_216 (fun H locs hP hD hS => ?_)
          have hP : va_P D vwCl (wX9_thingLine cy aM qM vM_207 (upd vM_fresh_146 ((62 : Int32) + ((3 : Int32) * (vM_fresh (3 : Int32).toNatClampNeg))).toNatClampNeg y2_146) vM_letters_207 vM_tape) H := hP
          have hD : va_D A (wX9_thingLine cy aM qM vM_207 (upd vM_fresh_146 ((62 : Int32) + ((3 : Int32) * (vM_fresh (3 : Int32).toNatClampNeg))).toNatClampNeg y2_146) vM_letters_207 vM_tape) := hD
          refine lv_aload_n hx hb dX9_thingLine_217 rfl (lv_at hl 0 rfl) ?_
          refine va_get (D := D) (ci := 8) (v := .ref (qM 16)) (C := RX9) (T := TX9) (N := 29) hx hb ht0 niX9 hown hK hP 0 rfl rfl 16 (by decide) (ht0 _ wd778) (fun _ h9 => h9) rfl dX9_thingLine_218 ?_
          refine lv_iload_n hx hb dX9_thingLine_221 rfl (lv_at hl 1 rfl) ?_
          refine lv_iconst (v := 1) hx hb dX9_thingLine_222 (by decide) ?_
          refine lv_iadd hx hb dX9_thingLine_223 ?_
          refine lv_iload hx hb dX9_thingLine_224 (lv_at hl 3 rfl) ?_
          obtain ⟨g226, hok⟩ := gd_some hok
          refine va_iast hx hb hK hP hD hS 1 0 rfl rfl (okI_in g226) dX9_thingLine_226 (fun H locs hP hD hS => ?_)
          have hP : va_P D vwCl (wX9_thingLine cy aM qM vM_207 (upd (upd vM_fresh_146 ((62 : Int32) + ((3 : Int32) * (vM_fresh (3 : Int32).toNatClampNeg))).toNatClampNeg y2_146) (((62 : Int32) + ((3 : Int32) * (vM_fresh (3 : Int32).toNatClampNeg))) + (1 : Int32)).toNatClampNeg y4_146) vM_letters_207 vM_tape) H := hP
          have hD : va_D A (wX9_thingLine cy aM qM vM_207 (upd (upd vM_fresh_146 ((62 : Int32) + ((3 : Int32) * (vM_fresh (3 : Int32).toNatClampNeg))).toNatClampNeg y2_146) (((62 : Int32) + ((3 : Int32) * (vM_fresh (3 : Int32).toNatClampNeg))) + (1 : Int32)).toNatClampNeg y4_146) vM_letters_207 vM_tape) := hD
          refine lv_aload_n hx hb dX9_thingLine_227 rfl (lv_at hl 0 rfl) ?_
          refine va_get (D := D) (ci := 8) (v := .ref (qM 16)) (C := RX9) (T := TX9) (N := 29) hx hb ht0 niX9 hown hK hP 0 rfl rfl 16 (by decide) (ht0 _ wd778) (fun _ h9 => h9) rfl dX9_thingLine_228 ?_
          refine lv_iload_n hx hb dX9_thingLine_231 rfl (lv_at hl 1 rfl) ?_
          refine lv_iconst (v := 2) hx hb dX9_thingLine_232 (by decide) ?_
          refine lv_iadd hx hb dX9_thingLine_233 ?_
          refine lv_aload_n hx hb dX9_thingLine_234 rfl (lv_at hl 0 rfl) ?_
          refine va_ldcS (own := RX9) (tx := "size") (index := 234) (q := ad.1 19) hx hb hown (hSt.2.1 (RX9, 234, "size", 19) (List.mem_of_getElem? (i := 41) rfl)) dX9_thingLine_235 ?_
          refine lv_iconst (v := 1) hx hb dX9_thingLine_237 (by decide) ?_
          refine lv_bipush (v := 9) hx hb dX9_thingLine_238 (by decide) ?_
          obtain ⟨⟨r240, vM_240, vM_letters_240⟩, hc240, hok⟩ := k_bind hok
          try dsimp only at hok
          refine kCi (wc := (wX9_after cy aM qM vM_207 vM_letters_207 vM_tape)) (wc2 := (wX9_after cy aM qM vM_240 vM_letters_240 vM_tape)) (wr := [(qM 16, rI cy 224 (upd (upd vM_fresh_146 ((62 : Int32) + ((3 : Int32) * (vM_fresh (3 : Int32).toNatClampNeg))).toNatClampNeg y2_146) (((62 : Int32) + ((3 : Int32) * (vM_fresh (3 : Int32).toNatClampNeg))) + (1 : Int32)).toNatClampNeg y4_146))]) (ws2 := (wX9_thingLine cy aM qM vM_240 (upd (upd vM_fresh_146 ((62 : Int32) + ((3 : Int32) * (vM_fresh (3 : Int32).toNatClampNeg))).toNatClampNeg y2_146) (((62 : Int32) + ((3 : Int32) * (vM_fresh (3 : Int32).toNatClampNeg))) + (1 : Int32)).toNatClampNeg y4_146) vM_letters_240 vM_tape)) (kRunVS (As := [.ref (ad.1 19), .int 1, .int 9]) (rest := [.int (((62 : Int32) + ((3 : Int32) * (vM_fresh (3 : Int32).toNatClampNeg))) + (2 : Int32)), .ref (qM 16)]) ⟨hx, hb, hml, hown, ht0⟩ (kX9_after l D cy ad _ aM qM vM_207 vM_letters_207 vM_tape 19 (1 : Int32) (9 : Int32) r240 vM_240 vM_letters_240 hc240 _ rfl) (cwV 3 ht0 (gV wd806 wd807 wd808 wd744 wd809) rfl rfl rfl (by decide +kernel) ⟨Nat.le_of_ble_eq_true rfl, Nat.le_of_ble_eq_true rfl⟩) hK hN hP hD hSt hS hA [0, 2, 3] rfl (by decide) 0 8 rfl rfl rfl hl.1 rfl (Nat.le_of_ble_eq_true rfl) dX9_thingLine_240 ⟨Nat.zero_le _, Nat.zero_le _⟩) hP hD hS hA [0, 2, 3] [1] rfl rfl (by decide) (by decide) [1, 0, 2, 3] (by decide) rfl rfl (fun H locs hP hD hS => ?_)
          obtain ⟨g243, hok⟩ := gd_some hok
          refine va_iast hx hb hK hP hD hS 1 0 rfl rfl (okI_in g243) dX9_thingLine_243 (fun H locs hP hD hS => ?_)
          have hP : va_P D vwCl (wX9_thingLine cy aM qM vM_240 (upd (upd (upd vM_fresh_146 ((62 : Int32) + ((3 : Int32) * (vM_fresh (3 : Int32).toNatClampNeg))).toNatClampNeg y2_146) (((62 : Int32) + ((3 : Int32) * (vM_fresh (3 : Int32).toNatClampNeg))) + (1 : Int32)).toNatClampNeg y4_146) (((62 : Int32) + ((3 : Int32) * (vM_fresh (3 : Int32).toNatClampNeg))) + (2 : Int32)).toNatClampNeg r240) vM_letters_240 vM_tape) H := hP
          have hD : va_D A (wX9_thingLine cy aM qM vM_240 (upd (upd (upd vM_fresh_146 ((62 : Int32) + ((3 : Int32) * (vM_fresh (3 : Int32).toNatClampNeg))).toNatClampNeg y2_146) (((62 : Int32) + ((3 : Int32) * (vM_fresh (3 : Int32).toNatClampNeg))) + (1 : Int32)).toNatClampNeg y4_146) (((62 : Int32) + ((3 : Int32) * (vM_fresh (3 : Int32).toNatClampNeg))) + (2 : Int32)).toNatClampNeg r240) vM_letters_240 vM_tape) := hD
          refine lv_aload_n hx hb dX9_thingLine_244 rfl (lv_at hl 0 rfl) ?_
          refine va_get (D := D) (ci := 8) (v := .int (vM_240 13)) (C := RX9) (T := TX9) (N := 29) hx hb ht0 niX9 hown hK hP 0 rfl rfl 13 (by decide) (ht0 _ wd757) (fun _ h9 => h9) rfl dX9_thingLine_245 ?_
          refine lv_if_ne (tgt := 261) hx hb dX9_thingLine_248 (by decide) (fun c248 => ?_) (fun c248 => ?_)
          · have hok := k_neg c248 hok
            exact J261 (upd (upd (upd vM_fresh_146 ((62 : Int32) + ((3 : Int32) * (vM_fresh (3 : Int32).toNatClampNeg))).toNatClampNeg y2_146) (((62 : Int32) + ((3 : Int32) * (vM_fresh (3 : Int32).toNatClampNeg))) + (1 : Int32)).toNatClampNeg y4_146) (((62 : Int32) + ((3 : Int32) * (vM_fresh (3 : Int32).toNatClampNeg))) + (2 : Int32)).toNatClampNeg r240) vM_letters_240 vM_240 H locs ls hP hD hS (lv_sub hl [] rfl) hok
          · have hok := k_pos c248 hok
            refine lv_aload_n hx hb dX9_thingLine_251 rfl (lv_at hl 0 rfl) ?_
            refine va_get (D := D) (ci := 8) (v := .ref (qM 16)) (C := RX9) (T := TX9) (N := 29) hx hb ht0 niX9 hown hK hP 0 rfl rfl 16 (by decide) (ht0 _ wd778) (fun _ h9 => h9) rfl dX9_thingLine_252 ?_
            refine lv_iconst (v := 3) hx hb dX9_thingLine_255 (by decide) ?_
            refine lv_dup2_11 hx hb dX9_thingLine_256 rfl rfl ?_
            obtain ⟨g257, hok⟩ := gd_some hok
            refine va_iald hx hb hK hP 1 0 rfl rfl (okI_in g257) dX9_thingLine_257 ?_
            refine lv_iconst (v := 1) hx hb dX9_thingLine_258 (by decide) ?_
            refine lv_iadd hx hb dX9_thingLine_259 ?_
            obtain ⟨g260, hok⟩ := gd_some hok
            refine va_iast hx hb hK hP hD hS 1 0 rfl rfl (okI_in g260) dX9_thingLine_260 (fun H locs hP hD hS => ?_)
            have hP : va_P D vwCl (wX9_thingLine cy aM qM vM_240 (upd (upd (upd (upd vM_fresh_146 ((62 : Int32) + ((3 : Int32) * (vM_fresh (3 : Int32).toNatClampNeg))).toNatClampNeg y2_146) (((62 : Int32) + ((3 : Int32) * (vM_fresh (3 : Int32).toNatClampNeg))) + (1 : Int32)).toNatClampNeg y4_146) (((62 : Int32) + ((3 : Int32) * (vM_fresh (3 : Int32).toNatClampNeg))) + (2 : Int32)).toNatClampNeg r240) (3 : Int32).toNatClampNeg (((upd (upd (upd vM_fresh_146 ((62 : Int32) + ((3 : Int32) * (vM_fresh (3 : Int32).toNatClampNeg))).toNatClampNeg y2_146) (((62 : Int32) + ((3 : Int32) * (vM_fresh (3 : Int32).toNatClampNeg))) + (1 : Int32)).toNatClampNeg y4_146) (((62 : Int32) + ((3 : Int32) * (vM_fresh (3 : Int32).toNatClampNeg))) + (2 : Int32)).toNatClampNeg r240) (3 : Int32).toNatClampNeg) + (1 : Int32))) vM_letters_240 vM_tape) H := hP
            have hD : va_D A (wX9_thingLine cy aM qM vM_240 (upd (upd (upd (upd vM_fresh_146 ((62 : Int32) + ((3 : Int32) * (vM_fresh (3 : Int32).toNatClampNeg))).toNatClampNeg y2_146) (((62 : Int32) + ((3 : Int32) * (vM_fresh (3 : Int32).toNatClampNeg))) + (1 : Int32)).toNatClampNeg y4_146) (((62 : Int32) + ((3 : Int32) * (vM_fresh (3 : Int32).toNatClampNeg))) + (2 : Int32)).toNatClampNeg r240) (3 : Int32).toNatClampNeg (((upd (upd (upd vM_fresh_146 ((62 : Int32) + ((3 : Int32) * (vM_fresh (3 : Int32).toNatClampNeg))).toNatClampNeg y2_146) (((62 : Int32) + ((3 : Int32) * (vM_fresh (3 : Int32).toNatClampNeg))) + (1 : Int32)).toNatClampNeg y4_146) (((62 : Int32) + ((3 : Int32) * (vM_fresh (3 : Int32).toNatClampNeg))) + (2 : Int32)).toNatClampNeg r240) (3 : Int32).toNatClampNeg) + (1 : Int32))) vM_letters_240 vM_tape) := hD
            exact J261 (upd (upd (upd (upd vM_fresh_146 ((62 : Int32) + ((3 : Int32) * (vM_fresh (3 : Int32).toNatClampNeg))).toNatClampNeg y2_146) (((62 : Int32) + ((3 : Int32) * (vM_fresh (3 : Int32).toNatClampNeg))) + (1 : Int32)).toNatClampNeg y4_146) (((62 : Int32) + ((3 : Int32) * (vM_fresh (3 : Int32).toNatClampNeg))) + (2 : Int32)).toNatClampNeg r240) (3 : Int32).toNatClampNeg (((upd (upd (upd vM_fresh_146 ((62 : Int32) + ((3 : Int32) * (vM_fresh (3 : Int32).toNatClampNeg))).toNatClampNeg y2_146) (((62 : Int32) + ((3 : Int32) * (vM_fresh (3 : Int32).toNatClampNeg))) + (1 : Int32)).toNatClampNeg y4_146) (((62 : Int32) + ((3 : Int32) * (vM_fresh (3 : Int32).toNatClampNeg))) + (2 : Int32)).toNatClampNeg r240) (3 : Int32).toNatClampNeg) + (1 : Int32))) vM_letters_240 vM_240 H locs ls hP hD hS (lv_sub hl [] rfl) hok
        · have hok := k_neg c202 hok
          cases hok
          subst hQe; exact W.vret hx hb hr (fun t ht hW => ⟨⟨(), rfl, trivial, by rw [ht]; exact hP, va_K.moved hW.alike hK, hD⟩, hS.F ht⟩) hS.2.2 dX9_thingLine_205
      · have hok := k_neg c154 hok
        refine lv_aload_n hx hb dX9_thingLine_157 rfl (lv_at hl 0 rfl) ?_
        refine va_get (D := D) (ci := 8) (v := .int (vM_146 13)) (C := RX9) (T := TX9) (N := 29) hx hb ht0 niX9 hown hK hP 0 rfl rfl 13 (by decide) (ht0 _ wd757) (fun _ h9 => h9) rfl dX9_thingLine_158 ?_
        refine lv_if_ne (tgt := 192) hx hb dX9_thingLine_161 (by decide) (fun c161 => ?_) (fun c161 => ?_)
        · have hok := k_neg c161 hok
          exact J192 vM_146 H locs ls hP hD hS (lv_sub hl [0, 1, 2, 3, 4] rfl) hok
        · have hok := k_pos c161 hok
          refine lv_aload_n hx hb dX9_thingLine_164 rfl (lv_at hl 0 rfl) ?_
          refine va_get (D := D) (ci := 8) (v := .ref (qM 16)) (C := RX9) (T := TX9) (N := 29) hx hb ht0 niX9 hown hK hP 0 rfl rfl 16 (by decide) (ht0 _ wd778) (fun _ h9 => h9) rfl dX9_thingLine_165 ?_
          refine lv_bipush (v := 62) hx hb dX9_thingLine_168 (by decide) ?_
          refine lv_iconst (v := 3) hx hb dX9_thingLine_170 (by decide) ?_
          refine lv_iload hx hb dX9_thingLine_171 (lv_at hl 4 rfl) ?_
          refine lv_imul hx hb dX9_thingLine_173 ?_
          refine lv_iadd hx hb dX9_thingLine_174 ?_
          refine lv_iconst (v := 1) hx hb dX9_thingLine_175 (by decide) ?_
          refine lv_iadd hx hb dX9_thingLine_176 ?_
          obtain ⟨g177, hok⟩ := gd_some hok
          refine va_iald hx hb hK hP 1 0 rfl rfl (okI_in g177) dX9_thingLine_177 ?_
          refine lv_iload hx hb dX9_thingLine_178 (lv_at hl 3 rfl) ?_
          refine lv_icmp_ne (tgt := 192) hx hb dX9_thingLine_180 (by decide) (fun c180 => ?_) (fun c180 => ?_)
          · have hok := k_neg c180 hok
            exact J192 vM_146 H locs ls hP hD hS (lv_sub hl [0, 1, 2, 3, 4] rfl) hok
          · have hok := k_pos c180 hok
            refine lv_aload_n hx hb dX9_thingLine_183 rfl (lv_at hl 0 rfl) ?_
            refine lv_iconst (v := 3) hx hb dX9_thingLine_184 (by decide) ?_
            refine lv_aload_n hx hb dX9_thingLine_185 rfl (lv_at hl 0 rfl) ?_
            refine va_get (D := D) (ci := 8) (v := .int (vM_146 4)) (C := RX9) (T := TX9) (N := 29) hx hb ht0 niX9 hown hK hP 0 rfl rfl 4 (by decide) (ht0 _ wd756) (fun _ h9 => h9) rfl dX9_thingLine_186 ?_
            obtain ⟨vM_189, hc189, hok⟩ := k_bind hok
            refine kCv (wc := (wX9_wrong cy aM qM vM_146)) (wc2 := (wX9_wrong cy aM qM vM_189)) (wr := [(qM 16, rI cy 224 vM_fresh_146), (qM 12, rI cy 8 vM_letters_146), (qM 1, rI cy 900 vM_tape)]) (ws2 := (wX9_thingLine cy aM qM vM_189 vM_fresh_146 vM_letters_146 vM_tape)) (kRunV (As := [.int 3, .int (vM_146 4)]) (rest := []) ⟨hx, hb, hml, hown, ht0⟩ (kX9_wrong l D cy _ aM qM vM_146 (3 : Int32) (vM_146 4) vM_189 hc189 _ rfl) (cwV 2 ht0 (gV wd774 wd775 wd776 wd744 wd777) rfl rfl rfl (by decide +kernel) ⟨Nat.le_of_ble_eq_true rfl, Nat.le_of_ble_eq_true rfl⟩) hK hN hP hD [0] rfl (by decide) 0 8 rfl rfl rfl hl.1 rfl (Nat.le_of_ble_eq_true rfl) dX9_thingLine_189 ⟨Nat.zero_le _, Nat.zero_le _⟩) hP hD hS hA [0] [1, 2, 3] rfl rfl (by decide) (by decide) [3, 0, 1, 2] (by decide) rfl rfl (fun H locs hP hD hS => ?_)
            exact J192 vM_189 H locs ls hP hD hS (lv_sub hl [0, 1, 2, 3, 4] rfl) hok
  have J99 : ∀ (y2_99 : Int32) (vM_fresh_99 : Nat → Int32) (vM_letters_99 : Nat → Int32) (vM_99 : Nat → Int32), ∀ (H : Heap) (locs : List Loc) (ls : Array Slot), va_P D vwCl (wX9_thingLine cy aM qM vM_99 vM_fresh_99 vM_letters_99 vM_tape) H → va_D A (wX9_thingLine cy aM qM vM_99 vM_fresh_99 vM_letters_99 vM_tape) → va_S A s.heap H locs → lv_has ls 6 [(0, .ref aM), (1, .int ((62 : Int32) + ((3 : Int32) * (vM_fresh (3 : Int32).toNatClampNeg)))), (2, .int y2_99)] → fX9_thingLine_J99 vM_fresh vM_tape y2_99 vM_fresh_99 vM_letters_99 vM_99 = some (z_vM, z_vM_fresh, z_vM_letters) → W p l e ({ frames := 8, cells := 0, slots := 0, locals := 173 } : Room) s m ([.ref aM] : List Value).toArray below meth c H locs 0 0 Q (F0 m 99 ls []) := by
    intro y2_99 vM_fresh_99 vM_letters_99 vM_99 H locs ls hP hD hS hl hok
    unfold fX9_thingLine_J99 at hok
    refine lv_aload_n hx hb dX9_thingLine_99 rfl (lv_at hl 0 rfl) ?_
    refine va_get (D := D) (ci := 8) (v := .int (vM_99 13)) (C := RX9) (T := TX9) (N := 29) hx hb ht0 niX9 hown hK hP 0 rfl rfl 13 (by decide) (ht0 _ wd757) (fun _ h9 => h9) rfl dX9_thingLine_100 ?_
    refine lv_if_eq (tgt := 107) hx hb dX9_thingLine_103 (by decide) (fun c103 => ?_) (fun c103 => ?_)
    · have hok := k_pos c103 hok
      refine lv_aload_n hx hb dX9_thingLine_107 rfl (lv_at hl 0 rfl) ?_
      obtain ⟨⟨vM_108, vM_letters_108⟩, hc108, hok⟩ := k_bind hok
      try dsimp only at hok
      refine kCv (wc := (wX9_next cy aM qM vM_99 vM_tape vM_letters_99)) (wc2 := (wX9_next cy aM qM vM_108 vM_tape vM_letters_108)) (wr := [(qM 16, rI cy 224 vM_fresh_99)]) (ws2 := (wX9_thingLine cy aM qM vM_108 vM_fresh_99 vM_letters_108 vM_tape)) (kRunV (As := []) (rest := []) ⟨hx, hb, hml, hown, ht0⟩ (kX9_next l D cy _ aM qM vM_99 vM_tape vM_letters_99 vM_108 vM_letters_108 hc108 _ rfl) (cwV 0 ht0 (gV wd766 wd767 wd768 wd744 wd769) rfl rfl rfl (by decide +kernel) ⟨Nat.le_of_ble_eq_true rfl, Nat.le_of_ble_eq_true rfl⟩) hK hN hP hD [0, 3, 2] rfl (by decide) 0 8 rfl rfl rfl hl.1 rfl (Nat.le_of_ble_eq_true rfl) dX9_thingLine_108 ⟨Nat.zero_le _, Nat.zero_le _⟩) hP hD hS hA [0, 3, 2] [1] rfl rfl (by decide) (by decide) [1, 0, 3, 2] (by decide) rfl rfl (fun H locs hP hD hS => ?_)
      refine lv_aload_n hx hb dX9_thingLine_111 rfl (lv_at hl 0 rfl) ?_
      refine va_ldcS (own := RX9) (tx := "in") (index := 232) (q := ad.1 9) hx hb hown (hSt.2.1 (RX9, 232, "in", 9) (List.mem_of_getElem? (i := 39) rfl)) dX9_thingLine_112 ?_
      obtain ⟨⟨vM_114, vM_letters_114⟩, hc114, hok⟩ := k_bind hok
      try dsimp only at hok
      refine kCv (wc := (wX9_must cy aM qM vM_108 vM_letters_108 vM_tape)) (wc2 := (wX9_must cy aM qM vM_114 vM_letters_114 vM_tape)) (wr := [(qM 16, rI cy 224 vM_fresh_99)]) (ws2 := (wX9_thingLine cy aM qM vM_114 vM_fresh_99 vM_letters_114 vM_tape)) (kRunVS (As := [.ref (ad.1 9)]) (rest := []) ⟨hx, hb, hml, hown, ht0⟩ (kX9_must l D cy ad _ aM qM vM_108 vM_letters_108 vM_tape 9 vM_114 vM_letters_114 hc114 _ rfl) (cwV 1 ht0 (gV wd798 wd799 wd800 wd744 wd801) rfl rfl rfl (by decide +kernel) ⟨Nat.le_of_ble_eq_true rfl, Nat.le_of_ble_eq_true rfl⟩) hK hN hP hD hSt hS hA [0, 2, 3] rfl (by decide) 0 8 rfl rfl rfl hl.1 rfl (Nat.le_of_ble_eq_true rfl) dX9_thingLine_114 ⟨Nat.zero_le _, Nat.zero_le _⟩) hP hD hS hA [0, 2, 3] [1] rfl rfl (by decide) (by decide) [1, 0, 2, 3] (by decide) rfl rfl (fun H locs hP hD hS => ?_)
      refine lv_aload_n hx hb dX9_thingLine_117 rfl (lv_at hl 0 rfl) ?_
      obtain ⟨⟨r118, vM_118, vM_letters_118⟩, hc118, hok⟩ := k_bind hok
      try dsimp only at hok
      refine kCi (wc := (wX9_ringName cy aM qM vM_114 vM_letters_114 vM_fresh_99 vM_tape)) (wc2 := (wX9_ringName cy aM qM vM_118 vM_letters_118 vM_fresh_99 vM_tape)) (wr := []) (ws2 := (wX9_thingLine cy aM qM vM_118 vM_fresh_99 vM_letters_118 vM_tape)) (kRunVS (As := []) (rest := []) ⟨hx, hb, hml, hown, ht0⟩ (kX9_ringName l D cy ad _ aM qM vM_114 vM_letters_114 vM_fresh_99 vM_tape r118 vM_118 vM_letters_118 hc118 _ rfl) (cwV 0 ht0 (gV wd814 wd815 wd816 wd744 wd817) rfl rfl rfl (by decide +kernel) ⟨Nat.le_of_ble_eq_true rfl, Nat.le_of_ble_eq_true rfl⟩) hK hN hP hD hSt hS hA [0, 2, 1, 3] rfl (by decide) 0 8 rfl rfl rfl hl.1 rfl (Nat.le_of_ble_eq_true rfl) dX9_thingLine_118 ⟨Nat.zero_le _, Nat.zero_le _⟩) hP hD hS hA [0, 2, 1, 3] [] rfl rfl (by decide) (by decide) [0, 2, 1, 3] (by decide) rfl rfl (fun H locs hP hD hS => ?_)
      refine lv_istore_n (lv' := [(3, .int r118), (0, .ref aM), (1, .int ((62 : Int32) + ((3 : Int32) * (vM_fresh (3 : Int32).toNatClampNeg)))), (2, .int y2_99)]) hx hb dX9_thingLine_121 rfl hl (by decide) rfl (fun ls hl => ?_)
      refine lv_aload_n hx hb dX9_thingLine_122 rfl (lv_at hl 1 rfl) ?_
      refine va_ldcS (own := RX9) (tx := "at") (index := 233) (q := ad.1 0) hx hb hown (hSt.2.1 (RX9, 233, "at", 0) (List.mem_of_getElem? (i := 40) rfl)) dX9_thingLine_123 ?_
      obtain ⟨⟨vM_125, vM_letters_125⟩, hc125, hok⟩ := k_bind hok
      try dsimp only at hok
      refine kCv (wc := (wX9_must cy aM qM vM_118 vM_letters_118 vM_tape)) (wc2 := (wX9_must cy aM qM vM_125 vM_letters_125 vM_tape)) (wr := [(qM 16, rI cy 224 vM_fresh_99)]) (ws2 := (wX9_thingLine cy aM qM vM_125 vM_fresh_99 vM_letters_125 vM_tape)) (kRunVS (As := [.ref (ad.1 0)]) (rest := []) ⟨hx, hb, hml, hown, ht0⟩ (kX9_must l D cy ad _ aM qM vM_118 vM_letters_118 vM_tape 0 vM_125 vM_letters_125 hc125 _ rfl) (cwV 1 ht0 (gV wd798 wd799 wd800 wd744 wd801) rfl rfl rfl (by decide +kernel) ⟨Nat.le_of_ble_eq_true rfl, Nat.le_of_ble_eq_true rfl⟩) hK hN hP hD hSt hS hA [0, 2, 3] rfl (by decide) 0 8 rfl rfl rfl hl.1 rfl (Nat.le_of_ble_eq_true rfl) dX9_thingLine_125 ⟨Nat.zero_le _, Nat.zero_le _⟩) hP hD hS hA [0, 2, 3] [1] rfl rfl (by decide) (by decide) [1, 0, 2, 3] (by decide) rfl rfl (fun H locs hP hD hS => ?_)
      refine lv_aload_n hx hb dX9_thingLine_128 rfl (lv_at hl 1 rfl) ?_
      refine va_get (D := D) (ci := 8) (v := .int (vM_125 13)) (C := RX9) (T := TX9) (N := 29) hx hb ht0 niX9 hown hK hP 0 rfl rfl 13 (by decide) (ht0 _ wd757) (fun _ h9 => h9) rfl dX9_thingLine_129 ?_
      refine lv_if_eq (tgt := 136) hx hb dX9_thingLine_132 (by decide) (fun c132 => ?_) (fun c132 => ?_)
      · have hok := k_pos c132 hok
        refine lv_aload_n hx hb dX9_thingLine_136 rfl (lv_at hl 1 rfl) ?_
        refine lv_iload_n hx hb dX9_thingLine_137 rfl (lv_at hl 0 rfl) ?_
        obtain ⟨⟨r138, vM_138⟩, hc138, hok⟩ := k_bind hok
        try dsimp only at hok
        refine kCi (wc := (wX9_placeHere cy aM qM vM_125 vM_fresh_99)) (wc2 := (wX9_placeHere cy aM qM vM_138 vM_fresh_99)) (wr := [(qM 12, rI cy 8 vM_letters_125), (qM 1, rI cy 900 vM_tape)]) (ws2 := (wX9_thingLine cy aM qM vM_138 vM_fresh_99 vM_letters_125 vM_tape)) (kRunV (As := [.int r118]) (rest := []) ⟨hx, hb, hml, hown, ht0⟩ (kX9_placeHere l D cy _ aM qM vM_125 vM_fresh_99 r118 r138 vM_138 hc138 _ rfl) (cwV 1 ht0 (gV wd818 wd819 wd820 wd744 wd821) rfl rfl rfl (by decide +kernel) ⟨Nat.le_of_ble_eq_true rfl, Nat.le_of_ble_eq_true rfl⟩) hK hN hP hD [0, 1] rfl (by decide) 0 8 rfl rfl rfl hl.1 rfl (Nat.le_of_ble_eq_true rfl) dX9_thingLine_138 ⟨Nat.zero_le _, Nat.zero_le _⟩) hP hD hS hA [0, 1] [2, 3] rfl rfl (by decide) (by decide) [2, 3, 0, 1] (by decide) rfl rfl (fun H locs hP hD hS => ?_)
        refine lv_istore (lv' := [(4, .int r138), (3, .int r118), (0, .ref aM), (1, .int ((62 : Int32) + ((3 : Int32) * (vM_fresh (3 : Int32).toNatClampNeg)))), (2, .int y2_99)]) hx hb dX9_thingLine_141 hl (by decide) rfl (fun ls hl => ?_)
        refine lv_iconst (v := 0) hx hb dX9_thingLine_143 (by decide) ?_
        refine lv_istore (lv' := [(5, .int 0), (4, .int r138), (3, .int r118), (0, .ref aM), (1, .int ((62 : Int32) + ((3 : Int32) * (vM_fresh (3 : Int32).toNatClampNeg)))), (2, .int y2_99)]) hx hb dX9_thingLine_144 hl (by decide) rfl (fun ls hl => ?_)
        exact L146 5000 y2_99 r138 (0 : Int32) vM_fresh_99 vM_letters_125 vM_138 H locs ls hP hD hS (lv_sub hl [3, 4, 5, 1, 0] rfl) hok
      · have hok := k_neg c132 hok
        cases hok
        subst hQe; exact W.vret hx hb hr (fun t ht hW => ⟨⟨(), rfl, trivial, by rw [ht]; exact hP, va_K.moved hW.alike hK, hD⟩, hS.F ht⟩) hS.2.2 dX9_thingLine_135
    · have hok := k_neg c103 hok
      cases hok
      subst hQe; exact W.vret hx hb hr (fun t ht hW => ⟨⟨(), rfl, trivial, by rw [ht]; exact hP, va_K.moved hW.alike hK, hD⟩, hS.F ht⟩) hS.2.2 dX9_thingLine_106
  have J85 : ∀ (t0_85 : Int32) (vM_fresh_85 : Nat → Int32) (vM_letters_85 : Nat → Int32) (vM_85 : Nat → Int32), ∀ (H : Heap) (locs : List Loc) (ls : Array Slot), va_P D vwCl (wX9_thingLine cy aM qM vM_85 vM_fresh_85 vM_letters_85 vM_tape) H → va_D A (wX9_thingLine cy aM qM vM_85 vM_fresh_85 vM_letters_85 vM_tape) → va_S A s.heap H locs → lv_has ls 6 [(0, .ref aM), (1, .int ((62 : Int32) + ((3 : Int32) * (vM_fresh (3 : Int32).toNatClampNeg))))] → fX9_thingLine_J85 vM_fresh vM_tape t0_85 vM_fresh_85 vM_letters_85 vM_85 = some (z_vM, z_vM_fresh, z_vM_letters) → W p l e ({ frames := 8, cells := 0, slots := 0, locals := 173 } : Room) s m ([.ref aM] : List Value).toArray below meth c H locs 0 0 Q (F0 m 85 ls [.int t0_85]) := by
    intro t0_85 vM_fresh_85 vM_letters_85 vM_85 H locs ls hP hD hS hl hok
    unfold fX9_thingLine_J85 at hok
    refine lv_istore_n (lv' := [(2, .int t0_85), (0, .ref aM), (1, .int ((62 : Int32) + ((3 : Int32) * (vM_fresh (3 : Int32).toNatClampNeg))))]) hx hb dX9_thingLine_85 rfl hl (by decide) rfl (fun ls hl => ?_)
    refine lv_iload_n hx hb dX9_thingLine_86 rfl (lv_at hl 0 rfl) ?_
    refine lv_if_ge (tgt := 99) hx hb dX9_thingLine_87 (by decide) (fun c87 => ?_) (fun c87 => ?_)
    · have hok := k_pos c87 hok
      exact J99 t0_85 vM_fresh_85 vM_letters_85 vM_85 H locs ls hP hD hS (lv_sub hl [1, 2, 0] rfl) hok
    · have hok := k_neg c87 hok
      refine lv_aload_n hx hb dX9_thingLine_90 rfl (lv_at hl 1 rfl) ?_
      refine lv_iconst (v := 1) hx hb dX9_thingLine_91 (by decide) ?_
      refine lv_aload_n hx hb dX9_thingLine_92 rfl (lv_at hl 1 rfl) ?_
      refine va_get (D := D) (ci := 8) (v := .int (vM_85 4)) (C := RX9) (T := TX9) (N := 29) hx hb ht0 niX9 hown hK hP 0 rfl rfl 4 (by decide) (ht0 _ wd756) (fun _ h9 => h9) rfl dX9_thingLine_93 ?_
      obtain ⟨vM_96, hc96, hok⟩ := k_bind hok
      refine kCv (wc := (wX9_wrong cy aM qM vM_85)) (wc2 := (wX9_wrong cy aM qM vM_96)) (wr := [(qM 16, rI cy 224 vM_fresh_85), (qM 12, rI cy 8 vM_letters_85), (qM 1, rI cy 900 vM_tape)]) (ws2 := (wX9_thingLine cy aM qM vM_96 vM_fresh_85 vM_letters_85 vM_tape)) (kRunV (As := [.int 1, .int (vM_85 4)]) (rest := []) ⟨hx, hb, hml, hown, ht0⟩ (kX9_wrong l D cy _ aM qM vM_85 (1 : Int32) (vM_85 4) vM_96 hc96 _ rfl) (cwV 2 ht0 (gV wd774 wd775 wd776 wd744 wd777) rfl rfl rfl (by decide +kernel) ⟨Nat.le_of_ble_eq_true rfl, Nat.le_of_ble_eq_true rfl⟩) hK hN hP hD [0] rfl (by decide) 0 8 rfl rfl rfl hl.1 rfl (Nat.le_of_ble_eq_true rfl) dX9_thingLine_96 ⟨Nat.zero_le _, Nat.zero_le _⟩) hP hD hS hA [0] [1, 2, 3] rfl rfl (by decide) (by decide) [3, 0, 1, 2] (by decide) rfl rfl (fun H locs hP hD hS => ?_)
      exact J99 t0_85 vM_fresh_85 vM_letters_85 vM_96 H locs ls hP hD hS (lv_sub hl [1, 2, 0] rfl) hok
  unfold fX9_thingLine at hok
  obtain ⟨H, hH⟩ : ∃ H, H = s.heap := ⟨_, rfl⟩
  obtain ⟨locs, hlc⟩ : ∃ x : List Loc, x = [] := ⟨_, rfl⟩
  have hP : va_P D vwCl (wX9_thingLine cy aM qM vM vM_fresh vM_letters vM_tape) H := by rw [hH]; exact hP
  have hS : va_S A s.heap H locs := by rw [hH, hlc]; exact hS
  rw [show W p l e _ s m _ below meth c s.heap [] = W p l e _ s m _ below meth c H locs from by rw [hH, hlc]]
  refine lv_aload_n hx hb dX9_thingLine_0 rfl (lv_at hl 0 rfl) ?_
  refine va_get (D := D) (ci := 8) (v := .int (vM 13)) (C := RX9) (T := TX9) (N := 29) hx hb ht0 niX9 hown hK hP 0 rfl rfl 13 (by decide) (ht0 _ wd757) (fun _ h9 => h9) rfl dX9_thingLine_1 ?_
  refine lv_if_eq (tgt := 8) hx hb dX9_thingLine_4 (by decide) (fun c4 => ?_) (fun c4 => ?_)
  · have hok := k_pos c4 hok
    refine lv_bipush (v := 62) hx hb dX9_thingLine_8 (by decide) ?_
    refine lv_iconst (v := 3) hx hb dX9_thingLine_10 (by decide) ?_
    refine lv_aload_n hx hb dX9_thingLine_11 rfl (lv_at hl 0 rfl) ?_
    refine va_get (D := D) (ci := 8) (v := .ref (qM 16)) (C := RX9) (T := TX9) (N := 29) hx hb ht0 niX9 hown hK hP 0 rfl rfl 16 (by decide) (ht0 _ wd778) (fun _ h9 => h9) rfl dX9_thingLine_12 ?_
    refine lv_iconst (v := 3) hx hb dX9_thingLine_15 (by decide) ?_
    obtain ⟨g16, hok⟩ := gd_some hok
    refine va_iald hx hb hK hP 1 0 rfl rfl (okI_in g16) dX9_thingLine_16 ?_
    refine lv_imul hx hb dX9_thingLine_17 ?_
    refine lv_iadd hx hb dX9_thingLine_18 ?_
    refine lv_istore_n (lv' := [(1, .int ((62 : Int32) + ((3 : Int32) * (vM_fresh (3 : Int32).toNatClampNeg)))), (0, .ref aM)]) hx hb dX9_thingLine_19 rfl hl (by decide) rfl (fun ls hl => ?_)
    refine lv_aload_n hx hb dX9_thingLine_20 rfl (lv_at hl 1 rfl) ?_
    refine lv_iconst (v := 4) hx hb dX9_thingLine_21 (by decide) ?_
    refine lv_aload_n hx hb dX9_thingLine_22 rfl (lv_at hl 1 rfl) ?_
    refine va_get (D := D) (ci := 8) (v := .ref (qM 16)) (C := RX9) (T := TX9) (N := 29) hx hb ht0 niX9 hown hK hP 0 rfl rfl 16 (by decide) (ht0 _ wd778) (fun _ h9 => h9) rfl dX9_thingLine_23 ?_
    refine lv_iconst (v := 3) hx hb dX9_thingLine_26 (by decide) ?_
    obtain ⟨g27, hok⟩ := gd_some hok
    refine va_iald hx hb hK hP 1 0 rfl rfl (okI_in g27) dX9_thingLine_27 ?_
    refine lv_iadd hx hb dX9_thingLine_28 ?_
    obtain ⟨⟨vM_29, vM_letters_29, vM_fresh_29⟩, hc29, hok⟩ := k_bind hok
    try dsimp only at hok
    refine kCv (wc := (wX9_newName cy aM qM vM vM_letters vM_fresh vM_tape)) (wc2 := (wX9_newName cy aM qM vM_29 vM_letters_29 vM_fresh_29 vM_tape)) (wr := []) (ws2 := (wX9_thingLine cy aM qM vM_29 vM_fresh_29 vM_letters_29 vM_tape)) (kRunVS (As := [.int ((4 : Int32) + (vM_fresh (3 : Int32).toNatClampNeg))]) (rest := []) ⟨hx, hb, hml, hown, ht0⟩ (kX9_newName l D cy ad _ aM qM vM vM_letters vM_fresh vM_tape ((4 : Int32) + (vM_fresh (3 : Int32).toNatClampNeg)) vM_29 vM_letters_29 vM_fresh_29 hc29 _ rfl) (cwV 1 ht0 (gV wd810 wd811 wd812 wd744 wd813) rfl rfl rfl (by decide +kernel) ⟨Nat.le_of_ble_eq_true rfl, Nat.le_of_ble_eq_true rfl⟩) hK hN hP hD hSt hS hA [0, 2, 1, 3] rfl (by decide) 0 8 rfl rfl rfl hl.1 rfl (Nat.le_of_ble_eq_true rfl) dX9_thingLine_29 ⟨Nat.zero_le _, Nat.zero_le _⟩) hP hD hS hA [0, 2, 1, 3] [] rfl rfl (by decide) (by decide) [0, 2, 1, 3] (by decide) rfl rfl (fun H locs hP hD hS => ?_)
    refine lv_aload_n hx hb dX9_thingLine_32 rfl (lv_at hl 1 rfl) ?_
    refine va_ldcS (own := RX9) (tx := "plain") (index := 212) (q := ad.1 17) hx hb hown (hSt.2.1 (RX9, 212, "plain", 17) (List.mem_of_getElem? (i := 32) rfl)) dX9_thingLine_33 ?_
    obtain ⟨r35, hc35, hok⟩ := k_bind hok
    refine kCi (wc := (wX9_isWord cy aM qM vM_29 vM_letters_29)) (wc2 := (wX9_isWord cy aM qM vM_29 vM_letters_29)) (wr := [(qM 16, rI cy 224 vM_fresh_29), (qM 1, rI cy 900 vM_tape)]) (ws2 := (wX9_thingLine cy aM qM vM_29 vM_fresh_29 vM_letters_29 vM_tape)) (kRunVS (As := [.ref (ad.1 17)]) (rest := []) ⟨hx, hb, hml, hown, ht0⟩ (kX9_isWord l D cy ad _ aM qM vM_29 vM_letters_29 17 r35 hc35 _ rfl) (cwV 1 ht0 (gV wd762 wd763 wd764 wd744 wd765) rfl rfl rfl (by decide +kernel) ⟨Nat.le_of_ble_eq_true rfl, Nat.le_of_ble_eq_true rfl⟩) hK hN hP hD hSt hS hA [0, 2] rfl (by decide) 0 8 rfl rfl rfl hl.1 rfl (Nat.le_of_ble_eq_true rfl) dX9_thingLine_35 ⟨Nat.zero_le _, Nat.zero_le _⟩) hP hD hS hA [0, 2] [1, 3] rfl rfl (by decide) (by decide) [2, 0, 3, 1] (by decide) rfl rfl (fun H locs hP hD hS => ?_)
    refine lv_if_eq (tgt := 45) hx hb dX9_thingLine_38 (by decide) (fun c38 => ?_) (fun c38 => ?_)
    · have hok := k_pos c38 hok
      refine lv_aload_n hx hb dX9_thingLine_45 rfl (lv_at hl 1 rfl) ?_
      refine va_ldcS (own := RX9) (tx := "piano") (index := 226) (q := ad.1 15) hx hb hown (hSt.2.1 (RX9, 226, "piano", 15) (List.mem_of_getElem? (i := 36) rfl)) dX9_thingLine_46 ?_
      obtain ⟨r48, hc48, hok⟩ := k_bind hok
      refine kCi (wc := (wX9_isWord cy aM qM vM_29 vM_letters_29)) (wc2 := (wX9_isWord cy aM qM vM_29 vM_letters_29)) (wr := [(qM 16, rI cy 224 vM_fresh_29), (qM 1, rI cy 900 vM_tape)]) (ws2 := (wX9_thingLine cy aM qM vM_29 vM_fresh_29 vM_letters_29 vM_tape)) (kRunVS (As := [.ref (ad.1 15)]) (rest := []) ⟨hx, hb, hml, hown, ht0⟩ (kX9_isWord l D cy ad _ aM qM vM_29 vM_letters_29 15 r48 hc48 _ rfl) (cwV 1 ht0 (gV wd762 wd763 wd764 wd744 wd765) rfl rfl rfl (by decide +kernel) ⟨Nat.le_of_ble_eq_true rfl, Nat.le_of_ble_eq_true rfl⟩) hK hN hP hD hSt hS hA [0, 2] rfl (by decide) 0 8 rfl rfl rfl hl.1 rfl (Nat.le_of_ble_eq_true rfl) dX9_thingLine_48 ⟨Nat.zero_le _, Nat.zero_le _⟩) hP hD hS hA [0, 2] [1, 3] rfl rfl (by decide) (by decide) [2, 0, 3, 1] (by decide) rfl rfl (fun H locs hP hD hS => ?_)
      refine lv_if_eq (tgt := 58) hx hb dX9_thingLine_51 (by decide) (fun c51 => ?_) (fun c51 => ?_)
      · have hok := k_pos c51 hok
        refine lv_aload_n hx hb dX9_thingLine_58 rfl (lv_at hl 1 rfl) ?_
        refine va_ldcS (own := RX9) (tx := "broken") (index := 228) (q := ad.1 2) hx hb hown (hSt.2.1 (RX9, 228, "broken", 2) (List.mem_of_getElem? (i := 37) rfl)) dX9_thingLine_59 ?_
        obtain ⟨r61, hc61, hok⟩ := k_bind hok
        refine kCi (wc := (wX9_isWord cy aM qM vM_29 vM_letters_29)) (wc2 := (wX9_isWord cy aM qM vM_29 vM_letters_29)) (wr := [(qM 16, rI cy 224 vM_fresh_29), (qM 1, rI cy 900 vM_tape)]) (ws2 := (wX9_thingLine cy aM qM vM_29 vM_fresh_29 vM_letters_29 vM_tape)) (kRunVS (As := [.ref (ad.1 2)]) (rest := []) ⟨hx, hb, hml, hown, ht0⟩ (kX9_isWord l D cy ad _ aM qM vM_29 vM_letters_29 2 r61 hc61 _ rfl) (cwV 1 ht0 (gV wd762 wd763 wd764 wd744 wd765) rfl rfl rfl (by decide +kernel) ⟨Nat.le_of_ble_eq_true rfl, Nat.le_of_ble_eq_true rfl⟩) hK hN hP hD hSt hS hA [0, 2] rfl (by decide) 0 8 rfl rfl rfl hl.1 rfl (Nat.le_of_ble_eq_true rfl) dX9_thingLine_61 ⟨Nat.zero_le _, Nat.zero_le _⟩) hP hD hS hA [0, 2] [1, 3] rfl rfl (by decide) (by decide) [2, 0, 3, 1] (by decide) rfl rfl (fun H locs hP hD hS => ?_)
        refine lv_if_eq (tgt := 71) hx hb dX9_thingLine_64 (by decide) (fun c64 => ?_) (fun c64 => ?_)
        · have hok := k_pos c64 hok
          refine lv_aload_n hx hb dX9_thingLine_71 rfl (lv_at hl 1 rfl) ?_
          refine va_ldcS (own := RX9) (tx := "pet") (index := 230) (q := ad.1 14) hx hb hown (hSt.2.1 (RX9, 230, "pet", 14) (List.mem_of_getElem? (i := 38) rfl)) dX9_thingLine_72 ?_
          obtain ⟨r74, hc74, hok⟩ := k_bind hok
          refine kCi (wc := (wX9_isWord cy aM qM vM_29 vM_letters_29)) (wc2 := (wX9_isWord cy aM qM vM_29 vM_letters_29)) (wr := [(qM 16, rI cy 224 vM_fresh_29), (qM 1, rI cy 900 vM_tape)]) (ws2 := (wX9_thingLine cy aM qM vM_29 vM_fresh_29 vM_letters_29 vM_tape)) (kRunVS (As := [.ref (ad.1 14)]) (rest := []) ⟨hx, hb, hml, hown, ht0⟩ (kX9_isWord l D cy ad _ aM qM vM_29 vM_letters_29 14 r74 hc74 _ rfl) (cwV 1 ht0 (gV wd762 wd763 wd764 wd744 wd765) rfl rfl rfl (by decide +kernel) ⟨Nat.le_of_ble_eq_true rfl, Nat.le_of_ble_eq_true rfl⟩) hK hN hP hD hSt hS hA [0, 2] rfl (by decide) 0 8 rfl rfl rfl hl.1 rfl (Nat.le_of_ble_eq_true rfl) dX9_thingLine_74 ⟨Nat.zero_le _, Nat.zero_le _⟩) hP hD hS hA [0, 2] [1, 3] rfl rfl (by decide) (by decide) [2, 0, 3, 1] (by decide) rfl rfl (fun H locs hP hD hS => ?_)
          refine lv_if_eq (tgt := 84) hx hb dX9_thingLine_77 (by decide) (fun c77 => ?_) (fun c77 => ?_)
          · have hok := k_pos c77 hok
            refine lv_iconst (v := -1) hx hb dX9_thingLine_84 (by decide) ?_
            exact J85 (-1 : Int32) vM_fresh_29 vM_letters_29 vM_29 H locs ls hP hD hS (lv_sub hl [1, 0] rfl) hok
          · have hok := k_neg c77 hok
            refine lv_iconst (v := 3) hx hb dX9_thingLine_80 (by decide) ?_
            refine lv_goto (tgt := 85) hx hb dX9_thingLine_81 (by decide) ?_
            exact J85 (3 : Int32) vM_fresh_29 vM_letters_29 vM_29 H locs ls hP hD hS (lv_sub hl [1, 0] rfl) hok
        · have hok := k_neg c64 hok
          refine lv_iconst (v := 2) hx hb dX9_thingLine_67 (by decide) ?_
          refine lv_goto (tgt := 85) hx hb dX9_thingLine_68 (by decide) ?_
          exact J85 (2 : Int32) vM_fresh_29 vM_letters_29 vM_29 H locs ls hP hD hS (lv_sub hl [1, 0] rfl) hok
      · have hok := k_neg c51 hok
        refine lv_iconst (v := 1) hx hb dX9_thingLine_54 (by decide) ?_
        refine lv_goto (tgt := 85) hx hb dX9_thingLine_55 (by decide) ?_
        exact J85 (1 : Int32) vM_fresh_29 vM_letters_29 vM_29 H locs ls hP hD hS (lv_sub hl [1, 0] rfl) hok
    · have hok := k_neg c38 hok
      refine lv_iconst (v := 0) hx hb dX9_thingLine_41 (by decide) ?_
      refine lv_goto (tgt := 85) hx hb dX9_thingLine_42 (by decide) ?_
      exact J85 (0 : Int32) vM_fresh_29 vM_letters_29 vM_29 H locs ls hP hD hS (lv_sub hl [1, 0] rfl) hok
  · have hok := k_neg c4 hok
    cases hok
    subst hQe; exact W.vret hx hb hr (fun t ht hW => ⟨⟨(), rfl, trivial, by rw [ht]; exact hP, va_K.moved hW.alike hK, hD⟩, hS.F ht⟩) hS.2.2 dX9_thingLine_7
