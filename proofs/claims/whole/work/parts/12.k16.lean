def wsX9_find : List Cond := .code yX9_find cX9_find 4 (some .int) :: W0
abbrev wX9_find (cy : Nat → ClassId) (aM : Nat) (qM : Nat → Nat) (vM : Nat → Int32) (vM_fresh : Nat → Int32) (vM_letters : Nat → Int32) : va_W := [(aM, oX9 vM qM), (qM 16, rI cy 224 vM_fresh), (qM 12, rI cy 8 vM_letters)]
set_option maxHeartbeats 4000000 in
set_option maxRecDepth 100000 in
theorem kX9_find (l : Launch) (D : va_G) (cy : Nat → ClassId) (sz : Nat) (aM : Nat) (qM : Nat → Nat) (vM : Nat → Int32) (vM_fresh : Nat → Int32) (vM_letters : Nat → Int32) (zr : Int32) (hok : fX9_find vM vM_fresh vM_letters = some zr) (A : Nat → Prop) (hAe : va_A (wX9_find cy aM qM vM vM_fresh vM_letters) sz = A) : Met l yX9_find wsX9_find ({ frames := 0, cells := 0, slots := 0, locals := 0 } : Room) (kPre D cy [.ref aM] (wX9_find cy aM qM vM vM_fresh vM_letters) sz) (kQi D cy zr A (wX9_find cy aM qM vM vM_fresh vM_letters)) 0 0 A := by
  refine Met.ofW (cc := cX9_find) (maxL := 4) (ret := (some .int)) (by decide) rfl ?_
  intro p e s m args below meth c s₁ B hml hv
  obtain ⟨rfl, hsz, hP, hK, hD0, hN⟩ := hv
  have hx := B.exec
  have hb := B.bytes
  have hr := B.returns
  have ht0 : ∀ w ∈ W0, w.before _ s = true := fun w h => atoms_spec (ws := wsX9_find) B.pre w (List.mem_cons_of_mem _ h)
  have hown : s.vm.findClass RX9 = some m.cls := findClass_of_methodNamed B.named
  have hlocks := B.notSynchronized
  subst hsz
  have hD : va_D A (wX9_find cy aM qM vM vM_fresh vM_letters) := by rw [← hAe]; exact hD0.self
  have hA : ∀ q : Nat, s.heap.size ≤ q → A q := fun q h => by rw [← hAe]; exact Or.inr h
  have hS : va_S A s.heap s.heap [] := va_S.rf
  have hl := lv_entry ([.ref aM]) (n := 4) (Nat.le_of_ble_eq_true rfl)
  rw [lg_entry_eq]
  generalize (lg_sl ([.ref aM]) ++ List.replicate (4 - (lg_sl ([.ref aM])).length) Slot.unset).toArray = ls at hl ⊢
  have hl : lv_has ls 4 [(0, .ref aM)] := hl
  generalize hQe : MQ below (kQi D cy zr A (wX9_find cy aM qM vM vM_fresh vM_letters)) ([.ref aM] : List Value).toArray s 0 0 A = Q
  have L2 : ∀ (fuel : Nat) (y1_2 : Int32), ∀ (H : Heap) (locs : List Loc) (ls : Array Slot), va_P D vwCl (wX9_find cy aM qM vM vM_fresh vM_letters) H → va_D A (wX9_find cy aM qM vM vM_fresh vM_letters) → va_S A s.heap H locs → lv_has ls 4 [(0, .ref aM), (1, .int y1_2)] → lp (fX9_find_B2 vM vM_fresh vM_letters) fuel y1_2 = some zr → W p l e ({ frames := 0, cells := 0, slots := 0, locals := 0 } : Room) s m ([.ref aM] : List Value).toArray below meth c H locs 0 0 Q (F0 m 2 ls []) := by
    intro fuel
    induction fuel with
    | zero => intro y1_2 H locs ls hP hD hS hl hok; exact (lp_0 hok).elim
    | succ fuel ih2 =>
      intro y1_2 H locs ls hP hD hS hl hok
      obtain ⟨y2, hok, hL2, hR2⟩ := lp_step hok
      have J92 : ∀ (y2_92 : Int32), ∀ (H : Heap) (locs : List Loc) (ls : Array Slot), va_P D vwCl (wX9_find cy aM qM vM vM_fresh vM_letters) H → va_D A (wX9_find cy aM qM vM vM_fresh vM_letters) → va_S A s.heap H locs → lv_has ls 4 [(0, .ref aM), (1, .int y1_2), (2, .int y2_92)] → fX9_find_J92 y1_2 y2_92 = some y2 → W p l e ({ frames := 0, cells := 0, slots := 0, locals := 0 } : Room) s m ([.ref aM] : List Value).toArray below meth c H locs 0 0 Q (F0 m 92 ls []) := by
        intro y2_92 H locs ls hP hD hS hl hok
        unfold fX9_find_J92 at hok
        refine lv_iload_n hx hb dX9_find_92 rfl (lv_at hl 2 rfl) ?_
        refine lv_if_eq (tgt := 98) hx hb dX9_find_93 (by decide) (fun c93 => ?_) (fun c93 => ?_)
        · have hok := k_pos c93 hok
          refine lv_iinc (v := (y1_2 + 1)) (lv' := [(1, .int (y1_2 + 1)), (0, .ref aM), (2, .int y2_92)]) hx hb dX9_find_98 hl (k := 1) rfl (by first | rfl | decide) (by decide) rfl (fun ls hl => ?_)
          refine lv_goto (tgt := 2) hx hb dX9_find_101 (by decide) ?_
          exact ih2 (y1_2 + 1) H locs ls hP hD hS (lv_sub hl [1, 0] rfl) (hR2 _ (Option.some.inj hok).symm)
        · have hok := k_neg c93 hok
          obtain ⟨e2, hok, he2⟩ := ex_some hok
          have hok := hok.trans (congrArg some (hL2 _ he2))
          refine lv_iload_n hx hb dX9_find_96 rfl (lv_at hl 1 rfl) ?_
          cases hok
          subst hQe; exact W.iret hx hb hr (fun t ht hW => ⟨⟨_, (), rfl, rfl, by rw [ht]; exact hP, va_K.moved hW.alike hK, hD⟩, hS.F ht⟩) hS.2.2 dX9_find_97
      have L44 : ∀ (fuel : Nat) (y2_44 : Int32) (y3_44 : Int32), ∀ (H : Heap) (locs : List Loc) (ls : Array Slot), va_P D vwCl (wX9_find cy aM qM vM vM_fresh vM_letters) H → va_D A (wX9_find cy aM qM vM vM_fresh vM_letters) → va_S A s.heap H locs → lv_has ls 4 [(0, .ref aM), (1, .int y1_2), (2, .int y2_44), (3, .int y3_44)] → lp (fX9_find_B44 vM vM_fresh vM_letters y1_2) fuel (y2_44, y3_44) = some y2 → W p l e ({ frames := 0, cells := 0, slots := 0, locals := 0 } : Room) s m ([.ref aM] : List Value).toArray below meth c H locs 0 0 Q (F0 m 44 ls []) := by
        intro fuel
        induction fuel with
        | zero => intro y2_44 y3_44 H locs ls hP hD hS hl hok; exact (lp_0 hok).elim
        | succ fuel ih44 =>
          intro y2_44 y3_44 H locs ls hP hD hS hl hok
          obtain ⟨y44, hok, hL44, hR44⟩ := lp_step hok
          have J85 : ∀ (t0_85 : Int32), ∀ (H : Heap) (locs : List Loc) (ls : Array Slot), va_P D vwCl (wX9_find cy aM qM vM vM_fresh vM_letters) H → va_D A (wX9_find cy aM qM vM vM_fresh vM_letters) → va_S A s.heap H locs → lv_has ls 4 [(0, .ref aM), (1, .int y1_2), (3, .int y3_44)] → fX9_find_J85 y3_44 t0_85 = some y44 → W p l e ({ frames := 0, cells := 0, slots := 0, locals := 0 } : Room) s m ([.ref aM] : List Value).toArray below meth c H locs 0 0 Q (F0 m 85 ls [.int t0_85]) := by
            intro t0_85 H locs ls hP hD hS hl hok
            unfold fX9_find_J85 at hok
            refine lv_istore_n (lv' := [(2, .int t0_85), (0, .ref aM), (1, .int y1_2), (3, .int y3_44)]) hx hb dX9_find_85 rfl hl (by decide) rfl (fun ls hl => ?_)
            refine lv_iinc (v := (y3_44 + 1)) (lv' := [(3, .int (y3_44 + 1)), (2, .int t0_85), (0, .ref aM), (1, .int y1_2)]) hx hb dX9_find_86 hl (k := 3) rfl (by first | rfl | decide) (by decide) rfl (fun ls hl => ?_)
            refine lv_goto (tgt := 44) hx hb dX9_find_89 (by decide) ?_
            exact ih44 t0_85 (y3_44 + 1) H locs ls hP hD hS (lv_sub hl [2, 3, 1, 0] rfl) (hR44 _ (Option.some.inj hok).symm)
          unfold fX9_find_B44 at hok
          try dsimp only at hok
          refine lv_iload_n hx hb dX9_find_44 rfl (lv_at hl 3 rfl) ?_
          refine lv_aload_n hx hb dX9_find_45 rfl (lv_at hl 0 rfl) ?_
          refine va_get (D := D) (ci := 8) (v := .int (vM 8)) (C := RX9) (T := TX9) (N := 29) hx hb ht0 niX9 hown hK hP 0 rfl rfl 8 (by decide) (ht0 _ wd751) (fun _ h9 => h9) rfl dX9_find_46 ?_
          refine lv_icmp_ge (tgt := 92) hx hb dX9_find_49 (by decide) (fun c49 => ?_) (fun c49 => ?_)
          · have hok := k_pos c49 hok
            obtain ⟨e44, hok, he44⟩ := ex_some hok
            have hok := hok.trans (congrArg some (hL44 _ he44))
            exact J92 y2_44 H locs ls hP hD hS (lv_sub hl [0, 1, 2] rfl) hok
          · have hok := k_neg c49 hok
            refine lv_iload_n hx hb dX9_find_52 rfl (lv_at hl 2 rfl) ?_
            refine lv_if_eq (tgt := 92) hx hb dX9_find_53 (by decide) (fun c53 => ?_) (fun c53 => ?_)
            · have hok := k_pos c53 hok
              obtain ⟨e44, hok, he44⟩ := ex_some hok
              have hok := hok.trans (congrArg some (hL44 _ he44))
              exact J92 y2_44 H locs ls hP hD hS (lv_sub hl [0, 1, 2] rfl) hok
            · have hok := k_neg c53 hok
              refine lv_aload_n hx hb dX9_find_56 rfl (lv_at hl 0 rfl) ?_
              refine va_get (D := D) (ci := 8) (v := .ref (qM 16)) (C := RX9) (T := TX9) (N := 29) hx hb ht0 niX9 hown hK hP 0 rfl rfl 16 (by decide) (ht0 _ wd778) (fun _ h9 => h9) rfl dX9_find_57 ?_
              refine lv_sipush (v := 136) hx hb dX9_find_60 (by decide) ?_
              refine lv_bipush (v := 8) hx hb dX9_find_63 (by decide) ?_
              refine lv_iload_n hx hb dX9_find_65 rfl (lv_at hl 1 rfl) ?_
              refine lv_imul hx hb dX9_find_66 ?_
              refine lv_iadd hx hb dX9_find_67 ?_
              refine lv_iload_n hx hb dX9_find_68 rfl (lv_at hl 3 rfl) ?_
              refine lv_iadd hx hb dX9_find_69 ?_
              obtain ⟨g70, hok⟩ := gd_some hok
              refine va_iald hx hb hK hP 1 0 rfl rfl (okI_in g70) dX9_find_70 ?_
              refine lv_aload_n hx hb dX9_find_71 rfl (lv_at hl 0 rfl) ?_
              refine va_get (D := D) (ci := 8) (v := .ref (qM 12)) (C := RX9) (T := TX9) (N := 29) hx hb ht0 niX9 hown hK hP 0 rfl rfl 12 (by decide) (ht0 _ wd755) (fun _ h9 => h9) rfl dX9_find_72 ?_
              refine lv_iload_n hx hb dX9_find_75 rfl (lv_at hl 3 rfl) ?_
              obtain ⟨g76, hok⟩ := gd_some hok
              refine va_iald hx hb hK hP 2 0 rfl rfl (okI_in g76) dX9_find_76 ?_
              refine lv_icmp_ne (tgt := 84) hx hb dX9_find_77 (by decide) (fun c77 => ?_) (fun c77 => ?_)
              · have hok := k_neg c77 hok
                refine lv_iconst (v := 0) hx hb dX9_find_84 (by decide) ?_
                exact J85 (0 : Int32) H locs ls hP hD hS (lv_sub hl [0, 1, 3] rfl) hok
              · have hok := k_pos c77 hok
                refine lv_iconst (v := 1) hx hb dX9_find_80 (by decide) ?_
                refine lv_goto (tgt := 85) hx hb dX9_find_81 (by decide) ?_
                exact J85 (1 : Int32) H locs ls hP hD hS (lv_sub hl [0, 1, 3] rfl) hok
      have J41 : ∀ (t0_41 : Int32), ∀ (H : Heap) (locs : List Loc) (ls : Array Slot), va_P D vwCl (wX9_find cy aM qM vM vM_fresh vM_letters) H → va_D A (wX9_find cy aM qM vM vM_fresh vM_letters) → va_S A s.heap H locs → lv_has ls 4 [(0, .ref aM), (1, .int y1_2)] → fX9_find_J41 vM vM_fresh vM_letters y1_2 t0_41 = some y2 → W p l e ({ frames := 0, cells := 0, slots := 0, locals := 0 } : Room) s m ([.ref aM] : List Value).toArray below meth c H locs 0 0 Q (F0 m 41 ls [.int t0_41]) := by
        intro t0_41 H locs ls hP hD hS hl hok
        unfold fX9_find_J41 at hok
        refine lv_istore_n (lv' := [(2, .int t0_41), (0, .ref aM), (1, .int y1_2)]) hx hb dX9_find_41 rfl hl (by decide) rfl (fun ls hl => ?_)
        refine lv_iconst (v := 0) hx hb dX9_find_42 (by decide) ?_
        refine lv_istore_n (lv' := [(3, .int 0), (2, .int t0_41), (0, .ref aM), (1, .int y1_2)]) hx hb dX9_find_43 rfl hl (by decide) rfl (fun ls hl => ?_)
        exact L44 5000 t0_41 (0 : Int32) H locs ls hP hD hS (lv_sub hl [2, 3, 1, 0] rfl) hok
      have J40 : ∀ (H : Heap) (locs : List Loc) (ls : Array Slot), va_P D vwCl (wX9_find cy aM qM vM vM_fresh vM_letters) H → va_D A (wX9_find cy aM qM vM vM_fresh vM_letters) → va_S A s.heap H locs → lv_has ls 4 [(0, .ref aM), (1, .int y1_2)] → fX9_find_J40 vM vM_fresh vM_letters y1_2 = some y2 → W p l e ({ frames := 0, cells := 0, slots := 0, locals := 0 } : Room) s m ([.ref aM] : List Value).toArray below meth c H locs 0 0 Q (F0 m 40 ls []) := by
        intro  H locs ls hP hD hS hl hok
        unfold fX9_find_J40 at hok
        refine lv_iconst (v := 0) hx hb dX9_find_40 (by decide) ?_
        exact J41 (0 : Int32) H locs ls hP hD hS (lv_sub hl [0, 1] rfl) hok
      unfold fX9_find_B2 at hok
      refine lv_iload_n hx hb dX9_find_2 rfl (lv_at hl 1 rfl) ?_
      refine lv_bipush (v := 11) hx hb dX9_find_3 (by decide) ?_
      refine lv_icmp_ge (tgt := 104) hx hb dX9_find_5 (by decide) (fun c5 => ?_) (fun c5 => ?_)
      · have hok := k_pos c5 hok
        obtain ⟨e2, hok, he2⟩ := ex_some hok
        have hok := hok.trans (congrArg some (hL2 _ he2))
        refine lv_iconst (v := -1) hx hb dX9_find_104 (by decide) ?_
        cases hok
        subst hQe; exact W.iret hx hb hr (fun t ht hW => ⟨⟨_, (), rfl, rfl, by rw [ht]; exact hP, va_K.moved hW.alike hK, hD⟩, hS.F ht⟩) hS.2.2 dX9_find_105
      · have hok := k_neg c5 hok
        refine lv_aload_n hx hb dX9_find_8 rfl (lv_at hl 0 rfl) ?_
        refine va_get (D := D) (ci := 8) (v := .ref (qM 16)) (C := RX9) (T := TX9) (N := 29) hx hb ht0 niX9 hown hK hP 0 rfl rfl 16 (by decide) (ht0 _ wd778) (fun _ h9 => h9) rfl dX9_find_9 ?_
        refine lv_bipush (v := 125) hx hb dX9_find_12 (by decide) ?_
        refine lv_iload_n hx hb dX9_find_14 rfl (lv_at hl 1 rfl) ?_
        refine lv_iadd hx hb dX9_find_15 ?_
        obtain ⟨g16, hok⟩ := gd_some hok
        refine va_iald hx hb hK hP 1 0 rfl rfl (okI_in g16) dX9_find_16 ?_
        refine lv_if_le (tgt := 40) hx hb dX9_find_17 (by decide) (fun c17 => ?_) (fun c17 => ?_)
        · have hok := k_pos c17 hok
          exact J40  H locs ls hP hD hS (lv_sub hl [0, 1] rfl) hok
        · have hok := k_neg c17 hok
          refine lv_aload_n hx hb dX9_find_20 rfl (lv_at hl 0 rfl) ?_
          refine va_get (D := D) (ci := 8) (v := .ref (qM 16)) (C := RX9) (T := TX9) (N := 29) hx hb ht0 niX9 hown hK hP 0 rfl rfl 16 (by decide) (ht0 _ wd778) (fun _ h9 => h9) rfl dX9_find_21 ?_
          refine lv_bipush (v := 125) hx hb dX9_find_24 (by decide) ?_
          refine lv_iload_n hx hb dX9_find_26 rfl (lv_at hl 1 rfl) ?_
          refine lv_iadd hx hb dX9_find_27 ?_
          obtain ⟨g28, hok⟩ := gd_some hok
          refine va_iald hx hb hK hP 1 0 rfl rfl (okI_in g28) dX9_find_28 ?_
          refine lv_aload_n hx hb dX9_find_29 rfl (lv_at hl 0 rfl) ?_
          refine va_get (D := D) (ci := 8) (v := .int (vM 8)) (C := RX9) (T := TX9) (N := 29) hx hb ht0 niX9 hown hK hP 0 rfl rfl 8 (by decide) (ht0 _ wd751) (fun _ h9 => h9) rfl dX9_find_30 ?_
          refine lv_icmp_ne (tgt := 40) hx hb dX9_find_33 (by decide) (fun c33 => ?_) (fun c33 => ?_)
          · have hok := k_neg c33 hok
            exact J40  H locs ls hP hD hS (lv_sub hl [0, 1] rfl) hok
          · have hok := k_pos c33 hok
            refine lv_iconst (v := 1) hx hb dX9_find_36 (by decide) ?_
            refine lv_goto (tgt := 41) hx hb dX9_find_37 (by decide) ?_
            exact J41 (1 : Int32) H locs ls hP hD hS (lv_sub hl [0, 1] rfl) hok
  unfold fX9_find at hok
  obtain ⟨H, hH⟩ : ∃ H, H = s.heap := ⟨_, rfl⟩
  obtain ⟨locs, hlc⟩ : ∃ x : List Loc, x = [] := ⟨_, rfl⟩
  have hP : va_P D vwCl (wX9_find cy aM qM vM vM_fresh vM_letters) H := by rw [hH]; exact hP
  have hS : va_S A s.heap H locs := by rw [hH, hlc]; exact hS
  rw [show W p l e _ s m _ below meth c s.heap [] = W p l e _ s m _ below meth c H locs from by rw [hH, hlc]]
  refine lv_iconst (v := 0) hx hb dX9_find_0 (by decide) ?_
  refine lv_istore_n (lv' := [(1, .int 0), (0, .ref aM)]) hx hb dX9_find_1 rfl hl (by decide) rfl (fun ls hl => ?_)
  exact L2 5000 (0 : Int32) H locs ls hP hD hS (lv_sub hl [1, 0] rfl) hok
def wsX9_newName : List Cond := .code yX9_newName cX9_newName 3 none :: W0
abbrev wX9_newName (cy : Nat → ClassId) (aM : Nat) (qM : Nat → Nat) (vM : Nat → Int32) (vM_letters : Nat → Int32) (vM_fresh : Nat → Int32) (vM_tape : Nat → Int32) : va_W := [(aM, oX9 vM qM), (qM 12, rI cy 8 vM_letters), (qM 16, rI cy 224 vM_fresh), (qM 1, rI cy 900 vM_tape)]
set_option maxHeartbeats 4000000 in
set_option maxRecDepth 100000 in
theorem kX9_newName (l : Launch) (D : va_G) (cy : Nat → ClassId) (ad : (Nat → Nat) × (Nat → Nat)) (sz : Nat) (aM : Nat) (qM : Nat → Nat) (vM : Nat → Int32) (vM_letters : Nat → Int32) (vM_fresh : Nat → Int32) (vM_tape : Nat → Int32) (x1 : Int32) (z_vM : Nat → Int32) (z_vM_letters : Nat → Int32) (z_vM_fresh : Nat → Int32) (hok : fX9_newName vM vM_letters vM_fresh vM_tape x1 = some (z_vM, z_vM_letters, z_vM_fresh)) (A : Nat → Prop) (hAe : va_A (wX9_newName cy aM qM vM vM_letters vM_fresh vM_tape) sz = A) : Met l yX9_newName wsX9_newName ({ frames := 6, cells := 0, slots := 0, locals := 128 } : Room) (kPreS D cy ad [.ref aM, .int x1] (wX9_newName cy aM qM vM vM_letters vM_fresh vM_tape) sz A) (kQv D cy A (wX9_newName cy aM qM z_vM z_vM_letters z_vM_fresh vM_tape)) 0 0 A := by
  refine Met.ofW (cc := cX9_newName) (maxL := 3) (ret := none) (by decide) rfl ?_
  intro p e s m args below meth c s₁ B hml hv
  obtain ⟨rfl, ⟨hsz, hP, hK, hD0, hN⟩, hSt⟩ := hv
  have hx := B.exec
  have hb := B.bytes
  have hr := B.returns
  have ht0 : ∀ w ∈ W0, w.before _ s = true := fun w h => atoms_spec (ws := wsX9_newName) B.pre w (List.mem_cons_of_mem _ h)
  have hown : s.vm.findClass RX9 = some m.cls := findClass_of_methodNamed B.named
  have hlocks := B.notSynchronized
  subst hsz
  have hD : va_D A (wX9_newName cy aM qM vM vM_letters vM_fresh vM_tape) := by rw [← hAe]; exact hD0.self
  have hA : ∀ q : Nat, s.heap.size ≤ q → A q := fun q h => by rw [← hAe]; exact Or.inr h
  have hS : va_S A s.heap s.heap [] := va_S.rf
  have hl := lv_entry ([.ref aM, .int x1]) (n := 3) (Nat.le_of_ble_eq_true rfl)
  rw [lg_entry_eq]
  generalize (lg_sl ([.ref aM, .int x1]) ++ List.replicate (3 - (lg_sl ([.ref aM, .int x1])).length) Slot.unset).toArray = ls at hl ⊢
  have hl : lv_has ls 3 [(0, .ref aM), (1, .int x1)] := hl
  generalize hQe : MQ below (kQv D cy A (wX9_newName cy aM qM z_vM z_vM_letters z_vM_fresh vM_tape)) ([.ref aM, .int x1] : List Value).toArray s 0 0 A = Q
  have L45 : ∀ (fuel : Nat) (y2_45 : Int32) (vM_fresh_45 : Nat → Int32) (vM_45 : Nat → Int32), ∀ (H : Heap) (locs : List Loc) (ls : Array Slot), va_P D vwCl (wX9_newName cy aM qM vM_45 vM_letters vM_fresh_45 vM_tape) H → va_D A (wX9_newName cy aM qM vM_45 vM_letters vM_fresh_45 vM_tape) → va_S A s.heap H locs → lv_has ls 3 [(0, .ref aM), (1, .int x1), (2, .int y2_45)] → lp (fX9_newName_B45 vM_letters vM_tape x1) fuel (y2_45, vM_fresh_45, vM_45) = some (z_vM, z_vM_letters, z_vM_fresh) → W p l e ({ frames := 6, cells := 0, slots := 0, locals := 128 } : Room) s m ([.ref aM, .int x1] : List Value).toArray below meth c H locs 0 0 Q (F0 m 45 ls []) := by
    intro fuel
    induction fuel with
    | zero => intro y2_45 vM_fresh_45 vM_45 H locs ls hP hD hS hl hok; exact (lp_0 hok).elim
    | succ fuel ih45 =>
      intro y2_45 vM_fresh_45 vM_45 H locs ls hP hD hS hl hok
      obtain ⟨y45, hok, hL45, hR45⟩ := lp_step hok
      unfold fX9_newName_B45 at hok
      try dsimp only at hok
      refine lv_iload_n hx hb dX9_newName_45 rfl (lv_at hl 2 rfl) ?_
      refine lv_aload_n hx hb dX9_newName_46 rfl (lv_at hl 0 rfl) ?_
      refine va_get (D := D) (ci := 8) (v := .int (vM_45 8)) (C := RX9) (T := TX9) (N := 29) hx hb ht0 niX9 hown hK hP 0 rfl rfl 8 (by decide) (ht0 _ wd751) (fun _ h9 => h9) rfl dX9_newName_47 ?_
      refine lv_icmp_ge (tgt := 80) hx hb dX9_newName_50 (by decide) (fun c50 => ?_) (fun c50 => ?_)
      · have hok := k_pos c50 hok
        obtain ⟨e45, hok, he45⟩ := ex_some hok
        have hok := hok.trans (congrArg some (hL45 _ he45))
        refine lv_aload_n hx hb dX9_newName_80 rfl (lv_at hl 0 rfl) ?_
        refine va_get (D := D) (ci := 8) (v := .ref (qM 16)) (C := RX9) (T := TX9) (N := 29) hx hb ht0 niX9 hown hK hP 0 rfl rfl 16 (by decide) (ht0 _ wd778) (fun _ h9 => h9) rfl dX9_newName_81 ?_
        refine lv_bipush (v := 125) hx hb dX9_newName_84 (by decide) ?_
        refine lv_iload_n hx hb dX9_newName_86 rfl (lv_at hl 1 rfl) ?_
        refine lv_iadd hx hb dX9_newName_87 ?_
        refine lv_aload_n hx hb dX9_newName_88 rfl (lv_at hl 0 rfl) ?_
        refine va_get (D := D) (ci := 8) (v := .int (vM_45 8)) (C := RX9) (T := TX9) (N := 29) hx hb ht0 niX9 hown hK hP 0 rfl rfl 8 (by decide) (ht0 _ wd751) (fun _ h9 => h9) rfl dX9_newName_89 ?_
        obtain ⟨g92, hok⟩ := gd_some hok
        refine va_iast hx hb hK hP hD hS 2 0 rfl rfl (okI_in g92) dX9_newName_92 (fun H locs hP hD hS => ?_)
        have hP : va_P D vwCl (wX9_newName cy aM qM vM_45 vM_letters (upd vM_fresh_45 ((125 : Int32) + x1).toNatClampNeg (vM_45 8)) vM_tape) H := hP
        have hD : va_D A (wX9_newName cy aM qM vM_45 vM_letters (upd vM_fresh_45 ((125 : Int32) + x1).toNatClampNeg (vM_45 8)) vM_tape) := hD
        refine lv_aload_n hx hb dX9_newName_93 rfl (lv_at hl 0 rfl) ?_
        obtain ⟨⟨vM_94, vM_letters_94⟩, hc94, hok⟩ := k_bind hok
        try dsimp only at hok
        refine kCv (wc := (wX9_next cy aM qM vM_45 vM_tape vM_letters)) (wc2 := (wX9_next cy aM qM vM_94 vM_tape vM_letters_94)) (wr := [(qM 16, rI cy 224 (upd vM_fresh_45 ((125 : Int32) + x1).toNatClampNeg (vM_45 8)))]) (ws2 := (wX9_newName cy aM qM vM_94 vM_letters_94 (upd vM_fresh_45 ((125 : Int32) + x1).toNatClampNeg (vM_45 8)) vM_tape)) (kRunV (As := []) (rest := []) ⟨hx, hb, hml, hown, ht0⟩ (kX9_next l D cy _ aM qM vM_45 vM_tape vM_letters vM_94 vM_letters_94 hc94 _ rfl) (cwV 0 ht0 (gV wd766 wd767 wd768 wd744 wd769) rfl rfl rfl (by decide +kernel) ⟨Nat.le_of_ble_eq_true rfl, Nat.le_of_ble_eq_true rfl⟩) hK hN hP hD [0, 3, 1] rfl (by decide) 0 8 rfl rfl rfl hl.1 rfl (Nat.le_of_ble_eq_true rfl) dX9_newName_94 ⟨Nat.zero_le _, Nat.zero_le _⟩) hP hD hS hA [0, 3, 1] [2] rfl rfl (by decide) (by decide) [1, 3, 0, 2] (by decide) rfl rfl (fun H locs hP hD hS => ?_)
        cases hok
        subst hQe; exact W.vret hx hb hr (fun t ht hW => ⟨⟨(), rfl, trivial, by rw [ht]; exact hP, va_K.moved hW.alike hK, hD⟩, hS.F ht⟩) hS.2.2 dX9_newName_97
      · have hok := k_neg c50 hok
        refine lv_aload_n hx hb dX9_newName_53 rfl (lv_at hl 0 rfl) ?_
        refine va_get (D := D) (ci := 8) (v := .ref (qM 16)) (C := RX9) (T := TX9) (N := 29) hx hb ht0 niX9 hown hK hP 0 rfl rfl 16 (by decide) (ht0 _ wd778) (fun _ h9 => h9) rfl dX9_newName_54 ?_
        refine lv_sipush (v := 136) hx hb dX9_newName_57 (by decide) ?_
        refine lv_bipush (v := 8) hx hb dX9_newName_60 (by decide) ?_
        refine lv_iload_n hx hb dX9_newName_62 rfl (lv_at hl 1 rfl) ?_
        refine lv_imul hx hb dX9_newName_63 ?_
        refine lv_iadd hx hb dX9_newName_64 ?_
        refine lv_iload_n hx hb dX9_newName_65 rfl (lv_at hl 2 rfl) ?_
        refine lv_iadd hx hb dX9_newName_66 ?_
        refine lv_aload_n hx hb dX9_newName_67 rfl (lv_at hl 0 rfl) ?_
        refine va_get (D := D) (ci := 8) (v := .ref (qM 12)) (C := RX9) (T := TX9) (N := 29) hx hb ht0 niX9 hown hK hP 0 rfl rfl 12 (by decide) (ht0 _ wd755) (fun _ h9 => h9) rfl dX9_newName_68 ?_
        refine lv_iload_n hx hb dX9_newName_71 rfl (lv_at hl 2 rfl) ?_
        obtain ⟨g72, hok⟩ := gd_some hok
        refine va_iald hx hb hK hP 1 0 rfl rfl (okI_in g72) dX9_newName_72 ?_
        obtain ⟨g73, hok⟩ := gd_some hok
        refine va_iast hx hb hK hP hD hS 2 0 rfl rfl (okI_in g73) dX9_newName_73 (fun H locs hP hD hS => ?_)
        have hP : va_P D vwCl (wX9_newName cy aM qM vM_45 vM_letters (upd vM_fresh_45 (((136 : Int32) + ((8 : Int32) * x1)) + y2_45).toNatClampNeg (vM_letters y2_45.toNatClampNeg)) vM_tape) H := hP
        have hD : va_D A (wX9_newName cy aM qM vM_45 vM_letters (upd vM_fresh_45 (((136 : Int32) + ((8 : Int32) * x1)) + y2_45).toNatClampNeg (vM_letters y2_45.toNatClampNeg)) vM_tape) := hD
        refine lv_iinc (v := (y2_45 + 1)) (lv' := [(2, .int (y2_45 + 1)), (0, .ref aM), (1, .int x1)]) hx hb dX9_newName_74 hl (k := 2) rfl (by first | rfl | decide) (by decide) rfl (fun ls hl => ?_)
        refine lv_goto (tgt := 45) hx hb dX9_newName_77 (by decide) ?_
        exact ih45 (y2_45 + 1) (upd vM_fresh_45 (((136 : Int32) + ((8 : Int32) * x1)) + y2_45).toNatClampNeg (vM_letters y2_45.toNatClampNeg)) vM_45 H locs ls hP hD hS (lv_sub hl [1, 2, 0] rfl) (hR45 _ (Option.some.inj hok).symm)
  have J35 : ∀ (vM_35 : Nat → Int32), ∀ (H : Heap) (locs : List Loc) (ls : Array Slot), va_P D vwCl (wX9_newName cy aM qM vM_35 vM_letters vM_fresh vM_tape) H → va_D A (wX9_newName cy aM qM vM_35 vM_letters vM_fresh vM_tape) → va_S A s.heap H locs → lv_has ls 3 [(0, .ref aM), (1, .int x1)] → fX9_newName_J35 vM_letters vM_fresh vM_tape x1 vM_35 = some (z_vM, z_vM_letters, z_vM_fresh) → W p l e ({ frames := 6, cells := 0, slots := 0, locals := 128 } : Room) s m ([.ref aM, .int x1] : List Value).toArray below meth c H locs 0 0 Q (F0 m 35 ls []) := by
    intro vM_35 H locs ls hP hD hS hl hok
    unfold fX9_newName_J35 at hok
    refine lv_aload_n hx hb dX9_newName_35 rfl (lv_at hl 0 rfl) ?_
    refine va_get (D := D) (ci := 8) (v := .int (vM_35 13)) (C := RX9) (T := TX9) (N := 29) hx hb ht0 niX9 hown hK hP 0 rfl rfl 13 (by decide) (ht0 _ wd757) (fun _ h9 => h9) rfl dX9_newName_36 ?_
    refine lv_if_eq (tgt := 43) hx hb dX9_newName_39 (by decide) (fun c39 => ?_) (fun c39 => ?_)
    · have hok := k_pos c39 hok
      refine lv_iconst (v := 0) hx hb dX9_newName_43 (by decide) ?_
      refine lv_istore_n (lv' := [(2, .int 0), (0, .ref aM), (1, .int x1)]) hx hb dX9_newName_44 rfl hl (by decide) rfl (fun ls hl => ?_)
      exact L45 5000 (0 : Int32) vM_fresh vM_35 H locs ls hP hD hS (lv_sub hl [1, 2, 0] rfl) hok
    · have hok := k_neg c39 hok
      cases hok
      subst hQe; exact W.vret hx hb hr (fun t ht hW => ⟨⟨(), rfl, trivial, by rw [ht]; exact hP, va_K.moved hW.alike hK, hD⟩, hS.F ht⟩) hS.2.2 dX9_newName_42
  unfold fX9_newName at hok
  obtain ⟨H, hH⟩ : ∃ H, H = s.heap := ⟨_, rfl⟩
  obtain ⟨locs, hlc⟩ : ∃ x : List Loc, x = [] := ⟨_, rfl⟩
  have hP : va_P D vwCl (wX9_newName cy aM qM vM vM_letters vM_fresh vM_tape) H := by rw [hH]; exact hP
  have hS : va_S A s.heap H locs := by rw [hH, hlc]; exact hS
  rw [show W p l e _ s m _ below meth c s.heap [] = W p l e _ s m _ below meth c H locs from by rw [hH, hlc]]
  refine lv_aload_n hx hb dX9_newName_0 rfl (lv_at hl 0 rfl) ?_
  refine va_get (D := D) (ci := 8) (v := .int (vM 13)) (C := RX9) (T := TX9) (N := 29) hx hb ht0 niX9 hown hK hP 0 rfl rfl 13 (by decide) (ht0 _ wd757) (fun _ h9 => h9) rfl dX9_newName_1 ?_
  refine lv_if_eq (tgt := 8) hx hb dX9_newName_4 (by decide) (fun c4 => ?_) (fun c4 => ?_)
  · have hok := k_pos c4 hok
    refine lv_aload_n hx hb dX9_newName_8 rfl (lv_at hl 0 rfl) ?_
    obtain ⟨vM_9, hc9, hok⟩ := k_bind hok
    refine kCv (wc := (wX9_mustName cy aM qM vM vM_letters)) (wc2 := (wX9_mustName cy aM qM vM_9 vM_letters)) (wr := [(qM 16, rI cy 224 vM_fresh), (qM 1, rI cy 900 vM_tape)]) (ws2 := (wX9_newName cy aM qM vM_9 vM_letters vM_fresh vM_tape)) (kRunVS (As := []) (rest := []) ⟨hx, hb, hml, hown, ht0⟩ (kX9_mustName l D cy ad _ aM qM vM vM_letters vM_9 hc9 _ rfl) (cwV 0 ht0 (gV wd779 wd780 wd781 wd744 wd782) rfl rfl rfl (by decide +kernel) ⟨Nat.le_of_ble_eq_true rfl, Nat.le_of_ble_eq_true rfl⟩) hK hN hP hD hSt hS hA [0, 1] rfl (by decide) 0 8 rfl rfl rfl hl.1 rfl (Nat.le_of_ble_eq_true rfl) dX9_newName_9 ⟨Nat.zero_le _, Nat.zero_le _⟩) hP hD hS hA [0, 1] [2, 3] rfl rfl (by decide) (by decide) [2, 3, 0, 1] (by decide) rfl rfl (fun H locs hP hD hS => ?_)
    refine lv_aload_n hx hb dX9_newName_12 rfl (lv_at hl 0 rfl) ?_
    refine va_get (D := D) (ci := 8) (v := .int (vM_9 13)) (C := RX9) (T := TX9) (N := 29) hx hb ht0 niX9 hown hK hP 0 rfl rfl 13 (by decide) (ht0 _ wd757) (fun _ h9 => h9) rfl dX9_newName_13 ?_
    refine lv_if_ne (tgt := 35) hx hb dX9_newName_16 (by decide) (fun c16 => ?_) (fun c16 => ?_)
    · have hok := k_neg c16 hok
      exact J35 vM_9 H locs ls hP hD hS (lv_sub hl [0, 1] rfl) hok
    · have hok := k_pos c16 hok
      refine lv_aload_n hx hb dX9_newName_19 rfl (lv_at hl 0 rfl) ?_
      obtain ⟨r20, hc20, hok⟩ := k_bind hok
      refine kCi (wc := (wX9_find cy aM qM vM_9 vM_fresh vM_letters)) (wc2 := (wX9_find cy aM qM vM_9 vM_fresh vM_letters)) (wr := [(qM 1, rI cy 900 vM_tape)]) (ws2 := (wX9_newName cy aM qM vM_9 vM_letters vM_fresh vM_tape)) (kRunV (As := []) (rest := []) ⟨hx, hb, hml, hown, ht0⟩ (kX9_find l D cy _ aM qM vM_9 vM_fresh vM_letters r20 hc20 _ rfl) (cwV 0 ht0 (gV wd783 wd784 wd785 wd744 wd786) rfl rfl rfl (by decide +kernel) ⟨Nat.le_of_ble_eq_true rfl, Nat.le_of_ble_eq_true rfl⟩) hK hN hP hD [0, 2, 1] rfl (by decide) 0 8 rfl rfl rfl hl.1 rfl (Nat.le_of_ble_eq_true rfl) dX9_newName_20 ⟨Nat.zero_le _, Nat.zero_le _⟩) hP hD hS hA [0, 2, 1] [3] rfl rfl (by decide) (by decide) [1, 3, 2, 0] (by decide) rfl rfl (fun H locs hP hD hS => ?_)
      refine lv_if_lt (tgt := 35) hx hb dX9_newName_23 (by decide) (fun c23 => ?_) (fun c23 => ?_)
      · have hok := k_pos c23 hok
        exact J35 vM_9 H locs ls hP hD hS (lv_sub hl [0, 1] rfl) hok
      · have hok := k_neg c23 hok
        refine lv_aload_n hx hb dX9_newName_26 rfl (lv_at hl 0 rfl) ?_
        refine lv_iconst (v := 3) hx hb dX9_newName_27 (by decide) ?_
        refine lv_aload_n hx hb dX9_newName_28 rfl (lv_at hl 0 rfl) ?_
        refine va_get (D := D) (ci := 8) (v := .int (vM_9 4)) (C := RX9) (T := TX9) (N := 29) hx hb ht0 niX9 hown hK hP 0 rfl rfl 4 (by decide) (ht0 _ wd756) (fun _ h9 => h9) rfl dX9_newName_29 ?_
        obtain ⟨vM_32, hc32, hok⟩ := k_bind hok
        refine kCv (wc := (wX9_wrong cy aM qM vM_9)) (wc2 := (wX9_wrong cy aM qM vM_32)) (wr := [(qM 12, rI cy 8 vM_letters), (qM 16, rI cy 224 vM_fresh), (qM 1, rI cy 900 vM_tape)]) (ws2 := (wX9_newName cy aM qM vM_32 vM_letters vM_fresh vM_tape)) (kRunV (As := [.int 3, .int (vM_9 4)]) (rest := []) ⟨hx, hb, hml, hown, ht0⟩ (kX9_wrong l D cy _ aM qM vM_9 (3 : Int32) (vM_9 4) vM_32 hc32 _ rfl) (cwV 2 ht0 (gV wd774 wd775 wd776 wd744 wd777) rfl rfl rfl (by decide +kernel) ⟨Nat.le_of_ble_eq_true rfl, Nat.le_of_ble_eq_true rfl⟩) hK hN hP hD [0] rfl (by decide) 0 8 rfl rfl rfl hl.1 rfl (Nat.le_of_ble_eq_true rfl) dX9_newName_32 ⟨Nat.zero_le _, Nat.zero_le _⟩) hP hD hS hA [0] [1, 2, 3] rfl rfl (by decide) (by decide) [3, 0, 1, 2] (by decide) rfl rfl (fun H locs hP hD hS => ?_)
        exact J35 vM_32 H locs ls hP hD hS (lv_sub hl [0, 1] rfl) hok
  · have hok := k_neg c4 hok
    cases hok
    subst hQe; exact W.vret hx hb hr (fun t ht hW => ⟨⟨(), rfl, trivial, by rw [ht]; exact hP, va_K.moved hW.alike hK, hD⟩, hS.F ht⟩) hS.2.2 dX9_newName_7
def wsX9_named : List Cond := .code yX9_named cX9_named 4 (some .int) :: W0
abbrev wX9_named (cy : Nat → ClassId) (aM : Nat) (qM : Nat → Nat) (vM : Nat → Int32) (vM_letters : Nat → Int32) (vM_fresh : Nat → Int32) (vM_tape : Nat → Int32) : va_W := [(aM, oX9 vM qM), (qM 12, rI cy 8 vM_letters), (qM 16, rI cy 224 vM_fresh), (qM 1, rI cy 900 vM_tape)]
set_option maxHeartbeats 4000000 in
set_option maxRecDepth 100000 in
theorem kX9_named (l : Launch) (D : va_G) (cy : Nat → ClassId) (ad : (Nat → Nat) × (Nat → Nat)) (sz : Nat) (aM : Nat) (qM : Nat → Nat) (vM : Nat → Int32) (vM_letters : Nat → Int32) (vM_fresh : Nat → Int32) (vM_tape : Nat → Int32) (x1 : Int32) (x2 : Int32) (zr : Int32) (z_vM : Nat → Int32) (z_vM_letters : Nat → Int32) (hok : fX9_named vM vM_letters vM_fresh vM_tape x1 x2 = some (zr, z_vM, z_vM_letters)) (A : Nat → Prop) (hAe : va_A (wX9_named cy aM qM vM vM_letters vM_fresh vM_tape) sz = A) : Met l yX9_named wsX9_named ({ frames := 6, cells := 0, slots := 0, locals := 128 } : Room) (kPreS D cy ad [.ref aM, .int x1, .int x2] (wX9_named cy aM qM vM vM_letters vM_fresh vM_tape) sz A) (kQi D cy zr A (wX9_named cy aM qM z_vM z_vM_letters vM_fresh vM_tape)) 0 0 A := by
  refine Met.ofW (cc := cX9_named) (maxL := 4) (ret := (some .int)) (by decide) rfl ?_
  intro p e s m args below meth c s₁ B hml hv
  obtain ⟨rfl, ⟨hsz, hP, hK, hD0, hN⟩, hSt⟩ := hv
  have hx := B.exec
  have hb := B.bytes
  have hr := B.returns
  have ht0 : ∀ w ∈ W0, w.before _ s = true := fun w h => atoms_spec (ws := wsX9_named) B.pre w (List.mem_cons_of_mem _ h)
  have hown : s.vm.findClass RX9 = some m.cls := findClass_of_methodNamed B.named
  have hlocks := B.notSynchronized
  subst hsz
  have hD : va_D A (wX9_named cy aM qM vM vM_letters vM_fresh vM_tape) := by rw [← hAe]; exact hD0.self
  have hA : ∀ q : Nat, s.heap.size ≤ q → A q := fun q h => by rw [← hAe]; exact Or.inr h
  have hS : va_S A s.heap s.heap [] := va_S.rf
  have hl := lv_entry ([.ref aM, .int x1, .int x2]) (n := 4) (Nat.le_of_ble_eq_true rfl)
  rw [lg_entry_eq]
  generalize (lg_sl ([.ref aM, .int x1, .int x2]) ++ List.replicate (4 - (lg_sl ([.ref aM, .int x1, .int x2])).length) Slot.unset).toArray = ls at hl ⊢
  have hl : lv_has ls 4 [(0, .ref aM), (1, .int x1), (2, .int x2)] := hl
  generalize hQe : MQ below (kQi D cy zr A (wX9_named cy aM qM z_vM z_vM_letters vM_fresh vM_tape)) ([.ref aM, .int x1, .int x2] : List Value).toArray s 0 0 A = Q
  have J45 : ∀ (y3_45 : Int32) (vM_45 : Nat → Int32), ∀ (H : Heap) (locs : List Loc) (ls : Array Slot), va_P D vwCl (wX9_named cy aM qM vM_45 vM_letters vM_fresh vM_tape) H → va_D A (wX9_named cy aM qM vM_45 vM_letters vM_fresh vM_tape) → va_S A s.heap H locs → lv_has ls 4 [(0, .ref aM), (1, .int x1), (3, .int y3_45)] → fX9_named_J45 vM_letters vM_tape x1 y3_45 vM_45 = some (zr, z_vM, z_vM_letters) → W p l e ({ frames := 6, cells := 0, slots := 0, locals := 128 } : Room) s m ([.ref aM, .int x1, .int x2] : List Value).toArray below meth c H locs 0 0 Q (F0 m 45 ls []) := by
    intro y3_45 vM_45 H locs ls hP hD hS hl hok
    unfold fX9_named_J45 at hok
    refine lv_aload_n hx hb dX9_named_45 rfl (lv_at hl 0 rfl) ?_
    refine va_get (D := D) (ci := 8) (v := .int (vM_45 13)) (C := RX9) (T := TX9) (N := 29) hx hb ht0 niX9 hown hK hP 0 rfl rfl 13 (by decide) (ht0 _ wd757) (fun _ h9 => h9) rfl dX9_named_46 ?_
    refine lv_if_eq (tgt := 54) hx hb dX9_named_49 (by decide) (fun c49 => ?_) (fun c49 => ?_)
    · have hok := k_pos c49 hok
      refine lv_aload_n hx hb dX9_named_54 rfl (lv_at hl 0 rfl) ?_
      obtain ⟨⟨vM_55, vM_letters_55⟩, hc55, hok⟩ := k_bind hok
      try dsimp only at hok
      refine kCv (wc := (wX9_next cy aM qM vM_45 vM_tape vM_letters)) (wc2 := (wX9_next cy aM qM vM_55 vM_tape vM_letters_55)) (wr := [(qM 16, rI cy 224 vM_fresh)]) (ws2 := (wX9_named cy aM qM vM_55 vM_letters_55 vM_fresh vM_tape)) (kRunV (As := []) (rest := []) ⟨hx, hb, hml, hown, ht0⟩ (kX9_next l D cy _ aM qM vM_45 vM_tape vM_letters vM_55 vM_letters_55 hc55 _ rfl) (cwV 0 ht0 (gV wd766 wd767 wd768 wd744 wd769) rfl rfl rfl (by decide +kernel) ⟨Nat.le_of_ble_eq_true rfl, Nat.le_of_ble_eq_true rfl⟩) hK hN hP hD [0, 3, 1] rfl (by decide) 0 8 rfl rfl rfl hl.1 rfl (Nat.le_of_ble_eq_true rfl) dX9_named_55 ⟨Nat.zero_le _, Nat.zero_le _⟩) hP hD hS hA [0, 3, 1] [2] rfl rfl (by decide) (by decide) [1, 3, 0, 2] (by decide) rfl rfl (fun H locs hP hD hS => ?_)
      refine lv_iload_n hx hb dX9_named_58 rfl (lv_at hl 2 rfl) ?_
      refine lv_iload_n hx hb dX9_named_59 rfl (lv_at hl 1 rfl) ?_
      refine lv_isub hx hb dX9_named_60 ?_
      cases hok
      subst hQe; exact W.iret hx hb hr (fun t ht hW => ⟨⟨_, (), rfl, rfl, by rw [ht]; exact hP, va_K.moved hW.alike hK, hD⟩, hS.F ht⟩) hS.2.2 dX9_named_61
    · have hok := k_neg c49 hok
      refine lv_iconst (v := 0) hx hb dX9_named_52 (by decide) ?_
      cases hok
      subst hQe; exact W.iret hx hb hr (fun t ht hW => ⟨⟨_, (), rfl, rfl, by rw [ht]; exact hP, va_K.moved hW.alike hK, hD⟩, hS.F ht⟩) hS.2.2 dX9_named_53
  unfold fX9_named at hok
  obtain ⟨H, hH⟩ : ∃ H, H = s.heap := ⟨_, rfl⟩
  obtain ⟨locs, hlc⟩ : ∃ x : List Loc, x = [] := ⟨_, rfl⟩
  have hP : va_P D vwCl (wX9_named cy aM qM vM vM_letters vM_fresh vM_tape) H := by rw [hH]; exact hP
  have hS : va_S A s.heap H locs := by rw [hH, hlc]; exact hS
  rw [show W p l e _ s m _ below meth c s.heap [] = W p l e _ s m _ below meth c H locs from by rw [hH, hlc]]
  refine lv_aload_n hx hb dX9_named_0 rfl (lv_at hl 0 rfl) ?_
  refine va_get (D := D) (ci := 8) (v := .int (vM 13)) (C := RX9) (T := TX9) (N := 29) hx hb ht0 niX9 hown hK hP 0 rfl rfl 13 (by decide) (ht0 _ wd757) (fun _ h9 => h9) rfl dX9_named_1 ?_
  refine lv_if_eq (tgt := 9) hx hb dX9_named_4 (by decide) (fun c4 => ?_) (fun c4 => ?_)
  · have hok := k_pos c4 hok
    refine lv_aload_n hx hb dX9_named_9 rfl (lv_at hl 0 rfl) ?_
    obtain ⟨vM_10, hc10, hok⟩ := k_bind hok
    refine kCv (wc := (wX9_mustName cy aM qM vM vM_letters)) (wc2 := (wX9_mustName cy aM qM vM_10 vM_letters)) (wr := [(qM 16, rI cy 224 vM_fresh), (qM 1, rI cy 900 vM_tape)]) (ws2 := (wX9_named cy aM qM vM_10 vM_letters vM_fresh vM_tape)) (kRunVS (As := []) (rest := []) ⟨hx, hb, hml, hown, ht0⟩ (kX9_mustName l D cy ad _ aM qM vM vM_letters vM_10 hc10 _ rfl) (cwV 0 ht0 (gV wd779 wd780 wd781 wd744 wd782) rfl rfl rfl (by decide +kernel) ⟨Nat.le_of_ble_eq_true rfl, Nat.le_of_ble_eq_true rfl⟩) hK hN hP hD hSt hS hA [0, 1] rfl (by decide) 0 8 rfl rfl rfl hl.1 rfl (Nat.le_of_ble_eq_true rfl) dX9_named_10 ⟨Nat.zero_le _, Nat.zero_le _⟩) hP hD hS hA [0, 1] [2, 3] rfl rfl (by decide) (by decide) [2, 3, 0, 1] (by decide) rfl rfl (fun H locs hP hD hS => ?_)
    refine lv_aload_n hx hb dX9_named_13 rfl (lv_at hl 0 rfl) ?_
    refine va_get (D := D) (ci := 8) (v := .int (vM_10 13)) (C := RX9) (T := TX9) (N := 29) hx hb ht0 niX9 hown hK hP 0 rfl rfl 13 (by decide) (ht0 _ wd757) (fun _ h9 => h9) rfl dX9_named_14 ?_
    refine lv_if_eq (tgt := 22) hx hb dX9_named_17 (by decide) (fun c17 => ?_) (fun c17 => ?_)
    · have hok := k_pos c17 hok
      refine lv_aload_n hx hb dX9_named_22 rfl (lv_at hl 0 rfl) ?_
      obtain ⟨r23, hc23, hok⟩ := k_bind hok
      refine kCi (wc := (wX9_find cy aM qM vM_10 vM_fresh vM_letters)) (wc2 := (wX9_find cy aM qM vM_10 vM_fresh vM_letters)) (wr := [(qM 1, rI cy 900 vM_tape)]) (ws2 := (wX9_named cy aM qM vM_10 vM_letters vM_fresh vM_tape)) (kRunV (As := []) (rest := []) ⟨hx, hb, hml, hown, ht0⟩ (kX9_find l D cy _ aM qM vM_10 vM_fresh vM_letters r23 hc23 _ rfl) (cwV 0 ht0 (gV wd783 wd784 wd785 wd744 wd786) rfl rfl rfl (by decide +kernel) ⟨Nat.le_of_ble_eq_true rfl, Nat.le_of_ble_eq_true rfl⟩) hK hN hP hD [0, 2, 1] rfl (by decide) 0 8 rfl rfl rfl hl.1 rfl (Nat.le_of_ble_eq_true rfl) dX9_named_23 ⟨Nat.zero_le _, Nat.zero_le _⟩) hP hD hS hA [0, 2, 1] [3] rfl rfl (by decide) (by decide) [1, 3, 2, 0] (by decide) rfl rfl (fun H locs hP hD hS => ?_)
      refine lv_istore_n (lv' := [(3, .int r23), (0, .ref aM), (1, .int x1), (2, .int x2)]) hx hb dX9_named_26 rfl hl (by decide) rfl (fun ls hl => ?_)
      refine lv_iload_n hx hb dX9_named_27 rfl (lv_at hl 0 rfl) ?_
      refine lv_iload_n hx hb dX9_named_28 rfl (lv_at hl 2 rfl) ?_
      refine lv_iload_n hx hb dX9_named_29 rfl (lv_at hl 3 rfl) ?_
      obtain ⟨r30, hc30, hok⟩ := k_bind hok
      refine kCi (wc := (wX9_in cy )) (wc2 := (wX9_in cy )) (wr := [(aM, oX9 vM_10 qM), (qM 12, rI cy 8 vM_letters), (qM 16, rI cy 224 vM_fresh), (qM 1, rI cy 900 vM_tape)]) (ws2 := (wX9_named cy aM qM vM_10 vM_letters vM_fresh vM_tape)) (kRunS (As := [.int r23, .int x1, .int x2]) (rest := []) ⟨hx, hb, hml, hown, ht0⟩ (kX9_in l D cy _ r23 x1 x2 r30 hc30 _ rfl) (va_cwS 3 ht0 (gS wd787 wd788 wd744 wd789) rfl rfl rfl (by decide +kernel) ⟨Nat.le_of_ble_eq_true rfl, Nat.le_of_ble_eq_true rfl⟩) hK hN hP hD [] rfl (by decide) rfl hl.1 rfl (Nat.le_of_ble_eq_true rfl) dX9_named_30 ⟨Nat.zero_le _, Nat.zero_le _⟩) hP hD hS hA [] [0, 1, 2, 3] rfl rfl (by decide) (by decide) [0, 1, 2, 3] (by decide) rfl rfl (fun H locs hP hD hS => ?_)
      refine lv_if_ne (tgt := 45) hx hb dX9_named_33 (by decide) (fun c33 => ?_) (fun c33 => ?_)
      · have hok := k_neg c33 hok
        exact J45 r23 vM_10 H locs ls hP hD hS (lv_sub hl [1, 2, 0] rfl) hok
      · have hok := k_pos c33 hok
        refine lv_aload_n hx hb dX9_named_36 rfl (lv_at hl 1 rfl) ?_
        refine lv_iconst (v := 2) hx hb dX9_named_37 (by decide) ?_
        refine lv_aload_n hx hb dX9_named_38 rfl (lv_at hl 1 rfl) ?_
        refine va_get (D := D) (ci := 8) (v := .int (vM_10 4)) (C := RX9) (T := TX9) (N := 29) hx hb ht0 niX9 hown hK hP 0 rfl rfl 4 (by decide) (ht0 _ wd756) (fun _ h9 => h9) rfl dX9_named_39 ?_
        obtain ⟨vM_42, hc42, hok⟩ := k_bind hok
        refine kCv (wc := (wX9_wrong cy aM qM vM_10)) (wc2 := (wX9_wrong cy aM qM vM_42)) (wr := [(qM 12, rI cy 8 vM_letters), (qM 16, rI cy 224 vM_fresh), (qM 1, rI cy 900 vM_tape)]) (ws2 := (wX9_named cy aM qM vM_42 vM_letters vM_fresh vM_tape)) (kRunV (As := [.int 2, .int (vM_10 4)]) (rest := []) ⟨hx, hb, hml, hown, ht0⟩ (kX9_wrong l D cy _ aM qM vM_10 (2 : Int32) (vM_10 4) vM_42 hc42 _ rfl) (cwV 2 ht0 (gV wd774 wd775 wd776 wd744 wd777) rfl rfl rfl (by decide +kernel) ⟨Nat.le_of_ble_eq_true rfl, Nat.le_of_ble_eq_true rfl⟩) hK hN hP hD [0] rfl (by decide) 0 8 rfl rfl rfl hl.1 rfl (Nat.le_of_ble_eq_true rfl) dX9_named_42 ⟨Nat.zero_le _, Nat.zero_le _⟩) hP hD hS hA [0] [1, 2, 3] rfl rfl (by decide) (by decide) [3, 0, 1, 2] (by decide) rfl rfl (fun H locs hP hD hS => ?_)
        exact J45 r23 vM_42 H locs ls hP hD hS (lv_sub hl [1, 2, 0] rfl) hok
    · have hok := k_neg c17 hok
      refine lv_iconst (v := 0) hx hb dX9_named_20 (by decide) ?_
      cases hok
      subst hQe; exact W.iret hx hb hr (fun t ht hW => ⟨⟨_, (), rfl, rfl, by rw [ht]; exact hP, va_K.moved hW.alike hK, hD⟩, hS.F ht⟩) hS.2.2 dX9_named_21
  · have hok := k_neg c4 hok
    refine lv_iconst (v := 0) hx hb dX9_named_7 (by decide) ?_
    cases hok
    subst hQe; exact W.iret hx hb hr (fun t ht hW => ⟨⟨_, (), rfl, rfl, by rw [ht]; exact hP, va_K.moved hW.alike hK, hD⟩, hS.F ht⟩) hS.2.2 dX9_named_8
def wsX9_ringName : List Cond := .code yX9_ringName cX9_ringName 1 (some .int) :: W0
abbrev wX9_ringName (cy : Nat → ClassId) (aM : Nat) (qM : Nat → Nat) (vM : Nat → Int32) (vM_letters : Nat → Int32) (vM_fresh : Nat → Int32) (vM_tape : Nat → Int32) : va_W := [(aM, oX9 vM qM), (qM 12, rI cy 8 vM_letters), (qM 16, rI cy 224 vM_fresh), (qM 1, rI cy 900 vM_tape)]
set_option maxHeartbeats 4000000 in
set_option maxRecDepth 100000 in
theorem kX9_ringName (l : Launch) (D : va_G) (cy : Nat → ClassId) (ad : (Nat → Nat) × (Nat → Nat)) (sz : Nat) (aM : Nat) (qM : Nat → Nat) (vM : Nat → Int32) (vM_letters : Nat → Int32) (vM_fresh : Nat → Int32) (vM_tape : Nat → Int32) (zr : Int32) (z_vM : Nat → Int32) (z_vM_letters : Nat → Int32) (hok : fX9_ringName vM vM_letters vM_fresh vM_tape = some (zr, z_vM, z_vM_letters)) (A : Nat → Prop) (hAe : va_A (wX9_ringName cy aM qM vM vM_letters vM_fresh vM_tape) sz = A) : Met l yX9_ringName wsX9_ringName ({ frames := 7, cells := 0, slots := 0, locals := 151 } : Room) (kPreS D cy ad [.ref aM] (wX9_ringName cy aM qM vM vM_letters vM_fresh vM_tape) sz A) (kQi D cy zr A (wX9_ringName cy aM qM z_vM z_vM_letters vM_fresh vM_tape)) 0 0 A := by
  refine Met.ofW (cc := cX9_ringName) (maxL := 1) (ret := (some .int)) (by decide) rfl ?_
  intro p e s m args below meth c s₁ B hml hv
  obtain ⟨rfl, ⟨hsz, hP, hK, hD0, hN⟩, hSt⟩ := hv
  have hx := B.exec
  have hb := B.bytes
  have hr := B.returns
  have ht0 : ∀ w ∈ W0, w.before _ s = true := fun w h => atoms_spec (ws := wsX9_ringName) B.pre w (List.mem_cons_of_mem _ h)
  have hown : s.vm.findClass RX9 = some m.cls := findClass_of_methodNamed B.named
  have hlocks := B.notSynchronized
  subst hsz
  have hD : va_D A (wX9_ringName cy aM qM vM vM_letters vM_fresh vM_tape) := by rw [← hAe]; exact hD0.self
  have hA : ∀ q : Nat, s.heap.size ≤ q → A q := fun q h => by rw [← hAe]; exact Or.inr h
  have hS : va_S A s.heap s.heap [] := va_S.rf
  have hl := lv_entry ([.ref aM]) (n := 1) (Nat.le_of_ble_eq_true rfl)
  rw [lg_entry_eq]
  generalize (lg_sl ([.ref aM]) ++ List.replicate (1 - (lg_sl ([.ref aM])).length) Slot.unset).toArray = ls at hl ⊢
  have hl : lv_has ls 1 [(0, .ref aM)] := hl
  unfold fX9_ringName at hok
  obtain ⟨H, hH⟩ : ∃ H, H = s.heap := ⟨_, rfl⟩
  obtain ⟨locs, hlc⟩ : ∃ x : List Loc, x = [] := ⟨_, rfl⟩
  have hP : va_P D vwCl (wX9_ringName cy aM qM vM vM_letters vM_fresh vM_tape) H := by rw [hH]; exact hP
  have hS : va_S A s.heap H locs := by rw [hH, hlc]; exact hS
  rw [show W p l e _ s m _ below meth c s.heap [] = W p l e _ s m _ below meth c H locs from by rw [hH, hlc]]
  refine lv_aload_n hx hb dX9_ringName_0 rfl (lv_at hl 0 rfl) ?_
  refine lv_iconst (v := 0) hx hb dX9_ringName_1 (by decide) ?_
  refine lv_iconst (v := 3) hx hb dX9_ringName_2 (by decide) ?_
  obtain ⟨⟨r3, vM_3, vM_letters_3⟩, hc3, hok⟩ := k_bind hok
  try dsimp only at hok
  refine kCi (wc := (wX9_named cy aM qM vM vM_letters vM_fresh vM_tape)) (wc2 := (wX9_named cy aM qM vM_3 vM_letters_3 vM_fresh vM_tape)) (wr := []) (ws2 := (wX9_ringName cy aM qM vM_3 vM_letters_3 vM_fresh vM_tape)) (kRunVS (As := [.int 0, .int 3]) (rest := []) ⟨hx, hb, hml, hown, ht0⟩ (kX9_named l D cy ad _ aM qM vM vM_letters vM_fresh vM_tape (0 : Int32) (3 : Int32) r3 vM_3 vM_letters_3 hc3 _ rfl) (cwV 2 ht0 (gV wd790 wd791 wd792 wd744 wd793) rfl rfl rfl (by decide +kernel) ⟨Nat.le_of_ble_eq_true rfl, Nat.le_of_ble_eq_true rfl⟩) hK hN hP hD hSt hS hA [0, 1, 2, 3] rfl (by decide) 0 8 rfl rfl rfl hl.1 rfl (Nat.le_of_ble_eq_true rfl) dX9_ringName_3 ⟨Nat.zero_le _, Nat.zero_le _⟩) hP hD hS hA [0, 1, 2, 3] [] rfl rfl (by decide) (by decide) [0, 1, 2, 3] (by decide) rfl rfl (fun H locs hP hD hS => ?_)
  cases hok
  exact W.iret hx hb hr (fun t ht hW => ⟨⟨_, (), rfl, rfl, by rw [ht]; exact hP, va_K.moved hW.alike hK, hD⟩, hS.F ht⟩) hS.2.2 dX9_ringName_6
def wsX9_numberHere : List Cond := .code yX9_numberHere cX9_numberHere 3 (some .int) :: W0
abbrev wX9_numberHere (cy : Nat → ClassId) (aM : Nat) (qM : Nat → Nat) (vM : Nat → Int32) : va_W := [(aM, oX9 vM qM)]
set_option maxHeartbeats 4000000 in
set_option maxRecDepth 100000 in
theorem kX9_numberHere (l : Launch) (D : va_G) (cy : Nat → ClassId) (sz : Nat) (aM : Nat) (qM : Nat → Nat) (vM : Nat → Int32) (x1 : Int32) (x2 : Int32) (zr : Int32) (z_vM : Nat → Int32) (hok : fX9_numberHere vM x1 x2 = some (zr, z_vM)) (A : Nat → Prop) (hAe : va_A (wX9_numberHere cy aM qM vM) sz = A) : Met l yX9_numberHere wsX9_numberHere ({ frames := 1, cells := 0, slots := 0, locals := 22 } : Room) (kPre D cy [.ref aM, .int x1, .int x2] (wX9_numberHere cy aM qM vM) sz) (kQi D cy zr A (wX9_numberHere cy aM qM z_vM)) 0 0 A := by
  refine Met.ofW (cc := cX9_numberHere) (maxL := 3) (ret := (some .int)) (by decide) rfl ?_
  intro p e s m args below meth c s₁ B hml hv
  obtain ⟨rfl, hsz, hP, hK, hD0, hN⟩ := hv
  have hx := B.exec
  have hb := B.bytes
  have hr := B.returns
  have ht0 : ∀ w ∈ W0, w.before _ s = true := fun w h => atoms_spec (ws := wsX9_numberHere) B.pre w (List.mem_cons_of_mem _ h)
  have hown : s.vm.findClass RX9 = some m.cls := findClass_of_methodNamed B.named
  have hlocks := B.notSynchronized
  subst hsz
  have hD : va_D A (wX9_numberHere cy aM qM vM) := by rw [← hAe]; exact hD0.self
  have hA : ∀ q : Nat, s.heap.size ≤ q → A q := fun q h => by rw [← hAe]; exact Or.inr h
  have hS : va_S A s.heap s.heap [] := va_S.rf
  have hl := lv_entry ([.ref aM, .int x1, .int x2]) (n := 3) (Nat.le_of_ble_eq_true rfl)
  rw [lg_entry_eq]
  generalize (lg_sl ([.ref aM, .int x1, .int x2]) ++ List.replicate (3 - (lg_sl ([.ref aM, .int x1, .int x2])).length) Slot.unset).toArray = ls at hl ⊢
  have hl : lv_has ls 3 [(0, .ref aM), (1, .int x1), (2, .int x2)] := hl
  generalize hQe : MQ below (kQi D cy zr A (wX9_numberHere cy aM qM z_vM)) ([.ref aM, .int x1, .int x2] : List Value).toArray s 0 0 A = Q
  have J65 : ∀ (t0_65 : Int32) (vM_65 : Nat → Int32), ∀ (H : Heap) (locs : List Loc) (ls : Array Slot), va_P D vwCl (wX9_numberHere cy aM qM vM_65) H → va_D A (wX9_numberHere cy aM qM vM_65) → va_S A s.heap H locs → lv_has ls 3 [] → fX9_numberHere_J65 t0_65 vM_65 = some (zr, z_vM) → W p l e ({ frames := 1, cells := 0, slots := 0, locals := 22 } : Room) s m ([.ref aM, .int x1, .int x2] : List Value).toArray below meth c H locs 0 0 Q (F0 m 65 ls [.int t0_65]) := by
    intro t0_65 vM_65 H locs ls hP hD hS hl hok
    unfold fX9_numberHere_J65 at hok
    cases hok
    subst hQe; exact W.iret hx hb hr (fun t ht hW => ⟨⟨_, (), rfl, rfl, by rw [ht]; exact hP, va_K.moved hW.alike hK, hD⟩, hS.F ht⟩) hS.2.2 dX9_numberHere_65
  have J50 : ∀ (vM_50 : Nat → Int32), ∀ (H : Heap) (locs : List Loc) (ls : Array Slot), va_P D vwCl (wX9_numberHere cy aM qM vM_50) H → va_D A (wX9_numberHere cy aM qM vM_50) → va_S A s.heap H locs → lv_has ls 3 [(0, .ref aM), (1, .int x1)] → fX9_numberHere_J50 x1 vM_50 = some (zr, z_vM) → W p l e ({ frames := 1, cells := 0, slots := 0, locals := 22 } : Room) s m ([.ref aM, .int x1, .int x2] : List Value).toArray below meth c H locs 0 0 Q (F0 m 50 ls []) := by
    intro vM_50 H locs ls hP hD hS hl hok
    unfold fX9_numberHere_J50 at hok
    refine lv_aload_n hx hb dX9_numberHere_50 rfl (lv_at hl 0 rfl) ?_
    refine va_get (D := D) (ci := 8) (v := .int (vM_50 13)) (C := RX9) (T := TX9) (N := 29) hx hb ht0 niX9 hown hK hP 0 rfl rfl 13 (by decide) (ht0 _ wd757) (fun _ h9 => h9) rfl dX9_numberHere_51 ?_
    refine lv_if_eq (tgt := 61) hx hb dX9_numberHere_54 (by decide) (fun c54 => ?_) (fun c54 => ?_)
    · have hok := k_pos c54 hok
      refine lv_aload_n hx hb dX9_numberHere_61 rfl (lv_at hl 0 rfl) ?_
      refine va_get (D := D) (ci := 8) (v := .int (vM_50 7)) (C := RX9) (T := TX9) (N := 29) hx hb ht0 niX9 hown hK hP 0 rfl rfl 7 (by decide) (ht0 _ wd750) (fun _ h9 => h9) rfl dX9_numberHere_62 ?_
      exact J65 (vM_50 7) vM_50 H locs ls hP hD hS (lv_sub hl [] rfl) hok
    · have hok := k_neg c54 hok
      refine lv_iload_n hx hb dX9_numberHere_57 rfl (lv_at hl 1 rfl) ?_
      refine lv_goto (tgt := 65) hx hb dX9_numberHere_58 (by decide) ?_
      exact J65 x1 vM_50 H locs ls hP hD hS (lv_sub hl [] rfl) hok
  unfold fX9_numberHere at hok
  obtain ⟨H, hH⟩ : ∃ H, H = s.heap := ⟨_, rfl⟩
  obtain ⟨locs, hlc⟩ : ∃ x : List Loc, x = [] := ⟨_, rfl⟩
  have hP : va_P D vwCl (wX9_numberHere cy aM qM vM) H := by rw [hH]; exact hP
  have hS : va_S A s.heap H locs := by rw [hH, hlc]; exact hS
  rw [show W p l e _ s m _ below meth c s.heap [] = W p l e _ s m _ below meth c H locs from by rw [hH, hlc]]
  refine lv_aload_n hx hb dX9_numberHere_0 rfl (lv_at hl 0 rfl) ?_
  refine va_get (D := D) (ci := 8) (v := .int (vM 13)) (C := RX9) (T := TX9) (N := 29) hx hb ht0 niX9 hown hK hP 0 rfl rfl 13 (by decide) (ht0 _ wd757) (fun _ h9 => h9) rfl dX9_numberHere_1 ?_
  refine lv_if_eq (tgt := 9) hx hb dX9_numberHere_4 (by decide) (fun c4 => ?_) (fun c4 => ?_)
  · have hok := k_pos c4 hok
    refine lv_aload_n hx hb dX9_numberHere_9 rfl (lv_at hl 0 rfl) ?_
    refine va_get (D := D) (ci := 8) (v := .int (vM 6)) (C := RX9) (T := TX9) (N := 29) hx hb ht0 niX9 hown hK hP 0 rfl rfl 6 (by decide) (ht0 _ wd740) (fun _ h9 => h9) rfl dX9_numberHere_10 ?_
    refine lv_iconst (v := 3) hx hb dX9_numberHere_13 (by decide) ?_
    refine lv_icmp_eq (tgt := 29) hx hb dX9_numberHere_14 (by decide) (fun c14 => ?_) (fun c14 => ?_)
    · have hok := k_pos c14 hok
      refine lv_aload_n hx hb dX9_numberHere_29 rfl (lv_at hl 0 rfl) ?_
      refine va_get (D := D) (ci := 8) (v := .int (vM 7)) (C := RX9) (T := TX9) (N := 29) hx hb ht0 niX9 hown hK hP 0 rfl rfl 7 (by decide) (ht0 _ wd750) (fun _ h9 => h9) rfl dX9_numberHere_30 ?_
      refine lv_iload_n hx hb dX9_numberHere_33 rfl (lv_at hl 1 rfl) ?_
      refine lv_iload_n hx hb dX9_numberHere_34 rfl (lv_at hl 2 rfl) ?_
      obtain ⟨r35, hc35, hok⟩ := k_bind hok
      refine kCi (wc := (wX9_in cy )) (wc2 := (wX9_in cy )) (wr := [(aM, oX9 vM qM)]) (ws2 := (wX9_numberHere cy aM qM vM)) (kRunS (As := [.int (vM 7), .int x1, .int x2]) (rest := []) ⟨hx, hb, hml, hown, ht0⟩ (kX9_in l D cy _ (vM 7) x1 x2 r35 hc35 _ rfl) (va_cwS 3 ht0 (gS wd787 wd788 wd744 wd789) rfl rfl rfl (by decide +kernel) ⟨Nat.le_of_ble_eq_true rfl, Nat.le_of_ble_eq_true rfl⟩) hK hN hP hD [] rfl (by decide) rfl hl.1 rfl (Nat.le_of_ble_eq_true rfl) dX9_numberHere_35 ⟨Nat.zero_le _, Nat.zero_le _⟩) hP hD hS hA [] [0] rfl rfl (by decide) (by decide) [0] (by decide) rfl rfl (fun H locs hP hD hS => ?_)
      refine lv_if_ne (tgt := 50) hx hb dX9_numberHere_38 (by decide) (fun c38 => ?_) (fun c38 => ?_)
      · have hok := k_neg c38 hok
        exact J50 vM H locs ls hP hD hS (lv_sub hl [0, 1] rfl) hok
      · have hok := k_pos c38 hok
        refine lv_aload_n hx hb dX9_numberHere_41 rfl (lv_at hl 0 rfl) ?_
        refine lv_iconst (v := 4) hx hb dX9_numberHere_42 (by decide) ?_
        refine lv_aload_n hx hb dX9_numberHere_43 rfl (lv_at hl 0 rfl) ?_
        refine va_get (D := D) (ci := 8) (v := .int (vM 4)) (C := RX9) (T := TX9) (N := 29) hx hb ht0 niX9 hown hK hP 0 rfl rfl 4 (by decide) (ht0 _ wd756) (fun _ h9 => h9) rfl dX9_numberHere_44 ?_
        obtain ⟨vM_47, hc47, hok⟩ := k_bind hok
        refine kCv (wc := (wX9_wrong cy aM qM vM)) (wc2 := (wX9_wrong cy aM qM vM_47)) (wr := []) (ws2 := (wX9_numberHere cy aM qM vM_47)) (kRunV (As := [.int 4, .int (vM 4)]) (rest := []) ⟨hx, hb, hml, hown, ht0⟩ (kX9_wrong l D cy _ aM qM vM (4 : Int32) (vM 4) vM_47 hc47 _ rfl) (cwV 2 ht0 (gV wd774 wd775 wd776 wd744 wd777) rfl rfl rfl (by decide +kernel) ⟨Nat.le_of_ble_eq_true rfl, Nat.le_of_ble_eq_true rfl⟩) hK hN hP hD [0] rfl (by decide) 0 8 rfl rfl rfl hl.1 rfl (Nat.le_of_ble_eq_true rfl) dX9_numberHere_47 ⟨Nat.zero_le _, Nat.zero_le _⟩) hP hD hS hA [0] [] rfl rfl (by decide) (by decide) [0] (by decide) rfl rfl (fun H locs hP hD hS => ?_)
        exact J50 vM_47 H locs ls hP hD hS (lv_sub hl [0, 1] rfl) hok
    · have hok := k_neg c14 hok
      refine lv_aload_n hx hb dX9_numberHere_17 rfl (lv_at hl 0 rfl) ?_
      refine lv_iconst (v := 1) hx hb dX9_numberHere_18 (by decide) ?_
      refine lv_aload_n hx hb dX9_numberHere_19 rfl (lv_at hl 0 rfl) ?_
      refine va_get (D := D) (ci := 8) (v := .int (vM 4)) (C := RX9) (T := TX9) (N := 29) hx hb ht0 niX9 hown hK hP 0 rfl rfl 4 (by decide) (ht0 _ wd756) (fun _ h9 => h9) rfl dX9_numberHere_20 ?_
      obtain ⟨vM_23, hc23, hok⟩ := k_bind hok
      refine kCv (wc := (wX9_wrong cy aM qM vM)) (wc2 := (wX9_wrong cy aM qM vM_23)) (wr := []) (ws2 := (wX9_numberHere cy aM qM vM_23)) (kRunV (As := [.int 1, .int (vM 4)]) (rest := []) ⟨hx, hb, hml, hown, ht0⟩ (kX9_wrong l D cy _ aM qM vM (1 : Int32) (vM 4) vM_23 hc23 _ rfl) (cwV 2 ht0 (gV wd774 wd775 wd776 wd744 wd777) rfl rfl rfl (by decide +kernel) ⟨Nat.le_of_ble_eq_true rfl, Nat.le_of_ble_eq_true rfl⟩) hK hN hP hD [0] rfl (by decide) 0 8 rfl rfl rfl hl.1 rfl (Nat.le_of_ble_eq_true rfl) dX9_numberHere_23 ⟨Nat.zero_le _, Nat.zero_le _⟩) hP hD hS hA [0] [] rfl rfl (by decide) (by decide) [0] (by decide) rfl rfl (fun H locs hP hD hS => ?_)
      refine lv_goto (tgt := 50) hx hb dX9_numberHere_26 (by decide) ?_
      exact J50 vM_23 H locs ls hP hD hS (lv_sub hl [0, 1] rfl) hok
  · have hok := k_neg c4 hok
    refine lv_iload_n hx hb dX9_numberHere_7 rfl (lv_at hl 1 rfl) ?_
    cases hok
    subst hQe; exact W.iret hx hb hr (fun t ht hW => ⟨⟨_, (), rfl, rfl, by rw [ht]; exact hP, va_K.moved hW.alike hK, hD⟩, hS.F ht⟩) hS.2.2 dX9_numberHere_8
def wsX9_number : List Cond := .code yX9_number cX9_number 4 (some .int) :: W0
abbrev wX9_number (cy : Nat → ClassId) (aM : Nat) (qM : Nat → Nat) (vM : Nat → Int32) (vM_tape : Nat → Int32) (vM_letters : Nat → Int32) : va_W := [(aM, oX9 vM qM), (qM 1, rI cy 900 vM_tape), (qM 12, rI cy 8 vM_letters)]
set_option maxHeartbeats 4000000 in
set_option maxRecDepth 100000 in
theorem kX9_number (l : Launch) (D : va_G) (cy : Nat → ClassId) (sz : Nat) (aM : Nat) (qM : Nat → Nat) (vM : Nat → Int32) (vM_tape : Nat → Int32) (vM_letters : Nat → Int32) (x1 : Int32) (x2 : Int32) (zr : Int32) (z_vM : Nat → Int32) (z_vM_letters : Nat → Int32) (hok : fX9_number vM vM_tape vM_letters x1 x2 = some (zr, z_vM, z_vM_letters)) (A : Nat → Prop) (hAe : va_A (wX9_number cy aM qM vM vM_tape vM_letters) sz = A) : Met l yX9_number wsX9_number ({ frames := 2, cells := 0, slots := 0, locals := 44 } : Room) (kPre D cy [.ref aM, .int x1, .int x2] (wX9_number cy aM qM vM vM_tape vM_letters) sz) (kQi D cy zr A (wX9_number cy aM qM z_vM vM_tape z_vM_letters)) 0 0 A := by
  refine Met.ofW (cc := cX9_number) (maxL := 4) (ret := (some .int)) (by decide) rfl ?_
  intro p e s m args below meth c s₁ B hml hv
  obtain ⟨rfl, hsz, hP, hK, hD0, hN⟩ := hv
  have hx := B.exec
  have hb := B.bytes
  have hr := B.returns
  have ht0 : ∀ w ∈ W0, w.before _ s = true := fun w h => atoms_spec (ws := wsX9_number) B.pre w (List.mem_cons_of_mem _ h)
  have hown : s.vm.findClass RX9 = some m.cls := findClass_of_methodNamed B.named
  have hlocks := B.notSynchronized
  subst hsz
  have hD : va_D A (wX9_number cy aM qM vM vM_tape vM_letters) := by rw [← hAe]; exact hD0.self
  have hA : ∀ q : Nat, s.heap.size ≤ q → A q := fun q h => by rw [← hAe]; exact Or.inr h
  have hS : va_S A s.heap s.heap [] := va_S.rf
  have hl := lv_entry ([.ref aM, .int x1, .int x2]) (n := 4) (Nat.le_of_ble_eq_true rfl)
  rw [lg_entry_eq]
  generalize (lg_sl ([.ref aM, .int x1, .int x2]) ++ List.replicate (4 - (lg_sl ([.ref aM, .int x1, .int x2])).length) Slot.unset).toArray = ls at hl ⊢
  have hl : lv_has ls 4 [(0, .ref aM), (1, .int x1), (2, .int x2)] := hl
  generalize hQe : MQ below (kQi D cy zr A (wX9_number cy aM qM z_vM vM_tape z_vM_letters)) ([.ref aM, .int x1, .int x2] : List Value).toArray s 0 0 A = Q
  have J18 : ∀ (y3_18 : Int32) (vM_letters_18 : Nat → Int32) (vM_18 : Nat → Int32), ∀ (H : Heap) (locs : List Loc) (ls : Array Slot), va_P D vwCl (wX9_number cy aM qM vM_18 vM_tape vM_letters_18) H → va_D A (wX9_number cy aM qM vM_18 vM_tape vM_letters_18) → va_S A s.heap H locs → lv_has ls 4 [(3, .int y3_18)] → fX9_number_J18 y3_18 vM_letters_18 vM_18 = some (zr, z_vM, z_vM_letters) → W p l e ({ frames := 2, cells := 0, slots := 0, locals := 44 } : Room) s m ([.ref aM, .int x1, .int x2] : List Value).toArray below meth c H locs 0 0 Q (F0 m 18 ls []) := by
    intro y3_18 vM_letters_18 vM_18 H locs ls hP hD hS hl hok
    unfold fX9_number_J18 at hok
    refine lv_iload_n hx hb dX9_number_18 rfl (lv_at hl 0 rfl) ?_
    cases hok
    subst hQe; exact W.iret hx hb hr (fun t ht hW => ⟨⟨_, (), rfl, rfl, by rw [ht]; exact hP, va_K.moved hW.alike hK, hD⟩, hS.F ht⟩) hS.2.2 dX9_number_19
  unfold fX9_number at hok
  obtain ⟨H, hH⟩ : ∃ H, H = s.heap := ⟨_, rfl⟩
  obtain ⟨locs, hlc⟩ : ∃ x : List Loc, x = [] := ⟨_, rfl⟩
  have hP : va_P D vwCl (wX9_number cy aM qM vM vM_tape vM_letters) H := by rw [hH]; exact hP
  have hS : va_S A s.heap H locs := by rw [hH, hlc]; exact hS
  rw [show W p l e _ s m _ below meth c s.heap [] = W p l e _ s m _ below meth c H locs from by rw [hH, hlc]]
  refine lv_aload_n hx hb dX9_number_0 rfl (lv_at hl 0 rfl) ?_
  refine lv_iload_n hx hb dX9_number_1 rfl (lv_at hl 1 rfl) ?_
  refine lv_iload_n hx hb dX9_number_2 rfl (lv_at hl 2 rfl) ?_
  obtain ⟨⟨r3, vM_3⟩, hc3, hok⟩ := k_bind hok
  try dsimp only at hok
  refine kCi (wc := (wX9_numberHere cy aM qM vM)) (wc2 := (wX9_numberHere cy aM qM vM_3)) (wr := [(qM 1, rI cy 900 vM_tape), (qM 12, rI cy 8 vM_letters)]) (ws2 := (wX9_number cy aM qM vM_3 vM_tape vM_letters)) (kRunV (As := [.int x1, .int x2]) (rest := []) ⟨hx, hb, hml, hown, ht0⟩ (kX9_numberHere l D cy _ aM qM vM x1 x2 r3 vM_3 hc3 _ rfl) (cwV 2 ht0 (gV wd794 wd795 wd796 wd744 wd797) rfl rfl rfl (by decide +kernel) ⟨Nat.le_of_ble_eq_true rfl, Nat.le_of_ble_eq_true rfl⟩) hK hN hP hD [0] rfl (by decide) 0 8 rfl rfl rfl hl.1 rfl (Nat.le_of_ble_eq_true rfl) dX9_number_3 ⟨Nat.zero_le _, Nat.zero_le _⟩) hP hD hS hA [0] [1, 2] rfl rfl (by decide) (by decide) [2, 0, 1] (by decide) rfl rfl (fun H locs hP hD hS => ?_)
  refine lv_istore_n (lv' := [(3, .int r3), (0, .ref aM), (1, .int x1), (2, .int x2)]) hx hb dX9_number_6 rfl hl (by decide) rfl (fun ls hl => ?_)
  refine lv_aload_n hx hb dX9_number_7 rfl (lv_at hl 1 rfl) ?_
  refine va_get (D := D) (ci := 8) (v := .int (vM_3 13)) (C := RX9) (T := TX9) (N := 29) hx hb ht0 niX9 hown hK hP 0 rfl rfl 13 (by decide) (ht0 _ wd757) (fun _ h9 => h9) rfl dX9_number_8 ?_
  refine lv_if_ne (tgt := 18) hx hb dX9_number_11 (by decide) (fun c11 => ?_) (fun c11 => ?_)
  · have hok := k_neg c11 hok
    exact J18 r3 vM_letters vM_3 H locs ls hP hD hS (lv_sub hl [0] rfl) hok
  · have hok := k_pos c11 hok
    refine lv_aload_n hx hb dX9_number_14 rfl (lv_at hl 1 rfl) ?_
    obtain ⟨⟨vM_15, vM_letters_15⟩, hc15, hok⟩ := k_bind hok
    try dsimp only at hok
    refine kCv (wc := (wX9_next cy aM qM vM_3 vM_tape vM_letters)) (wc2 := (wX9_next cy aM qM vM_15 vM_tape vM_letters_15)) (wr := []) (ws2 := (wX9_number cy aM qM vM_15 vM_tape vM_letters_15)) (kRunV (As := []) (rest := []) ⟨hx, hb, hml, hown, ht0⟩ (kX9_next l D cy _ aM qM vM_3 vM_tape vM_letters vM_15 vM_letters_15 hc15 _ rfl) (cwV 0 ht0 (gV wd766 wd767 wd768 wd744 wd769) rfl rfl rfl (by decide +kernel) ⟨Nat.le_of_ble_eq_true rfl, Nat.le_of_ble_eq_true rfl⟩) hK hN hP hD [0, 1, 2] rfl (by decide) 0 8 rfl rfl rfl hl.1 rfl (Nat.le_of_ble_eq_true rfl) dX9_number_15 ⟨Nat.zero_le _, Nat.zero_le _⟩) hP hD hS hA [0, 1, 2] [] rfl rfl (by decide) (by decide) [0, 1, 2] (by decide) rfl rfl (fun H locs hP hD hS => ?_)
    exact J18 r3 vM_letters_15 vM_15 H locs ls hP hD hS (lv_sub hl [0] rfl) hok
def wsX9_after : List Cond := .code yX9_after cX9_after 4 (some .int) :: W0
abbrev wX9_after (cy : Nat → ClassId) (aM : Nat) (qM : Nat → Nat) (vM : Nat → Int32) (vM_letters : Nat → Int32) (vM_tape : Nat → Int32) : va_W := [(aM, oX9 vM qM), (qM 12, rI cy 8 vM_letters), (qM 1, rI cy 900 vM_tape)]
set_option maxHeartbeats 4000000 in
set_option maxRecDepth 100000 in
theorem kX9_after (l : Launch) (D : va_G) (cy : Nat → ClassId) (ad : (Nat → Nat) × (Nat → Nat)) (sz : Nat) (aM : Nat) (qM : Nat → Nat) (vM : Nat → Int32) (vM_letters : Nat → Int32) (vM_tape : Nat → Int32) (x1 : Nat) (x2 : Int32) (x3 : Int32) (zr : Int32) (z_vM : Nat → Int32) (z_vM_letters : Nat → Int32) (hok : fX9_after vM vM_letters vM_tape x1 x2 x3 = some (zr, z_vM, z_vM_letters)) (A : Nat → Prop) (hAe : va_A (wX9_after cy aM qM vM vM_letters vM_tape) sz = A) : Met l yX9_after wsX9_after ({ frames := 7, cells := 0, slots := 0, locals := 150 } : Room) (kPreS D cy ad [.ref aM, .ref (ad.1 x1), .int x2, .int x3] (wX9_after cy aM qM vM vM_letters vM_tape) sz A) (kQi D cy zr A (wX9_after cy aM qM z_vM z_vM_letters vM_tape)) 0 0 A := by
  refine Met.ofW (cc := cX9_after) (maxL := 4) (ret := (some .int)) (by decide) rfl ?_
  intro p e s m args below meth c s₁ B hml hv
  obtain ⟨rfl, ⟨hsz, hP, hK, hD0, hN⟩, hSt⟩ := hv
  have hx := B.exec
  have hb := B.bytes
  have hr := B.returns
  have ht0 : ∀ w ∈ W0, w.before _ s = true := fun w h => atoms_spec (ws := wsX9_after) B.pre w (List.mem_cons_of_mem _ h)
  have hown : s.vm.findClass RX9 = some m.cls := findClass_of_methodNamed B.named
  have hlocks := B.notSynchronized
  subst hsz
  have hD : va_D A (wX9_after cy aM qM vM vM_letters vM_tape) := by rw [← hAe]; exact hD0.self
  have hA : ∀ q : Nat, s.heap.size ≤ q → A q := fun q h => by rw [← hAe]; exact Or.inr h
  have hS : va_S A s.heap s.heap [] := va_S.rf
  have hl := lv_entry ([.ref aM, .ref (ad.1 x1), .int x2, .int x3]) (n := 4) (Nat.le_of_ble_eq_true rfl)
  rw [lg_entry_eq]
  generalize (lg_sl ([.ref aM, .ref (ad.1 x1), .int x2, .int x3]) ++ List.replicate (4 - (lg_sl ([.ref aM, .ref (ad.1 x1), .int x2, .int x3])).length) Slot.unset).toArray = ls at hl ⊢
  have hl : lv_has ls 4 [(0, .ref aM), (1, .ref (ad.1 x1)), (2, .int x2), (3, .int x3)] := hl
  unfold fX9_after at hok
  obtain ⟨H, hH⟩ : ∃ H, H = s.heap := ⟨_, rfl⟩
  obtain ⟨locs, hlc⟩ : ∃ x : List Loc, x = [] := ⟨_, rfl⟩
  have hP : va_P D vwCl (wX9_after cy aM qM vM vM_letters vM_tape) H := by rw [hH]; exact hP
  have hS : va_S A s.heap H locs := by rw [hH, hlc]; exact hS
  rw [show W p l e _ s m _ below meth c s.heap [] = W p l e _ s m _ below meth c H locs from by rw [hH, hlc]]
  refine lv_aload_n hx hb dX9_after_0 rfl (lv_at hl 0 rfl) ?_
  refine lv_aload_n hx hb dX9_after_1 rfl (lv_at hl 1 rfl) ?_
  obtain ⟨⟨vM_2, vM_letters_2⟩, hc2, hok⟩ := k_bind hok
  try dsimp only at hok
  refine kCv (wc := (wX9_must cy aM qM vM vM_letters vM_tape)) (wc2 := (wX9_must cy aM qM vM_2 vM_letters_2 vM_tape)) (wr := []) (ws2 := (wX9_after cy aM qM vM_2 vM_letters_2 vM_tape)) (kRunVS (As := [.ref (ad.1 x1)]) (rest := []) ⟨hx, hb, hml, hown, ht0⟩ (kX9_must l D cy ad _ aM qM vM vM_letters vM_tape x1 vM_2 vM_letters_2 hc2 _ rfl) (cwV 1 ht0 (gV wd798 wd799 wd800 wd744 wd801) rfl rfl rfl (by decide +kernel) ⟨Nat.le_of_ble_eq_true rfl, Nat.le_of_ble_eq_true rfl⟩) hK hN hP hD hSt hS hA [0, 1, 2] rfl (by decide) 0 8 rfl rfl rfl hl.1 rfl (Nat.le_of_ble_eq_true rfl) dX9_after_2 ⟨Nat.zero_le _, Nat.zero_le _⟩) hP hD hS hA [0, 1, 2] [] rfl rfl (by decide) (by decide) [0, 1, 2] (by decide) rfl rfl (fun H locs hP hD hS => ?_)
  refine lv_aload_n hx hb dX9_after_5 rfl (lv_at hl 0 rfl) ?_
  refine lv_iload_n hx hb dX9_after_6 rfl (lv_at hl 2 rfl) ?_
  refine lv_iload_n hx hb dX9_after_7 rfl (lv_at hl 3 rfl) ?_
  obtain ⟨⟨r8, vM_8, vM_letters_8⟩, hc8, hok⟩ := k_bind hok
  try dsimp only at hok
  refine kCi (wc := (wX9_number cy aM qM vM_2 vM_tape vM_letters_2)) (wc2 := (wX9_number cy aM qM vM_8 vM_tape vM_letters_8)) (wr := []) (ws2 := (wX9_after cy aM qM vM_8 vM_letters_8 vM_tape)) (kRunV (As := [.int x2, .int x3]) (rest := []) ⟨hx, hb, hml, hown, ht0⟩ (kX9_number l D cy _ aM qM vM_2 vM_tape vM_letters_2 x2 x3 r8 vM_8 vM_letters_8 hc8 _ rfl) (cwV 2 ht0 (gV wd802 wd803 wd804 wd744 wd805) rfl rfl rfl (by decide +kernel) ⟨Nat.le_of_ble_eq_true rfl, Nat.le_of_ble_eq_true rfl⟩) hK hN hP hD [0, 2, 1] rfl (by decide) 0 8 rfl rfl rfl hl.1 rfl (Nat.le_of_ble_eq_true rfl) dX9_after_8 ⟨Nat.zero_le _, Nat.zero_le _⟩) hP hD hS hA [0, 2, 1] [] rfl rfl (by decide) (by decide) [0, 2, 1] (by decide) rfl rfl (fun H locs hP hD hS => ?_)
  cases hok
  exact W.iret hx hb hr (fun t ht hW => ⟨⟨_, (), rfl, rfl, by rw [ht]; exact hP, va_K.moved hW.alike hK, hD⟩, hS.F ht⟩) hS.2.2 dX9_after_11
def wsX9_placeHere : List Cond := .code yX9_placeHere cX9_placeHere 2 (some .int) :: W0
abbrev wX9_placeHere (cy : Nat → ClassId) (aM : Nat) (qM : Nat → Nat) (vM : Nat → Int32) (vM_fresh : Nat → Int32) : va_W := [(aM, oX9 vM qM), (qM 16, rI cy 224 vM_fresh)]
set_option maxHeartbeats 4000000 in
set_option maxRecDepth 100000 in
theorem kX9_placeHere (l : Launch) (D : va_G) (cy : Nat → ClassId) (sz : Nat) (aM : Nat) (qM : Nat → Nat) (vM : Nat → Int32) (vM_fresh : Nat → Int32) (x1 : Int32) (zr : Int32) (z_vM : Nat → Int32) (hok : fX9_placeHere vM vM_fresh x1 = some (zr, z_vM)) (A : Nat → Prop) (hAe : va_A (wX9_placeHere cy aM qM vM vM_fresh) sz = A) : Met l yX9_placeHere wsX9_placeHere ({ frames := 2, cells := 0, slots := 0, locals := 44 } : Room) (kPre D cy [.ref aM, .int x1] (wX9_placeHere cy aM qM vM vM_fresh) sz) (kQi D cy zr A (wX9_placeHere cy aM qM z_vM vM_fresh)) 0 0 A := by
  refine Met.ofW (cc := cX9_placeHere) (maxL := 2) (ret := (some .int)) (by decide) rfl ?_
  intro p e s m args below meth c s₁ B hml hv
  obtain ⟨rfl, hsz, hP, hK, hD0, hN⟩ := hv
  have hx := B.exec
  have hb := B.bytes
  have hr := B.returns
  have ht0 : ∀ w ∈ W0, w.before _ s = true := fun w h => atoms_spec (ws := wsX9_placeHere) B.pre w (List.mem_cons_of_mem _ h)
  have hown : s.vm.findClass RX9 = some m.cls := findClass_of_methodNamed B.named
  have hlocks := B.notSynchronized
  subst hsz
  have hD : va_D A (wX9_placeHere cy aM qM vM vM_fresh) := by rw [← hAe]; exact hD0.self
  have hA : ∀ q : Nat, s.heap.size ≤ q → A q := fun q h => by rw [← hAe]; exact Or.inr h
  have hS : va_S A s.heap s.heap [] := va_S.rf
  have hl := lv_entry ([.ref aM, .int x1]) (n := 2) (Nat.le_of_ble_eq_true rfl)
  rw [lg_entry_eq]
  generalize (lg_sl ([.ref aM, .int x1]) ++ List.replicate (2 - (lg_sl ([.ref aM, .int x1])).length) Slot.unset).toArray = ls at hl ⊢
  have hl : lv_has ls 2 [(0, .ref aM), (1, .int x1)] := hl
  unfold fX9_placeHere at hok
  obtain ⟨H, hH⟩ : ∃ H, H = s.heap := ⟨_, rfl⟩
  obtain ⟨locs, hlc⟩ : ∃ x : List Loc, x = [] := ⟨_, rfl⟩
  have hP : va_P D vwCl (wX9_placeHere cy aM qM vM vM_fresh) H := by rw [hH]; exact hP
  have hS : va_S A s.heap H locs := by rw [hH, hlc]; exact hS
  rw [show W p l e _ s m _ below meth c s.heap [] = W p l e _ s m _ below meth c H locs from by rw [hH, hlc]]
  refine lv_bipush (v := 9) hx hb dX9_placeHere_0 (by decide) ?_
  refine lv_iload_n hx hb dX9_placeHere_2 rfl (lv_at hl 1 rfl) ?_
  refine lv_imul hx hb dX9_placeHere_3 ?_
  refine lv_aload_n hx hb dX9_placeHere_4 rfl (lv_at hl 0 rfl) ?_
  refine lv_iconst (v := 0) hx hb dX9_placeHere_5 (by decide) ?_
  refine lv_aload_n hx hb dX9_placeHere_6 rfl (lv_at hl 0 rfl) ?_
  refine va_get (D := D) (ci := 8) (v := .ref (qM 16)) (C := RX9) (T := TX9) (N := 29) hx hb ht0 niX9 hown hK hP 0 rfl rfl 16 (by decide) (ht0 _ wd778) (fun _ h9 => h9) rfl dX9_placeHere_7 ?_
  refine lv_bipush (v := 8) hx hb dX9_placeHere_10 (by decide) ?_
  refine lv_iconst (v := 2) hx hb dX9_placeHere_12 (by decide) ?_
  refine lv_iload_n hx hb dX9_placeHere_13 rfl (lv_at hl 1 rfl) ?_
  refine lv_imul hx hb dX9_placeHere_14 ?_
  refine lv_iadd hx hb dX9_placeHere_15 ?_
  refine lv_iconst (v := 1) hx hb dX9_placeHere_16 (by decide) ?_
  refine lv_iadd hx hb dX9_placeHere_17 ?_
  obtain ⟨g18, hok⟩ := gd_some hok
  refine va_iald hx hb hK hP 1 0 rfl rfl (okI_in g18) dX9_placeHere_18 ?_
  refine lv_iconst (v := 1) hx hb dX9_placeHere_19 (by decide) ?_
  refine lv_isub hx hb dX9_placeHere_20 ?_
  obtain ⟨⟨r21, vM_21⟩, hc21, hok⟩ := k_bind hok
  try dsimp only at hok
  refine kCi (wc := (wX9_numberHere cy aM qM vM)) (wc2 := (wX9_numberHere cy aM qM vM_21)) (wr := [(qM 16, rI cy 224 vM_fresh)]) (ws2 := (wX9_placeHere cy aM qM vM_21 vM_fresh)) (kRunV (As := [.int 0, .int ((vM_fresh (((8 : Int32) + ((2 : Int32) * x1)) + (1 : Int32)).toNatClampNeg) - (1 : Int32))]) (rest := [.int ((9 : Int32) * x1)]) ⟨hx, hb, hml, hown, ht0⟩ (kX9_numberHere l D cy _ aM qM vM (0 : Int32) ((vM_fresh (((8 : Int32) + ((2 : Int32) * x1)) + (1 : Int32)).toNatClampNeg) - (1 : Int32)) r21 vM_21 hc21 _ rfl) (cwV 2 ht0 (gV wd794 wd795 wd796 wd744 wd797) rfl rfl rfl (by decide +kernel) ⟨Nat.le_of_ble_eq_true rfl, Nat.le_of_ble_eq_true rfl⟩) hK hN hP hD [0] rfl (by decide) 0 8 rfl rfl rfl hl.1 rfl (Nat.le_of_ble_eq_true rfl) dX9_placeHere_21 ⟨Nat.zero_le _, Nat.zero_le _⟩) hP hD hS hA [0] [1] rfl rfl (by decide) (by decide) [1, 0] (by decide) rfl rfl (fun H locs hP hD hS => ?_)
  refine lv_iadd hx hb dX9_placeHere_24 ?_
  cases hok
  exact W.iret hx hb hr (fun t ht hW => ⟨⟨_, (), rfl, rfl, by rw [ht]; exact hP, va_K.moved hW.alike hK, hD⟩, hS.F ht⟩) hS.2.2 dX9_placeHere_25
def wsX9_houseLine : List Cond := .code yX9_houseLine cX9_houseLine 2 none :: W0
abbrev wX9_houseLine (cy : Nat → ClassId) (aM : Nat) (qM : Nat → Nat) (vM : Nat → Int32) (vM_fresh : Nat → Int32) (vM_tape : Nat → Int32) (vM_letters : Nat → Int32) : va_W := [(aM, oX9 vM qM), (qM 16, rI cy 224 vM_fresh), (qM 1, rI cy 900 vM_tape), (qM 12, rI cy 8 vM_letters)]
set_option maxHeartbeats 4000000 in
set_option maxRecDepth 100000 in
theorem kX9_houseLine (l : Launch) (D : va_G) (cy : Nat → ClassId) (ad : (Nat → Nat) × (Nat → Nat)) (sz : Nat) (aM : Nat) (qM : Nat → Nat) (vM : Nat → Int32) (vM_fresh : Nat → Int32) (vM_tape : Nat → Int32) (vM_letters : Nat → Int32) (z_vM : Nat → Int32) (z_vM_fresh : Nat → Int32) (z_vM_letters : Nat → Int32) (hok : fX9_houseLine vM vM_fresh vM_tape vM_letters = some (z_vM, z_vM_fresh, z_vM_letters)) (A : Nat → Prop) (hAe : va_A (wX9_houseLine cy aM qM vM vM_fresh vM_tape vM_letters) sz = A) : Met l yX9_houseLine wsX9_houseLine ({ frames := 8, cells := 0, slots := 0, locals := 173 } : Room) (kPreS D cy ad [.ref aM] (wX9_houseLine cy aM qM vM vM_fresh vM_tape vM_letters) sz A) (kQv D cy A (wX9_houseLine cy aM qM z_vM z_vM_fresh vM_tape z_vM_letters)) 0 0 A := by
  refine Met.ofW (cc := cX9_houseLine) (maxL := 2) (ret := none) (by decide) rfl ?_
  intro p e s m args below meth c s₁ B hml hv
  obtain ⟨rfl, ⟨hsz, hP, hK, hD0, hN⟩, hSt⟩ := hv
  have hx := B.exec
  have hb := B.bytes
  have hr := B.returns
  have ht0 : ∀ w ∈ W0, w.before _ s = true := fun w h => atoms_spec (ws := wsX9_houseLine) B.pre w (List.mem_cons_of_mem _ h)
  have hown : s.vm.findClass RX9 = some m.cls := findClass_of_methodNamed B.named
  have hlocks := B.notSynchronized
  subst hsz
  have hD : va_D A (wX9_houseLine cy aM qM vM vM_fresh vM_tape vM_letters) := by rw [← hAe]; exact hD0.self
  have hA : ∀ q : Nat, s.heap.size ≤ q → A q := fun q h => by rw [← hAe]; exact Or.inr h
  have hS : va_S A s.heap s.heap [] := va_S.rf
  have hl := lv_entry ([.ref aM]) (n := 2) (Nat.le_of_ble_eq_true rfl)
  rw [lg_entry_eq]
  generalize (lg_sl ([.ref aM]) ++ List.replicate (2 - (lg_sl ([.ref aM])).length) Slot.unset).toArray = ls at hl ⊢
  have hl : lv_has ls 2 [(0, .ref aM)] := hl
  generalize hQe : MQ below (kQv D cy A (wX9_houseLine cy aM qM z_vM z_vM_fresh vM_tape z_vM_letters)) ([.ref aM] : List Value).toArray s 0 0 A = Q
  have J68 : ∀ (vM_fresh_68 : Nat → Int32) (vM_letters_68 : Nat → Int32) (vM_68 : Nat → Int32), ∀ (H : Heap) (locs : List Loc) (ls : Array Slot), va_P D vwCl (wX9_houseLine cy aM qM vM_68 vM_fresh_68 vM_tape vM_letters_68) H → va_D A (wX9_houseLine cy aM qM vM_68 vM_fresh_68 vM_tape vM_letters_68) → va_S A s.heap H locs → lv_has ls 2 [] → fX9_houseLine_J68 vM_fresh_68 vM_letters_68 vM_68 = some (z_vM, z_vM_fresh, z_vM_letters) → W p l e ({ frames := 8, cells := 0, slots := 0, locals := 173 } : Room) s m ([.ref aM] : List Value).toArray below meth c H locs 0 0 Q (F0 m 68 ls []) := by
    intro vM_fresh_68 vM_letters_68 vM_68 H locs ls hP hD hS hl hok
    unfold fX9_houseLine_J68 at hok
    cases hok
    subst hQe; exact W.vret hx hb hr (fun t ht hW => ⟨⟨(), rfl, trivial, by rw [ht]; exact hP, va_K.moved hW.alike hK, hD⟩, hS.F ht⟩) hS.2.2 dX9_houseLine_68
  have J18 : ∀ (vM_18 : Nat → Int32), ∀ (H : Heap) (locs : List Loc) (ls : Array Slot), va_P D vwCl (wX9_houseLine cy aM qM vM_18 vM_fresh vM_tape vM_letters) H → va_D A (wX9_houseLine cy aM qM vM_18 vM_fresh vM_tape vM_letters) → va_S A s.heap H locs → lv_has ls 2 [(0, .ref aM)] → fX9_houseLine_J18 vM_fresh vM_tape vM_letters vM_18 = some (z_vM, z_vM_fresh, z_vM_letters) → W p l e ({ frames := 8, cells := 0, slots := 0, locals := 173 } : Room) s m ([.ref aM] : List Value).toArray below meth c H locs 0 0 Q (F0 m 18 ls []) := by
    intro vM_18 H locs ls hP hD hS hl hok
    unfold fX9_houseLine_J18 at hok
    refine lv_aload_n hx hb dX9_houseLine_18 rfl (lv_at hl 0 rfl) ?_
    refine va_get (D := D) (ci := 8) (v := .int (vM_18 13)) (C := RX9) (T := TX9) (N := 29) hx hb ht0 niX9 hown hK hP 0 rfl rfl 13 (by decide) (ht0 _ wd757) (fun _ h9 => h9) rfl dX9_houseLine_19 ?_
    refine lv_if_eq (tgt := 26) hx hb dX9_houseLine_22 (by decide) (fun c22 => ?_) (fun c22 => ?_)
    · have hok := k_pos c22 hok
      refine lv_aload_n hx hb dX9_houseLine_26 rfl (lv_at hl 0 rfl) ?_
      obtain ⟨⟨vM_27, vM_letters_27⟩, hc27, hok⟩ := k_bind hok
      try dsimp only at hok
      refine kCv (wc := (wX9_next cy aM qM vM_18 vM_tape vM_letters)) (wc2 := (wX9_next cy aM qM vM_27 vM_tape vM_letters_27)) (wr := [(qM 16, rI cy 224 vM_fresh)]) (ws2 := (wX9_houseLine cy aM qM vM_27 vM_fresh vM_tape vM_letters_27)) (kRunV (As := []) (rest := []) ⟨hx, hb, hml, hown, ht0⟩ (kX9_next l D cy _ aM qM vM_18 vM_tape vM_letters vM_27 vM_letters_27 hc27 _ rfl) (cwV 0 ht0 (gV wd766 wd767 wd768 wd744 wd769) rfl rfl rfl (by decide +kernel) ⟨Nat.le_of_ble_eq_true rfl, Nat.le_of_ble_eq_true rfl⟩) hK hN hP hD [0, 2, 3] rfl (by decide) 0 8 rfl rfl rfl hl.1 rfl (Nat.le_of_ble_eq_true rfl) dX9_houseLine_27 ⟨Nat.zero_le _, Nat.zero_le _⟩) hP hD hS hA [0, 2, 3] [1] rfl rfl (by decide) (by decide) [1, 0, 2, 3] (by decide) rfl rfl (fun H locs hP hD hS => ?_)
      refine lv_aload_n hx hb dX9_houseLine_30 rfl (lv_at hl 0 rfl) ?_
      refine va_ldcS (own := RX9) (tx := "cellar") (index := 201) (q := ad.1 4) hx hb hown (hSt.2.1 (RX9, 201, "cellar", 4) (List.mem_of_getElem? (i := 30) rfl)) dX9_houseLine_31 ?_
      refine lv_iconst (v := 1) hx hb dX9_houseLine_33 (by decide) ?_
      refine lv_iconst (v := 5) hx hb dX9_houseLine_34 (by decide) ?_
      obtain ⟨⟨r35, vM_35, vM_letters_35⟩, hc35, hok⟩ := k_bind hok
      try dsimp only at hok
      refine kCi (wc := (wX9_after cy aM qM vM_27 vM_letters_27 vM_tape)) (wc2 := (wX9_after cy aM qM vM_35 vM_letters_35 vM_tape)) (wr := [(qM 16, rI cy 224 vM_fresh)]) (ws2 := (wX9_houseLine cy aM qM vM_35 vM_fresh vM_tape vM_letters_35)) (kRunVS (As := [.ref (ad.1 4), .int 1, .int 5]) (rest := []) ⟨hx, hb, hml, hown, ht0⟩ (kX9_after l D cy ad _ aM qM vM_27 vM_letters_27 vM_tape 4 (1 : Int32) (5 : Int32) r35 vM_35 vM_letters_35 hc35 _ rfl) (cwV 3 ht0 (gV wd806 wd807 wd808 wd744 wd809) rfl rfl rfl (by decide +kernel) ⟨Nat.le_of_ble_eq_true rfl, Nat.le_of_ble_eq_true rfl⟩) hK hN hP hD hSt hS hA [0, 3, 2] rfl (by decide) 0 8 rfl rfl rfl hl.1 rfl (Nat.le_of_ble_eq_true rfl) dX9_houseLine_35 ⟨Nat.zero_le _, Nat.zero_le _⟩) hP hD hS hA [0, 3, 2] [1] rfl rfl (by decide) (by decide) [1, 0, 3, 2] (by decide) rfl rfl (fun H locs hP hD hS => ?_)
      refine lv_istore_n (lv' := [(1, .int r35), (0, .ref aM)]) hx hb dX9_houseLine_38 rfl hl (by decide) rfl (fun ls hl => ?_)
      refine lv_aload_n hx hb dX9_houseLine_39 rfl (lv_at hl 1 rfl) ?_
      refine va_get (D := D) (ci := 8) (v := .ref (qM 16)) (C := RX9) (T := TX9) (N := 29) hx hb ht0 niX9 hown hK hP 0 rfl rfl 16 (by decide) (ht0 _ wd778) (fun _ h9 => h9) rfl dX9_houseLine_40 ?_
      refine lv_iconst (v := 1) hx hb dX9_houseLine_43 (by decide) ?_
      refine lv_aload_n hx hb dX9_houseLine_44 rfl (lv_at hl 1 rfl) ?_
      refine va_ldcS (own := RX9) (tx := "damp") (index := 207) (q := ad.1 5) hx hb hown (hSt.2.1 (RX9, 207, "damp", 5) (List.mem_of_getElem? (i := 31) rfl)) dX9_houseLine_45 ?_
      refine lv_iconst (v := 0) hx hb dX9_houseLine_47 (by decide) ?_
      refine lv_bipush (v := 100) hx hb dX9_houseLine_48 (by decide) ?_
      obtain ⟨⟨r50, vM_50, vM_letters_50⟩, hc50, hok⟩ := k_bind hok
      try dsimp only at hok
      refine kCi (wc := (wX9_after cy aM qM vM_35 vM_letters_35 vM_tape)) (wc2 := (wX9_after cy aM qM vM_50 vM_letters_50 vM_tape)) (wr := [(qM 16, rI cy 224 vM_fresh)]) (ws2 := (wX9_houseLine cy aM qM vM_50 vM_fresh vM_tape vM_letters_50)) (kRunVS (As := [.ref (ad.1 5), .int 0, .int 100]) (rest := [.int 1, .ref (qM 16)]) ⟨hx, hb, hml, hown, ht0⟩ (kX9_after l D cy ad _ aM qM vM_35 vM_letters_35 vM_tape 5 (0 : Int32) (100 : Int32) r50 vM_50 vM_letters_50 hc50 _ rfl) (cwV 3 ht0 (gV wd806 wd807 wd808 wd744 wd809) rfl rfl rfl (by decide +kernel) ⟨Nat.le_of_ble_eq_true rfl, Nat.le_of_ble_eq_true rfl⟩) hK hN hP hD hSt hS hA [0, 3, 2] rfl (by decide) 0 8 rfl rfl rfl hl.1 rfl (Nat.le_of_ble_eq_true rfl) dX9_houseLine_50 ⟨Nat.zero_le _, Nat.zero_le _⟩) hP hD hS hA [0, 3, 2] [1] rfl rfl (by decide) (by decide) [1, 0, 3, 2] (by decide) rfl rfl (fun H locs hP hD hS => ?_)
      obtain ⟨g53, hok⟩ := gd_some hok
      refine va_iast hx hb hK hP hD hS 1 0 rfl rfl (okI_in g53) dX9_houseLine_53 (fun H locs hP hD hS => ?_)
      have hP : va_P D vwCl (wX9_houseLine cy aM qM vM_50 (upd vM_fresh (1 : Int32).toNatClampNeg r50) vM_tape vM_letters_50) H := hP
      have hD : va_D A (wX9_houseLine cy aM qM vM_50 (upd vM_fresh (1 : Int32).toNatClampNeg r50) vM_tape vM_letters_50) := hD
      refine lv_aload_n hx hb dX9_houseLine_54 rfl (lv_at hl 1 rfl) ?_
      refine va_get (D := D) (ci := 8) (v := .int (vM_50 13)) (C := RX9) (T := TX9) (N := 29) hx hb ht0 niX9 hown hK hP 0 rfl rfl 13 (by decide) (ht0 _ wd757) (fun _ h9 => h9) rfl dX9_houseLine_55 ?_
      refine lv_if_ne (tgt := 68) hx hb dX9_houseLine_58 (by decide) (fun c58 => ?_) (fun c58 => ?_)
      · have hok := k_neg c58 hok
        exact J68 (upd vM_fresh (1 : Int32).toNatClampNeg r50) vM_letters_50 vM_50 H locs ls hP hD hS (lv_sub hl [] rfl) hok
      · have hok := k_pos c58 hok
        refine lv_aload_n hx hb dX9_houseLine_61 rfl (lv_at hl 1 rfl) ?_
        refine va_get (D := D) (ci := 8) (v := .ref (qM 16)) (C := RX9) (T := TX9) (N := 29) hx hb ht0 niX9 hown hK hP 0 rfl rfl 16 (by decide) (ht0 _ wd778) (fun _ h9 => h9) rfl dX9_houseLine_62 ?_
        refine lv_iconst (v := 0) hx hb dX9_houseLine_65 (by decide) ?_
        refine lv_iload_n hx hb dX9_houseLine_66 rfl (lv_at hl 0 rfl) ?_
        obtain ⟨g67, hok⟩ := gd_some hok
        refine va_iast hx hb hK hP hD hS 1 0 rfl rfl (okI_in g67) dX9_houseLine_67 (fun H locs hP hD hS => ?_)
        have hP : va_P D vwCl (wX9_houseLine cy aM qM vM_50 (upd (upd vM_fresh (1 : Int32).toNatClampNeg r50) (0 : Int32).toNatClampNeg r35) vM_tape vM_letters_50) H := hP
        have hD : va_D A (wX9_houseLine cy aM qM vM_50 (upd (upd vM_fresh (1 : Int32).toNatClampNeg r50) (0 : Int32).toNatClampNeg r35) vM_tape vM_letters_50) := hD
        exact J68 (upd (upd vM_fresh (1 : Int32).toNatClampNeg r50) (0 : Int32).toNatClampNeg r35) vM_letters_50 vM_50 H locs ls hP hD hS (lv_sub hl [] rfl) hok
    · have hok := k_neg c22 hok
      cases hok
      subst hQe; exact W.vret hx hb hr (fun t ht hW => ⟨⟨(), rfl, trivial, by rw [ht]; exact hP, va_K.moved hW.alike hK, hD⟩, hS.F ht⟩) hS.2.2 dX9_houseLine_25
  unfold fX9_houseLine at hok
  obtain ⟨H, hH⟩ : ∃ H, H = s.heap := ⟨_, rfl⟩
  obtain ⟨locs, hlc⟩ : ∃ x : List Loc, x = [] := ⟨_, rfl⟩
  have hP : va_P D vwCl (wX9_houseLine cy aM qM vM vM_fresh vM_tape vM_letters) H := by rw [hH]; exact hP
  have hS : va_S A s.heap H locs := by rw [hH, hlc]; exact hS
  rw [show W p l e _ s m _ below meth c s.heap [] = W p l e _ s m _ below meth c H locs from by rw [hH, hlc]]
  refine lv_aload_n hx hb dX9_houseLine_0 rfl (lv_at hl 0 rfl) ?_
  refine va_get (D := D) (ci := 8) (v := .ref (qM 16)) (C := RX9) (T := TX9) (N := 29) hx hb ht0 niX9 hown hK hP 0 rfl rfl 16 (by decide) (ht0 _ wd778) (fun _ h9 => h9) rfl dX9_houseLine_1 ?_
  refine lv_iconst (v := 0) hx hb dX9_houseLine_4 (by decide) ?_
  obtain ⟨g5, hok⟩ := gd_some hok
  refine va_iald hx hb hK hP 1 0 rfl rfl (okI_in g5) dX9_houseLine_5 ?_
  refine lv_if_le (tgt := 18) hx hb dX9_houseLine_6 (by decide) (fun c6 => ?_) (fun c6 => ?_)
  · have hok := k_pos c6 hok
    exact J18 vM H locs ls hP hD hS (lv_sub hl [0] rfl) hok
  · have hok := k_neg c6 hok
    refine lv_aload_n hx hb dX9_houseLine_9 rfl (lv_at hl 0 rfl) ?_
    refine lv_iconst (v := 3) hx hb dX9_houseLine_10 (by decide) ?_
    refine lv_aload_n hx hb dX9_houseLine_11 rfl (lv_at hl 0 rfl) ?_
    refine va_get (D := D) (ci := 8) (v := .int (vM 4)) (C := RX9) (T := TX9) (N := 29) hx hb ht0 niX9 hown hK hP 0 rfl rfl 4 (by decide) (ht0 _ wd756) (fun _ h9 => h9) rfl dX9_houseLine_12 ?_
    obtain ⟨vM_15, hc15, hok⟩ := k_bind hok
    refine kCv (wc := (wX9_wrong cy aM qM vM)) (wc2 := (wX9_wrong cy aM qM vM_15)) (wr := [(qM 16, rI cy 224 vM_fresh), (qM 1, rI cy 900 vM_tape), (qM 12, rI cy 8 vM_letters)]) (ws2 := (wX9_houseLine cy aM qM vM_15 vM_fresh vM_tape vM_letters)) (kRunV (As := [.int 3, .int (vM 4)]) (rest := []) ⟨hx, hb, hml, hown, ht0⟩ (kX9_wrong l D cy _ aM qM vM (3 : Int32) (vM 4) vM_15 hc15 _ rfl) (cwV 2 ht0 (gV wd774 wd775 wd776 wd744 wd777) rfl rfl rfl (by decide +kernel) ⟨Nat.le_of_ble_eq_true rfl, Nat.le_of_ble_eq_true rfl⟩) hK hN hP hD [0] rfl (by decide) 0 8 rfl rfl rfl hl.1 rfl (Nat.le_of_ble_eq_true rfl) dX9_houseLine_15 ⟨Nat.zero_le _, Nat.zero_le _⟩) hP hD hS hA [0] [1, 2, 3] rfl rfl (by decide) (by decide) [3, 0, 1, 2] (by decide) rfl rfl (fun H locs hP hD hS => ?_)
    exact J18 vM_15 H locs ls hP hD hS (lv_sub hl [0] rfl) hok
def wsX9_begins : List Cond := .code yX9_begins cX9_begins 3 (some .boolean) :: W0
abbrev wX9_begins (cy : Nat → ClassId) (aM : Nat) (qM : Nat → Nat) (vM : Nat → Int32) (vM_letters : Nat → Int32) (vM_fresh : Nat → Int32) (vM_tape : Nat → Int32) : va_W := [(aM, oX9 vM qM), (qM 12, rI cy 8 vM_letters), (qM 16, rI cy 224 vM_fresh), (qM 1, rI cy 900 vM_tape)]
set_option maxHeartbeats 4000000 in
set_option maxRecDepth 100000 in
theorem kX9_begins (l : Launch) (D : va_G) (cy : Nat → ClassId) (ad : (Nat → Nat) × (Nat → Nat)) (sz : Nat) (aM : Nat) (qM : Nat → Nat) (vM : Nat → Int32) (vM_letters : Nat → Int32) (vM_fresh : Nat → Int32) (vM_tape : Nat → Int32) (x1 : Nat) (x2 : Int32) (zr : Int32) (z_vM : Nat → Int32) (z_vM_letters : Nat → Int32) (hok : fX9_begins vM vM_letters vM_fresh vM_tape x1 x2 = some (zr, z_vM, z_vM_letters)) (A : Nat → Prop) (hAe : va_A (wX9_begins cy aM qM vM vM_letters vM_fresh vM_tape) sz = A) : Met l yX9_begins wsX9_begins ({ frames := 5, cells := 0, slots := 0, locals := 108 } : Room) (kPreS D cy ad [.ref aM, .ref (ad.1 x1), .int x2] (wX9_begins cy aM qM vM vM_letters vM_fresh vM_tape) sz A) (kQi D cy zr A (wX9_begins cy aM qM z_vM z_vM_letters vM_fresh vM_tape)) 0 0 A := by
  refine Met.ofW (cc := cX9_begins) (maxL := 3) (ret := (some .boolean)) (by decide) rfl ?_
  intro p e s m args below meth c s₁ B hml hv
  obtain ⟨rfl, ⟨hsz, hP, hK, hD0, hN⟩, hSt⟩ := hv
  have hx := B.exec
  have hb := B.bytes
  have hr := B.returns
  have ht0 : ∀ w ∈ W0, w.before _ s = true := fun w h => atoms_spec (ws := wsX9_begins) B.pre w (List.mem_cons_of_mem _ h)
  have hown : s.vm.findClass RX9 = some m.cls := findClass_of_methodNamed B.named
  have hlocks := B.notSynchronized
  subst hsz
  have hD : va_D A (wX9_begins cy aM qM vM vM_letters vM_fresh vM_tape) := by rw [← hAe]; exact hD0.self
  have hA : ∀ q : Nat, s.heap.size ≤ q → A q := fun q h => by rw [← hAe]; exact Or.inr h
  have hS : va_S A s.heap s.heap [] := va_S.rf
  have hl := lv_entry ([.ref aM, .ref (ad.1 x1), .int x2]) (n := 3) (Nat.le_of_ble_eq_true rfl)
  rw [lg_entry_eq]
  generalize (lg_sl ([.ref aM, .ref (ad.1 x1), .int x2]) ++ List.replicate (3 - (lg_sl ([.ref aM, .ref (ad.1 x1), .int x2])).length) Slot.unset).toArray = ls at hl ⊢
  have hl : lv_has ls 3 [(0, .ref aM), (1, .ref (ad.1 x1)), (2, .int x2)] := hl
  generalize hQe : MQ below (kQi D cy zr A (wX9_begins cy aM qM z_vM z_vM_letters vM_fresh vM_tape)) ([.ref aM, .ref (ad.1 x1), .int x2] : List Value).toArray s 0 0 A = Q
  have J53 : ∀ (vM_letters_53 : Nat → Int32) (vM_53 : Nat → Int32), ∀ (H : Heap) (locs : List Loc) (ls : Array Slot), va_P D vwCl (wX9_begins cy aM qM vM_53 vM_letters_53 vM_fresh vM_tape) H → va_D A (wX9_begins cy aM qM vM_53 vM_letters_53 vM_fresh vM_tape) → va_S A s.heap H locs → lv_has ls 3 [] → fX9_begins_J53 vM_letters_53 vM_53 = some (zr, z_vM, z_vM_letters) → W p l e ({ frames := 5, cells := 0, slots := 0, locals := 108 } : Room) s m ([.ref aM, .ref (ad.1 x1), .int x2] : List Value).toArray below meth c H locs 0 0 Q (F0 m 53 ls []) := by
    intro vM_letters_53 vM_53 H locs ls hP hD hS hl hok
    unfold fX9_begins_J53 at hok
    refine lv_iconst (v := 1) hx hb dX9_begins_53 (by decide) ?_
    cases hok
    subst hQe; exact W.zret hx hb hr rfl (fun t ht hW => ⟨⟨_, (), rfl, rfl, by rw [ht]; exact hP, va_K.moved hW.alike hK, hD⟩, hS.F ht⟩) hS.2.2 dX9_begins_54
  have J42 : ∀ (vM_42 : Nat → Int32), ∀ (H : Heap) (locs : List Loc) (ls : Array Slot), va_P D vwCl (wX9_begins cy aM qM vM_42 vM_letters vM_fresh vM_tape) H → va_D A (wX9_begins cy aM qM vM_42 vM_letters vM_fresh vM_tape) → va_S A s.heap H locs → lv_has ls 3 [(0, .ref aM)] → fX9_begins_J42 vM_letters vM_tape vM_42 = some (zr, z_vM, z_vM_letters) → W p l e ({ frames := 5, cells := 0, slots := 0, locals := 108 } : Room) s m ([.ref aM, .ref (ad.1 x1), .int x2] : List Value).toArray below meth c H locs 0 0 Q (F0 m 42 ls []) := by
    intro vM_42 H locs ls hP hD hS hl hok
    unfold fX9_begins_J42 at hok
    refine lv_aload_n hx hb dX9_begins_42 rfl (lv_at hl 0 rfl) ?_
    refine va_get (D := D) (ci := 8) (v := .int (vM_42 13)) (C := RX9) (T := TX9) (N := 29) hx hb ht0 niX9 hown hK hP 0 rfl rfl 13 (by decide) (ht0 _ wd757) (fun _ h9 => h9) rfl dX9_begins_43 ?_
    refine lv_if_ne (tgt := 53) hx hb dX9_begins_46 (by decide) (fun c46 => ?_) (fun c46 => ?_)
    · have hok := k_neg c46 hok
      exact J53 vM_letters vM_42 H locs ls hP hD hS (lv_sub hl [] rfl) hok
    · have hok := k_pos c46 hok
      refine lv_aload_n hx hb dX9_begins_49 rfl (lv_at hl 0 rfl) ?_
      obtain ⟨⟨vM_50, vM_letters_50⟩, hc50, hok⟩ := k_bind hok
      try dsimp only at hok
      refine kCv (wc := (wX9_next cy aM qM vM_42 vM_tape vM_letters)) (wc2 := (wX9_next cy aM qM vM_50 vM_tape vM_letters_50)) (wr := [(qM 16, rI cy 224 vM_fresh)]) (ws2 := (wX9_begins cy aM qM vM_50 vM_letters_50 vM_fresh vM_tape)) (kRunV (As := []) (rest := []) ⟨hx, hb, hml, hown, ht0⟩ (kX9_next l D cy _ aM qM vM_42 vM_tape vM_letters vM_50 vM_letters_50 hc50 _ rfl) (cwV 0 ht0 (gV wd766 wd767 wd768 wd744 wd769) rfl rfl rfl (by decide +kernel) ⟨Nat.le_of_ble_eq_true rfl, Nat.le_of_ble_eq_true rfl⟩) hK hN hP hD [0, 3, 1] rfl (by decide) 0 8 rfl rfl rfl hl.1 rfl (Nat.le_of_ble_eq_true rfl) dX9_begins_50 ⟨Nat.zero_le _, Nat.zero_le _⟩) hP hD hS hA [0, 3, 1] [2] rfl rfl (by decide) (by decide) [1, 3, 0, 2] (by decide) rfl rfl (fun H locs hP hD hS => ?_)
      exact J53 vM_letters_50 vM_50 H locs ls hP hD hS (lv_sub hl [] rfl) hok
  have J23 : ∀ (vM_23 : Nat → Int32), ∀ (H : Heap) (locs : List Loc) (ls : Array Slot), va_P D vwCl (wX9_begins cy aM qM vM_23 vM_letters vM_fresh vM_tape) H → va_D A (wX9_begins cy aM qM vM_23 vM_letters vM_fresh vM_tape) → va_S A s.heap H locs → lv_has ls 3 [(0, .ref aM)] → fX9_begins_J23 vM_letters vM_fresh vM_tape vM_23 = some (zr, z_vM, z_vM_letters) → W p l e ({ frames := 5, cells := 0, slots := 0, locals := 108 } : Room) s m ([.ref aM, .ref (ad.1 x1), .int x2] : List Value).toArray below meth c H locs 0 0 Q (F0 m 23 ls []) := by
    intro vM_23 H locs ls hP hD hS hl hok
    unfold fX9_begins_J23 at hok
    refine lv_aload_n hx hb dX9_begins_23 rfl (lv_at hl 0 rfl) ?_
    refine va_get (D := D) (ci := 8) (v := .ref (qM 16)) (C := RX9) (T := TX9) (N := 29) hx hb ht0 niX9 hown hK hP 0 rfl rfl 16 (by decide) (ht0 _ wd778) (fun _ h9 => h9) rfl dX9_begins_24 ?_
    refine lv_iconst (v := 0) hx hb dX9_begins_27 (by decide) ?_
    obtain ⟨g28, hok⟩ := gd_some hok
    refine va_iald hx hb hK hP 2 0 rfl rfl (okI_in g28) dX9_begins_28 ?_
    refine lv_if_ne (tgt := 42) hx hb dX9_begins_29 (by decide) (fun c29 => ?_) (fun c29 => ?_)
    · have hok := k_neg c29 hok
      exact J42 vM_23 H locs ls hP hD hS (lv_sub hl [0] rfl) hok
    · have hok := k_pos c29 hok
      refine lv_aload_n hx hb dX9_begins_32 rfl (lv_at hl 0 rfl) ?_
      refine lv_bipush (v := 6) hx hb dX9_begins_33 (by decide) ?_
      refine lv_aload_n hx hb dX9_begins_35 rfl (lv_at hl 0 rfl) ?_
      refine va_get (D := D) (ci := 8) (v := .int (vM_23 4)) (C := RX9) (T := TX9) (N := 29) hx hb ht0 niX9 hown hK hP 0 rfl rfl 4 (by decide) (ht0 _ wd756) (fun _ h9 => h9) rfl dX9_begins_36 ?_
      obtain ⟨vM_39, hc39, hok⟩ := k_bind hok
      refine kCv (wc := (wX9_wrong cy aM qM vM_23)) (wc2 := (wX9_wrong cy aM qM vM_39)) (wr := [(qM 12, rI cy 8 vM_letters), (qM 16, rI cy 224 vM_fresh), (qM 1, rI cy 900 vM_tape)]) (ws2 := (wX9_begins cy aM qM vM_39 vM_letters vM_fresh vM_tape)) (kRunV (As := [.int 6, .int (vM_23 4)]) (rest := []) ⟨hx, hb, hml, hown, ht0⟩ (kX9_wrong l D cy _ aM qM vM_23 (6 : Int32) (vM_23 4) vM_39 hc39 _ rfl) (cwV 2 ht0 (gV wd774 wd775 wd776 wd744 wd777) rfl rfl rfl (by decide +kernel) ⟨Nat.le_of_ble_eq_true rfl, Nat.le_of_ble_eq_true rfl⟩) hK hN hP hD [0] rfl (by decide) 0 8 rfl rfl rfl hl.1 rfl (Nat.le_of_ble_eq_true rfl) dX9_begins_39 ⟨Nat.zero_le _, Nat.zero_le _⟩) hP hD hS hA [0] [1, 2, 3] rfl rfl (by decide) (by decide) [3, 0, 1, 2] (by decide) rfl rfl (fun H locs hP hD hS => ?_)
      exact J42 vM_39 H locs ls hP hD hS (lv_sub hl [0] rfl) hok
  unfold fX9_begins at hok
  obtain ⟨H, hH⟩ : ∃ H, H = s.heap := ⟨_, rfl⟩
  obtain ⟨locs, hlc⟩ : ∃ x : List Loc, x = [] := ⟨_, rfl⟩
  have hP : va_P D vwCl (wX9_begins cy aM qM vM vM_letters vM_fresh vM_tape) H := by rw [hH]; exact hP
  have hS : va_S A s.heap H locs := by rw [hH, hlc]; exact hS
  rw [show W p l e _ s m _ below meth c s.heap [] = W p l e _ s m _ below meth c H locs from by rw [hH, hlc]]
  refine lv_aload_n hx hb dX9_begins_0 rfl (lv_at hl 0 rfl) ?_
  refine lv_aload_n hx hb dX9_begins_1 rfl (lv_at hl 1 rfl) ?_
  obtain ⟨r2, hc2, hok⟩ := k_bind hok
  refine kCi (wc := (wX9_isWord cy aM qM vM vM_letters)) (wc2 := (wX9_isWord cy aM qM vM vM_letters)) (wr := [(qM 16, rI cy 224 vM_fresh), (qM 1, rI cy 900 vM_tape)]) (ws2 := (wX9_begins cy aM qM vM vM_letters vM_fresh vM_tape)) (kRunVS (As := [.ref (ad.1 x1)]) (rest := []) ⟨hx, hb, hml, hown, ht0⟩ (kX9_isWord l D cy ad _ aM qM vM vM_letters x1 r2 hc2 _ rfl) (cwV 1 ht0 (gV wd762 wd763 wd764 wd744 wd765) rfl rfl rfl (by decide +kernel) ⟨Nat.le_of_ble_eq_true rfl, Nat.le_of_ble_eq_true rfl⟩) hK hN hP hD hSt hS hA [0, 1] rfl (by decide) 0 8 rfl rfl rfl hl.1 rfl (Nat.le_of_ble_eq_true rfl) dX9_begins_2 ⟨Nat.zero_le _, Nat.zero_le _⟩) hP hD hS hA [0, 1] [2, 3] rfl rfl (by decide) (by decide) [2, 3, 0, 1] (by decide) rfl rfl (fun H locs hP hD hS => ?_)
  refine lv_if_ne (tgt := 10) hx hb dX9_begins_5 (by decide) (fun c5 => ?_) (fun c5 => ?_)
  · have hok := k_neg c5 hok
    refine lv_iload_n hx hb dX9_begins_10 rfl (lv_at hl 2 rfl) ?_
    refine lv_if_ne (tgt := 23) hx hb dX9_begins_11 (by decide) (fun c11 => ?_) (fun c11 => ?_)
    · have hok := k_neg c11 hok
      exact J23 vM H locs ls hP hD hS (lv_sub hl [0] rfl) hok
    · have hok := k_pos c11 hok
      refine lv_aload_n hx hb dX9_begins_14 rfl (lv_at hl 0 rfl) ?_
      refine lv_iconst (v := 5) hx hb dX9_begins_15 (by decide) ?_
      refine lv_aload_n hx hb dX9_begins_16 rfl (lv_at hl 0 rfl) ?_
      refine va_get (D := D) (ci := 8) (v := .int (vM 4)) (C := RX9) (T := TX9) (N := 29) hx hb ht0 niX9 hown hK hP 0 rfl rfl 4 (by decide) (ht0 _ wd756) (fun _ h9 => h9) rfl dX9_begins_17 ?_
      obtain ⟨vM_20, hc20, hok⟩ := k_bind hok
      refine kCv (wc := (wX9_wrong cy aM qM vM)) (wc2 := (wX9_wrong cy aM qM vM_20)) (wr := [(qM 12, rI cy 8 vM_letters), (qM 16, rI cy 224 vM_fresh), (qM 1, rI cy 900 vM_tape)]) (ws2 := (wX9_begins cy aM qM vM_20 vM_letters vM_fresh vM_tape)) (kRunV (As := [.int 5, .int (vM 4)]) (rest := []) ⟨hx, hb, hml, hown, ht0⟩ (kX9_wrong l D cy _ aM qM vM (5 : Int32) (vM 4) vM_20 hc20 _ rfl) (cwV 2 ht0 (gV wd774 wd775 wd776 wd744 wd777) rfl rfl rfl (by decide +kernel) ⟨Nat.le_of_ble_eq_true rfl, Nat.le_of_ble_eq_true rfl⟩) hK hN hP hD [0] rfl (by decide) 0 8 rfl rfl rfl hl.1 rfl (Nat.le_of_ble_eq_true rfl) dX9_begins_20 ⟨Nat.zero_le _, Nat.zero_le _⟩) hP hD hS hA [0] [1, 2, 3] rfl rfl (by decide) (by decide) [3, 0, 1, 2] (by decide) rfl rfl (fun H locs hP hD hS => ?_)
      exact J23 vM_20 H locs ls hP hD hS (lv_sub hl [0] rfl) hok
  · have hok := k_pos c5 hok
    refine lv_iconst (v := 0) hx hb dX9_begins_8 (by decide) ?_
    cases hok
    subst hQe; exact W.zret hx hb hr rfl (fun t ht hW => ⟨⟨_, (), rfl, rfl, by rw [ht]; exact hP, va_K.moved hW.alike hK, hD⟩, hS.F ht⟩) hS.2.2 dX9_begins_9
def wsX9_ringLine : List Cond := .code yX9_ringLine cX9_ringLine 3 none :: W0
abbrev wX9_ringLine (cy : Nat → ClassId) (aM : Nat) (qM : Nat → Nat) (vM : Nat → Int32) (vM_fresh : Nat → Int32) (vM_letters : Nat → Int32) (vM_tape : Nat → Int32) : va_W := [(aM, oX9 vM qM), (qM 16, rI cy 224 vM_fresh), (qM 12, rI cy 8 vM_letters), (qM 1, rI cy 900 vM_tape)]
set_option maxHeartbeats 4000000 in
set_option maxRecDepth 100000 in
theorem kX9_ringLine (l : Launch) (D : va_G) (cy : Nat → ClassId) (ad : (Nat → Nat) × (Nat → Nat)) (sz : Nat) (aM : Nat) (qM : Nat → Nat) (vM : Nat → Int32) (vM_fresh : Nat → Int32) (vM_letters : Nat → Int32) (vM_tape : Nat → Int32) (z_vM : Nat → Int32) (z_vM_fresh : Nat → Int32) (z_vM_letters : Nat → Int32) (hok : fX9_ringLine vM vM_fresh vM_letters vM_tape = some (z_vM, z_vM_fresh, z_vM_letters)) (A : Nat → Prop) (hAe : va_A (wX9_ringLine cy aM qM vM vM_fresh vM_letters vM_tape) sz = A) : Met l yX9_ringLine wsX9_ringLine ({ frames := 8, cells := 0, slots := 0, locals := 173 } : Room) (kPreS D cy ad [.ref aM] (wX9_ringLine cy aM qM vM vM_fresh vM_letters vM_tape) sz A) (kQv D cy A (wX9_ringLine cy aM qM z_vM z_vM_fresh z_vM_letters vM_tape)) 0 0 A := by
  refine Met.ofW (cc := cX9_ringLine) (maxL := 3) (ret := none) (by decide) rfl ?_
  intro p e s m args below meth c s₁ B hml hv
  obtain ⟨rfl, ⟨hsz, hP, hK, hD0, hN⟩, hSt⟩ := hv
  have hx := B.exec
  have hb := B.bytes
  have hr := B.returns
  have ht0 : ∀ w ∈ W0, w.before _ s = true := fun w h => atoms_spec (ws := wsX9_ringLine) B.pre w (List.mem_cons_of_mem _ h)
  have hown : s.vm.findClass RX9 = some m.cls := findClass_of_methodNamed B.named
  have hlocks := B.notSynchronized
  subst hsz
  have hD : va_D A (wX9_ringLine cy aM qM vM vM_fresh vM_letters vM_tape) := by rw [← hAe]; exact hD0.self
  have hA : ∀ q : Nat, s.heap.size ≤ q → A q := fun q h => by rw [← hAe]; exact Or.inr h
  have hS : va_S A s.heap s.heap [] := va_S.rf
  have hl := lv_entry ([.ref aM]) (n := 3) (Nat.le_of_ble_eq_true rfl)
  rw [lg_entry_eq]
  generalize (lg_sl ([.ref aM]) ++ List.replicate (3 - (lg_sl ([.ref aM])).length) Slot.unset).toArray = ls at hl ⊢
  have hl : lv_has ls 3 [(0, .ref aM)] := hl
  generalize hQe : MQ below (kQv D cy A (wX9_ringLine cy aM qM z_vM z_vM_fresh z_vM_letters vM_tape)) ([.ref aM] : List Value).toArray s 0 0 A = Q
  have J137 : ∀ (vM_fresh_137 : Nat → Int32) (vM_letters_137 : Nat → Int32) (vM_137 : Nat → Int32), ∀ (H : Heap) (locs : List Loc) (ls : Array Slot), va_P D vwCl (wX9_ringLine cy aM qM vM_137 vM_fresh_137 vM_letters_137 vM_tape) H → va_D A (wX9_ringLine cy aM qM vM_137 vM_fresh_137 vM_letters_137 vM_tape) → va_S A s.heap H locs → lv_has ls 3 [] → fX9_ringLine_J137 vM_fresh_137 vM_letters_137 vM_137 = some (z_vM, z_vM_fresh, z_vM_letters) → W p l e ({ frames := 8, cells := 0, slots := 0, locals := 173 } : Room) s m ([.ref aM] : List Value).toArray below meth c H locs 0 0 Q (F0 m 137 ls []) := by
    intro vM_fresh_137 vM_letters_137 vM_137 H locs ls hP hD hS hl hok
    unfold fX9_ringLine_J137 at hok
    cases hok
    subst hQe; exact W.vret hx hb hr (fun t ht hW => ⟨⟨(), rfl, trivial, by rw [ht]; exact hP, va_K.moved hW.alike hK, hD⟩, hS.F ht⟩) hS.2.2 dX9_ringLine_137
  have J84 : ∀ (y2_84 : Int32) (vM_fresh_84 : Nat → Int32) (vM_letters_84 : Nat → Int32) (vM_84 : Nat → Int32), ∀ (H : Heap) (locs : List Loc) (ls : Array Slot), va_P D vwCl (wX9_ringLine cy aM qM vM_84 vM_fresh_84 vM_letters_84 vM_tape) H → va_D A (wX9_ringLine cy aM qM vM_84 vM_fresh_84 vM_letters_84 vM_tape) → va_S A s.heap H locs → lv_has ls 3 [(0, .ref aM), (1, .int ((8 : Int32) + ((2 : Int32) * (vM_fresh (2 : Int32).toNatClampNeg)))), (2, .int y2_84)] → fX9_ringLine_J84 vM_fresh vM_tape y2_84 vM_fresh_84 vM_letters_84 vM_84 = some (z_vM, z_vM_fresh, z_vM_letters) → W p l e ({ frames := 8, cells := 0, slots := 0, locals := 173 } : Room) s m ([.ref aM] : List Value).toArray below meth c H locs 0 0 Q (F0 m 84 ls []) := by
    intro y2_84 vM_fresh_84 vM_letters_84 vM_84 H locs ls hP hD hS hl hok
    unfold fX9_ringLine_J84 at hok
    refine lv_aload_n hx hb dX9_ringLine_84 rfl (lv_at hl 0 rfl) ?_
    refine va_get (D := D) (ci := 8) (v := .int (vM_84 13)) (C := RX9) (T := TX9) (N := 29) hx hb ht0 niX9 hown hK hP 0 rfl rfl 13 (by decide) (ht0 _ wd757) (fun _ h9 => h9) rfl dX9_ringLine_85 ?_
    refine lv_if_eq (tgt := 92) hx hb dX9_ringLine_88 (by decide) (fun c88 => ?_) (fun c88 => ?_)
    · have hok := k_pos c88 hok
      refine lv_aload_n hx hb dX9_ringLine_92 rfl (lv_at hl 0 rfl) ?_
      obtain ⟨⟨vM_93, vM_letters_93⟩, hc93, hok⟩ := k_bind hok
      try dsimp only at hok
      refine kCv (wc := (wX9_next cy aM qM vM_84 vM_tape vM_letters_84)) (wc2 := (wX9_next cy aM qM vM_93 vM_tape vM_letters_93)) (wr := [(qM 16, rI cy 224 vM_fresh_84)]) (ws2 := (wX9_ringLine cy aM qM vM_93 vM_fresh_84 vM_letters_93 vM_tape)) (kRunV (As := []) (rest := []) ⟨hx, hb, hml, hown, ht0⟩ (kX9_next l D cy _ aM qM vM_84 vM_tape vM_letters_84 vM_93 vM_letters_93 hc93 _ rfl) (cwV 0 ht0 (gV wd766 wd767 wd768 wd744 wd769) rfl rfl rfl (by decide +kernel) ⟨Nat.le_of_ble_eq_true rfl, Nat.le_of_ble_eq_true rfl⟩) hK hN hP hD [0, 3, 2] rfl (by decide) 0 8 rfl rfl rfl hl.1 rfl (Nat.le_of_ble_eq_true rfl) dX9_ringLine_93 ⟨Nat.zero_le _, Nat.zero_le _⟩) hP hD hS hA [0, 3, 2] [1] rfl rfl (by decide) (by decide) [1, 0, 3, 2] (by decide) rfl rfl (fun H locs hP hD hS => ?_)
      refine lv_aload_n hx hb dX9_ringLine_96 rfl (lv_at hl 0 rfl) ?_
      refine va_get (D := D) (ci := 8) (v := .ref (qM 16)) (C := RX9) (T := TX9) (N := 29) hx hb ht0 niX9 hown hK hP 0 rfl rfl 16 (by decide) (ht0 _ wd778) (fun _ h9 => h9) rfl dX9_ringLine_97 ?_
      refine lv_iload_n hx hb dX9_ringLine_100 rfl (lv_at hl 1 rfl) ?_
      refine lv_iload_n hx hb dX9_ringLine_101 rfl (lv_at hl 2 rfl) ?_
      obtain ⟨g102, hok⟩ := gd_some hok
      refine va_iast hx hb hK hP hD hS 1 0 rfl rfl (okI_in g102) dX9_ringLine_102 (fun H locs hP hD hS => ?_)
      have hP : va_P D vwCl (wX9_ringLine cy aM qM vM_93 (upd vM_fresh_84 ((8 : Int32) + ((2 : Int32) * (vM_fresh (2 : Int32).toNatClampNeg))).toNatClampNeg y2_84) vM_letters_93 vM_tape) H := hP
      have hD : va_D A (wX9_ringLine cy aM qM vM_93 (upd vM_fresh_84 ((8 : Int32) + ((2 : Int32) * (vM_fresh (2 : Int32).toNatClampNeg))).toNatClampNeg y2_84) vM_letters_93 vM_tape) := hD
      refine lv_aload_n hx hb dX9_ringLine_103 rfl (lv_at hl 0 rfl) ?_
      refine va_get (D := D) (ci := 8) (v := .ref (qM 16)) (C := RX9) (T := TX9) (N := 29) hx hb ht0 niX9 hown hK hP 0 rfl rfl 16 (by decide) (ht0 _ wd778) (fun _ h9 => h9) rfl dX9_ringLine_104 ?_
      refine lv_iload_n hx hb dX9_ringLine_107 rfl (lv_at hl 1 rfl) ?_
      refine lv_iconst (v := 1) hx hb dX9_ringLine_108 (by decide) ?_
      refine lv_iadd hx hb dX9_ringLine_109 ?_
      refine lv_aload_n hx hb dX9_ringLine_110 rfl (lv_at hl 0 rfl) ?_
      refine va_ldcS (own := RX9) (tx := "places") (index := 216) (q := ad.1 16) hx hb hown (hSt.2.1 (RX9, 216, "places", 16) (List.mem_of_getElem? (i := 34) rfl)) dX9_ringLine_111 ?_
      refine lv_iconst (v := 2) hx hb dX9_ringLine_113 (by decide) ?_
      refine lv_bipush (v := 9) hx hb dX9_ringLine_114 (by decide) ?_
      obtain ⟨⟨r116, vM_116, vM_letters_116⟩, hc116, hok⟩ := k_bind hok
      try dsimp only at hok
      refine kCi (wc := (wX9_after cy aM qM vM_93 vM_letters_93 vM_tape)) (wc2 := (wX9_after cy aM qM vM_116 vM_letters_116 vM_tape)) (wr := [(qM 16, rI cy 224 (upd vM_fresh_84 ((8 : Int32) + ((2 : Int32) * (vM_fresh (2 : Int32).toNatClampNeg))).toNatClampNeg y2_84))]) (ws2 := (wX9_ringLine cy aM qM vM_116 (upd vM_fresh_84 ((8 : Int32) + ((2 : Int32) * (vM_fresh (2 : Int32).toNatClampNeg))).toNatClampNeg y2_84) vM_letters_116 vM_tape)) (kRunVS (As := [.ref (ad.1 16), .int 2, .int 9]) (rest := [.int (((8 : Int32) + ((2 : Int32) * (vM_fresh (2 : Int32).toNatClampNeg))) + (1 : Int32)), .ref (qM 16)]) ⟨hx, hb, hml, hown, ht0⟩ (kX9_after l D cy ad _ aM qM vM_93 vM_letters_93 vM_tape 16 (2 : Int32) (9 : Int32) r116 vM_116 vM_letters_116 hc116 _ rfl) (cwV 3 ht0 (gV wd806 wd807 wd808 wd744 wd809) rfl rfl rfl (by decide +kernel) ⟨Nat.le_of_ble_eq_true rfl, Nat.le_of_ble_eq_true rfl⟩) hK hN hP hD hSt hS hA [0, 2, 3] rfl (by decide) 0 8 rfl rfl rfl hl.1 rfl (Nat.le_of_ble_eq_true rfl) dX9_ringLine_116 ⟨Nat.zero_le _, Nat.zero_le _⟩) hP hD hS hA [0, 2, 3] [1] rfl rfl (by decide) (by decide) [1, 0, 2, 3] (by decide) rfl rfl (fun H locs hP hD hS => ?_)
      obtain ⟨g119, hok⟩ := gd_some hok
      refine va_iast hx hb hK hP hD hS 1 0 rfl rfl (okI_in g119) dX9_ringLine_119 (fun H locs hP hD hS => ?_)
      have hP : va_P D vwCl (wX9_ringLine cy aM qM vM_116 (upd (upd vM_fresh_84 ((8 : Int32) + ((2 : Int32) * (vM_fresh (2 : Int32).toNatClampNeg))).toNatClampNeg y2_84) (((8 : Int32) + ((2 : Int32) * (vM_fresh (2 : Int32).toNatClampNeg))) + (1 : Int32)).toNatClampNeg r116) vM_letters_116 vM_tape) H := hP
      have hD : va_D A (wX9_ringLine cy aM qM vM_116 (upd (upd vM_fresh_84 ((8 : Int32) + ((2 : Int32) * (vM_fresh (2 : Int32).toNatClampNeg))).toNatClampNeg y2_84) (((8 : Int32) + ((2 : Int32) * (vM_fresh (2 : Int32).toNatClampNeg))) + (1 : Int32)).toNatClampNeg r116) vM_letters_116 vM_tape) := hD
      refine lv_aload_n hx hb dX9_ringLine_120 rfl (lv_at hl 0 rfl) ?_
      refine va_get (D := D) (ci := 8) (v := .int (vM_116 13)) (C := RX9) (T := TX9) (N := 29) hx hb ht0 niX9 hown hK hP 0 rfl rfl 13 (by decide) (ht0 _ wd757) (fun _ h9 => h9) rfl dX9_ringLine_121 ?_
      refine lv_if_ne (tgt := 137) hx hb dX9_ringLine_124 (by decide) (fun c124 => ?_) (fun c124 => ?_)
      · have hok := k_neg c124 hok
        exact J137 (upd (upd vM_fresh_84 ((8 : Int32) + ((2 : Int32) * (vM_fresh (2 : Int32).toNatClampNeg))).toNatClampNeg y2_84) (((8 : Int32) + ((2 : Int32) * (vM_fresh (2 : Int32).toNatClampNeg))) + (1 : Int32)).toNatClampNeg r116) vM_letters_116 vM_116 H locs ls hP hD hS (lv_sub hl [] rfl) hok
      · have hok := k_pos c124 hok
        refine lv_aload_n hx hb dX9_ringLine_127 rfl (lv_at hl 0 rfl) ?_
        refine va_get (D := D) (ci := 8) (v := .ref (qM 16)) (C := RX9) (T := TX9) (N := 29) hx hb ht0 niX9 hown hK hP 0 rfl rfl 16 (by decide) (ht0 _ wd778) (fun _ h9 => h9) rfl dX9_ringLine_128 ?_
        refine lv_iconst (v := 2) hx hb dX9_ringLine_131 (by decide) ?_
        refine lv_dup2_11 hx hb dX9_ringLine_132 rfl rfl ?_
        obtain ⟨g133, hok⟩ := gd_some hok
        refine va_iald hx hb hK hP 1 0 rfl rfl (okI_in g133) dX9_ringLine_133 ?_
        refine lv_iconst (v := 1) hx hb dX9_ringLine_134 (by decide) ?_
        refine lv_iadd hx hb dX9_ringLine_135 ?_
        obtain ⟨g136, hok⟩ := gd_some hok
        refine va_iast hx hb hK hP hD hS 1 0 rfl rfl (okI_in g136) dX9_ringLine_136 (fun H locs hP hD hS => ?_)
        have hP : va_P D vwCl (wX9_ringLine cy aM qM vM_116 (upd (upd (upd vM_fresh_84 ((8 : Int32) + ((2 : Int32) * (vM_fresh (2 : Int32).toNatClampNeg))).toNatClampNeg y2_84) (((8 : Int32) + ((2 : Int32) * (vM_fresh (2 : Int32).toNatClampNeg))) + (1 : Int32)).toNatClampNeg r116) (2 : Int32).toNatClampNeg (((upd (upd vM_fresh_84 ((8 : Int32) + ((2 : Int32) * (vM_fresh (2 : Int32).toNatClampNeg))).toNatClampNeg y2_84) (((8 : Int32) + ((2 : Int32) * (vM_fresh (2 : Int32).toNatClampNeg))) + (1 : Int32)).toNatClampNeg r116) (2 : Int32).toNatClampNeg) + (1 : Int32))) vM_letters_116 vM_tape) H := hP
        have hD : va_D A (wX9_ringLine cy aM qM vM_116 (upd (upd (upd vM_fresh_84 ((8 : Int32) + ((2 : Int32) * (vM_fresh (2 : Int32).toNatClampNeg))).toNatClampNeg y2_84) (((8 : Int32) + ((2 : Int32) * (vM_fresh (2 : Int32).toNatClampNeg))) + (1 : Int32)).toNatClampNeg r116) (2 : Int32).toNatClampNeg (((upd (upd vM_fresh_84 ((8 : Int32) + ((2 : Int32) * (vM_fresh (2 : Int32).toNatClampNeg))).toNatClampNeg y2_84) (((8 : Int32) + ((2 : Int32) * (vM_fresh (2 : Int32).toNatClampNeg))) + (1 : Int32)).toNatClampNeg r116) (2 : Int32).toNatClampNeg) + (1 : Int32))) vM_letters_116 vM_tape) := hD
        exact J137 (upd (upd (upd vM_fresh_84 ((8 : Int32) + ((2 : Int32) * (vM_fresh (2 : Int32).toNatClampNeg))).toNatClampNeg y2_84) (((8 : Int32) + ((2 : Int32) * (vM_fresh (2 : Int32).toNatClampNeg))) + (1 : Int32)).toNatClampNeg r116) (2 : Int32).toNatClampNeg (((upd (upd vM_fresh_84 ((8 : Int32) + ((2 : Int32) * (vM_fresh (2 : Int32).toNatClampNeg))).toNatClampNeg y2_84) (((8 : Int32) + ((2 : Int32) * (vM_fresh (2 : Int32).toNatClampNeg))) + (1 : Int32)).toNatClampNeg r116) (2 : Int32).toNatClampNeg) + (1 : Int32))) vM_letters_116 vM_116 H locs ls hP hD hS (lv_sub hl [] rfl) hok
    · have hok := k_neg c88 hok
      cases hok
      subst hQe; exact W.vret hx hb hr (fun t ht hW => ⟨⟨(), rfl, trivial, by rw [ht]; exact hP, va_K.moved hW.alike hK, hD⟩, hS.F ht⟩) hS.2.2 dX9_ringLine_91
  have J70 : ∀ (t0_70 : Int32) (vM_fresh_70 : Nat → Int32) (vM_letters_70 : Nat → Int32) (vM_70 : Nat → Int32), ∀ (H : Heap) (locs : List Loc) (ls : Array Slot), va_P D vwCl (wX9_ringLine cy aM qM vM_70 vM_fresh_70 vM_letters_70 vM_tape) H → va_D A (wX9_ringLine cy aM qM vM_70 vM_fresh_70 vM_letters_70 vM_tape) → va_S A s.heap H locs → lv_has ls 3 [(0, .ref aM), (1, .int ((8 : Int32) + ((2 : Int32) * (vM_fresh (2 : Int32).toNatClampNeg))))] → fX9_ringLine_J70 vM_fresh vM_tape t0_70 vM_fresh_70 vM_letters_70 vM_70 = some (z_vM, z_vM_fresh, z_vM_letters) → W p l e ({ frames := 8, cells := 0, slots := 0, locals := 173 } : Room) s m ([.ref aM] : List Value).toArray below meth c H locs 0 0 Q (F0 m 70 ls [.int t0_70]) := by
    intro t0_70 vM_fresh_70 vM_letters_70 vM_70 H locs ls hP hD hS hl hok
    unfold fX9_ringLine_J70 at hok
    refine lv_istore_n (lv' := [(2, .int t0_70), (0, .ref aM), (1, .int ((8 : Int32) + ((2 : Int32) * (vM_fresh (2 : Int32).toNatClampNeg))))]) hx hb dX9_ringLine_70 rfl hl (by decide) rfl (fun ls hl => ?_)
    refine lv_iload_n hx hb dX9_ringLine_71 rfl (lv_at hl 0 rfl) ?_
    refine lv_if_ge (tgt := 84) hx hb dX9_ringLine_72 (by decide) (fun c72 => ?_) (fun c72 => ?_)
    · have hok := k_pos c72 hok
      exact J84 t0_70 vM_fresh_70 vM_letters_70 vM_70 H locs ls hP hD hS (lv_sub hl [1, 2, 0] rfl) hok
    · have hok := k_neg c72 hok
      refine lv_aload_n hx hb dX9_ringLine_75 rfl (lv_at hl 1 rfl) ?_
      refine lv_iconst (v := 1) hx hb dX9_ringLine_76 (by decide) ?_
      refine lv_aload_n hx hb dX9_ringLine_77 rfl (lv_at hl 1 rfl) ?_
      refine va_get (D := D) (ci := 8) (v := .int (vM_70 4)) (C := RX9) (T := TX9) (N := 29) hx hb ht0 niX9 hown hK hP 0 rfl rfl 4 (by decide) (ht0 _ wd756) (fun _ h9 => h9) rfl dX9_ringLine_78 ?_
      obtain ⟨vM_81, hc81, hok⟩ := k_bind hok
      refine kCv (wc := (wX9_wrong cy aM qM vM_70)) (wc2 := (wX9_wrong cy aM qM vM_81)) (wr := [(qM 16, rI cy 224 vM_fresh_70), (qM 12, rI cy 8 vM_letters_70), (qM 1, rI cy 900 vM_tape)]) (ws2 := (wX9_ringLine cy aM qM vM_81 vM_fresh_70 vM_letters_70 vM_tape)) (kRunV (As := [.int 1, .int (vM_70 4)]) (rest := []) ⟨hx, hb, hml, hown, ht0⟩ (kX9_wrong l D cy _ aM qM vM_70 (1 : Int32) (vM_70 4) vM_81 hc81 _ rfl) (cwV 2 ht0 (gV wd774 wd775 wd776 wd744 wd777) rfl rfl rfl (by decide +kernel) ⟨Nat.le_of_ble_eq_true rfl, Nat.le_of_ble_eq_true rfl⟩) hK hN hP hD [0] rfl (by decide) 0 8 rfl rfl rfl hl.1 rfl (Nat.le_of_ble_eq_true rfl) dX9_ringLine_81 ⟨Nat.zero_le _, Nat.zero_le _⟩) hP hD hS hA [0] [1, 2, 3] rfl rfl (by decide) (by decide) [3, 0, 1, 2] (by decide) rfl rfl (fun H locs hP hD hS => ?_)
      exact J84 t0_70 vM_fresh_70 vM_letters_70 vM_81 H locs ls hP hD hS (lv_sub hl [1, 2, 0] rfl) hok
  unfold fX9_ringLine at hok
  obtain ⟨H, hH⟩ : ∃ H, H = s.heap := ⟨_, rfl⟩
  obtain ⟨locs, hlc⟩ : ∃ x : List Loc, x = [] := ⟨_, rfl⟩
  have hP : va_P D vwCl (wX9_ringLine cy aM qM vM vM_fresh vM_letters vM_tape) H := by rw [hH]; exact hP
  have hS : va_S A s.heap H locs := by rw [hH, hlc]; exact hS
  rw [show W p l e _ s m _ below meth c s.heap [] = W p l e _ s m _ below meth c H locs from by rw [hH, hlc]]
  refine lv_aload_n hx hb dX9_ringLine_0 rfl (lv_at hl 0 rfl) ?_
  refine va_get (D := D) (ci := 8) (v := .int (vM 13)) (C := RX9) (T := TX9) (N := 29) hx hb ht0 niX9 hown hK hP 0 rfl rfl 13 (by decide) (ht0 _ wd757) (fun _ h9 => h9) rfl dX9_ringLine_1 ?_
  refine lv_if_eq (tgt := 8) hx hb dX9_ringLine_4 (by decide) (fun c4 => ?_) (fun c4 => ?_)
  · have hok := k_pos c4 hok
    refine lv_bipush (v := 8) hx hb dX9_ringLine_8 (by decide) ?_
    refine lv_iconst (v := 2) hx hb dX9_ringLine_10 (by decide) ?_
    refine lv_aload_n hx hb dX9_ringLine_11 rfl (lv_at hl 0 rfl) ?_
    refine va_get (D := D) (ci := 8) (v := .ref (qM 16)) (C := RX9) (T := TX9) (N := 29) hx hb ht0 niX9 hown hK hP 0 rfl rfl 16 (by decide) (ht0 _ wd778) (fun _ h9 => h9) rfl dX9_ringLine_12 ?_
    refine lv_iconst (v := 2) hx hb dX9_ringLine_15 (by decide) ?_
    obtain ⟨g16, hok⟩ := gd_some hok
    refine va_iald hx hb hK hP 1 0 rfl rfl (okI_in g16) dX9_ringLine_16 ?_
    refine lv_imul hx hb dX9_ringLine_17 ?_
    refine lv_iadd hx hb dX9_ringLine_18 ?_
    refine lv_istore_n (lv' := [(1, .int ((8 : Int32) + ((2 : Int32) * (vM_fresh (2 : Int32).toNatClampNeg)))), (0, .ref aM)]) hx hb dX9_ringLine_19 rfl hl (by decide) rfl (fun ls hl => ?_)
    refine lv_aload_n hx hb dX9_ringLine_20 rfl (lv_at hl 1 rfl) ?_
    refine lv_aload_n hx hb dX9_ringLine_21 rfl (lv_at hl 1 rfl) ?_
    refine va_get (D := D) (ci := 8) (v := .ref (qM 16)) (C := RX9) (T := TX9) (N := 29) hx hb ht0 niX9 hown hK hP 0 rfl rfl 16 (by decide) (ht0 _ wd778) (fun _ h9 => h9) rfl dX9_ringLine_22 ?_
    refine lv_iconst (v := 2) hx hb dX9_ringLine_25 (by decide) ?_
    obtain ⟨g26, hok⟩ := gd_some hok
    refine va_iald hx hb hK hP 1 0 rfl rfl (okI_in g26) dX9_ringLine_26 ?_
    obtain ⟨⟨vM_27, vM_letters_27, vM_fresh_27⟩, hc27, hok⟩ := k_bind hok
    try dsimp only at hok
    refine kCv (wc := (wX9_newName cy aM qM vM vM_letters vM_fresh vM_tape)) (wc2 := (wX9_newName cy aM qM vM_27 vM_letters_27 vM_fresh_27 vM_tape)) (wr := []) (ws2 := (wX9_ringLine cy aM qM vM_27 vM_fresh_27 vM_letters_27 vM_tape)) (kRunVS (As := [.int (vM_fresh (2 : Int32).toNatClampNeg)]) (rest := []) ⟨hx, hb, hml, hown, ht0⟩ (kX9_newName l D cy ad _ aM qM vM vM_letters vM_fresh vM_tape (vM_fresh (2 : Int32).toNatClampNeg) vM_27 vM_letters_27 vM_fresh_27 hc27 _ rfl) (cwV 1 ht0 (gV wd810 wd811 wd812 wd744 wd813) rfl rfl rfl (by decide +kernel) ⟨Nat.le_of_ble_eq_true rfl, Nat.le_of_ble_eq_true rfl⟩) hK hN hP hD hSt hS hA [0, 2, 1, 3] rfl (by decide) 0 8 rfl rfl rfl hl.1 rfl (Nat.le_of_ble_eq_true rfl) dX9_ringLine_27 ⟨Nat.zero_le _, Nat.zero_le _⟩) hP hD hS hA [0, 2, 1, 3] [] rfl rfl (by decide) (by decide) [0, 2, 1, 3] (by decide) rfl rfl (fun H locs hP hD hS => ?_)
    refine lv_aload_n hx hb dX9_ringLine_30 rfl (lv_at hl 1 rfl) ?_
    refine va_ldcS (own := RX9) (tx := "plain") (index := 212) (q := ad.1 17) hx hb hown (hSt.2.1 (RX9, 212, "plain", 17) (List.mem_of_getElem? (i := 32) rfl)) dX9_ringLine_31 ?_
    obtain ⟨r33, hc33, hok⟩ := k_bind hok
    refine kCi (wc := (wX9_isWord cy aM qM vM_27 vM_letters_27)) (wc2 := (wX9_isWord cy aM qM vM_27 vM_letters_27)) (wr := [(qM 16, rI cy 224 vM_fresh_27), (qM 1, rI cy 900 vM_tape)]) (ws2 := (wX9_ringLine cy aM qM vM_27 vM_fresh_27 vM_letters_27 vM_tape)) (kRunVS (As := [.ref (ad.1 17)]) (rest := []) ⟨hx, hb, hml, hown, ht0⟩ (kX9_isWord l D cy ad _ aM qM vM_27 vM_letters_27 17 r33 hc33 _ rfl) (cwV 1 ht0 (gV wd762 wd763 wd764 wd744 wd765) rfl rfl rfl (by decide +kernel) ⟨Nat.le_of_ble_eq_true rfl, Nat.le_of_ble_eq_true rfl⟩) hK hN hP hD hSt hS hA [0, 2] rfl (by decide) 0 8 rfl rfl rfl hl.1 rfl (Nat.le_of_ble_eq_true rfl) dX9_ringLine_33 ⟨Nat.zero_le _, Nat.zero_le _⟩) hP hD hS hA [0, 2] [1, 3] rfl rfl (by decide) (by decide) [2, 0, 3, 1] (by decide) rfl rfl (fun H locs hP hD hS => ?_)
    refine lv_if_eq (tgt := 43) hx hb dX9_ringLine_36 (by decide) (fun c36 => ?_) (fun c36 => ?_)
    · have hok := k_pos c36 hok
      refine lv_aload_n hx hb dX9_ringLine_43 rfl (lv_at hl 1 rfl) ?_
      refine va_ldcS (own := RX9) (tx := "cellar") (index := 201) (q := ad.1 4) hx hb hown (hSt.2.1 (RX9, 201, "cellar", 4) (List.mem_of_getElem? (i := 30) rfl)) dX9_ringLine_44 ?_
      obtain ⟨r46, hc46, hok⟩ := k_bind hok
      refine kCi (wc := (wX9_isWord cy aM qM vM_27 vM_letters_27)) (wc2 := (wX9_isWord cy aM qM vM_27 vM_letters_27)) (wr := [(qM 16, rI cy 224 vM_fresh_27), (qM 1, rI cy 900 vM_tape)]) (ws2 := (wX9_ringLine cy aM qM vM_27 vM_fresh_27 vM_letters_27 vM_tape)) (kRunVS (As := [.ref (ad.1 4)]) (rest := []) ⟨hx, hb, hml, hown, ht0⟩ (kX9_isWord l D cy ad _ aM qM vM_27 vM_letters_27 4 r46 hc46 _ rfl) (cwV 1 ht0 (gV wd762 wd763 wd764 wd744 wd765) rfl rfl rfl (by decide +kernel) ⟨Nat.le_of_ble_eq_true rfl, Nat.le_of_ble_eq_true rfl⟩) hK hN hP hD hSt hS hA [0, 2] rfl (by decide) 0 8 rfl rfl rfl hl.1 rfl (Nat.le_of_ble_eq_true rfl) dX9_ringLine_46 ⟨Nat.zero_le _, Nat.zero_le _⟩) hP hD hS hA [0, 2] [1, 3] rfl rfl (by decide) (by decide) [2, 0, 3, 1] (by decide) rfl rfl (fun H locs hP hD hS => ?_)
      refine lv_if_eq (tgt := 56) hx hb dX9_ringLine_49 (by decide) (fun c49 => ?_) (fun c49 => ?_)
      · have hok := k_pos c49 hok
        refine lv_aload_n hx hb dX9_ringLine_56 rfl (lv_at hl 1 rfl) ?_
        refine va_ldcS (own := RX9) (tx := "attic") (index := 214) (q := ad.1 1) hx hb hown (hSt.2.1 (RX9, 214, "attic", 1) (List.mem_of_getElem? (i := 33) rfl)) dX9_ringLine_57 ?_
        obtain ⟨r59, hc59, hok⟩ := k_bind hok
        refine kCi (wc := (wX9_isWord cy aM qM vM_27 vM_letters_27)) (wc2 := (wX9_isWord cy aM qM vM_27 vM_letters_27)) (wr := [(qM 16, rI cy 224 vM_fresh_27), (qM 1, rI cy 900 vM_tape)]) (ws2 := (wX9_ringLine cy aM qM vM_27 vM_fresh_27 vM_letters_27 vM_tape)) (kRunVS (As := [.ref (ad.1 1)]) (rest := []) ⟨hx, hb, hml, hown, ht0⟩ (kX9_isWord l D cy ad _ aM qM vM_27 vM_letters_27 1 r59 hc59 _ rfl) (cwV 1 ht0 (gV wd762 wd763 wd764 wd744 wd765) rfl rfl rfl (by decide +kernel) ⟨Nat.le_of_ble_eq_true rfl, Nat.le_of_ble_eq_true rfl⟩) hK hN hP hD hSt hS hA [0, 2] rfl (by decide) 0 8 rfl rfl rfl hl.1 rfl (Nat.le_of_ble_eq_true rfl) dX9_ringLine_59 ⟨Nat.zero_le _, Nat.zero_le _⟩) hP hD hS hA [0, 2] [1, 3] rfl rfl (by decide) (by decide) [2, 0, 3, 1] (by decide) rfl rfl (fun H locs hP hD hS => ?_)
        refine lv_if_eq (tgt := 69) hx hb dX9_ringLine_62 (by decide) (fun c62 => ?_) (fun c62 => ?_)
        · have hok := k_pos c62 hok
          refine lv_iconst (v := -1) hx hb dX9_ringLine_69 (by decide) ?_
          exact J70 (-1 : Int32) vM_fresh_27 vM_letters_27 vM_27 H locs ls hP hD hS (lv_sub hl [1, 0] rfl) hok
        · have hok := k_neg c62 hok
          refine lv_iconst (v := 2) hx hb dX9_ringLine_65 (by decide) ?_
          refine lv_goto (tgt := 70) hx hb dX9_ringLine_66 (by decide) ?_
          exact J70 (2 : Int32) vM_fresh_27 vM_letters_27 vM_27 H locs ls hP hD hS (lv_sub hl [1, 0] rfl) hok
      · have hok := k_neg c49 hok
        refine lv_iconst (v := 1) hx hb dX9_ringLine_52 (by decide) ?_
        refine lv_goto (tgt := 70) hx hb dX9_ringLine_53 (by decide) ?_
        exact J70 (1 : Int32) vM_fresh_27 vM_letters_27 vM_27 H locs ls hP hD hS (lv_sub hl [1, 0] rfl) hok
    · have hok := k_neg c36 hok
      refine lv_iconst (v := 0) hx hb dX9_ringLine_39 (by decide) ?_
      refine lv_goto (tgt := 70) hx hb dX9_ringLine_40 (by decide) ?_
      exact J70 (0 : Int32) vM_fresh_27 vM_letters_27 vM_27 H locs ls hP hD hS (lv_sub hl [1, 0] rfl) hok
  · have hok := k_neg c4 hok
    cases hok
    subst hQe; exact W.vret hx hb hr (fun t ht hW => ⟨⟨(), rfl, trivial, by rw [ht]; exact hP, va_K.moved hW.alike hK, hD⟩, hS.F ht⟩) hS.2.2 dX9_ringLine_7
def wsX9_narrowLine : List Cond := .code yX9_narrowLine cX9_narrowLine 4 none :: W0
abbrev wX9_narrowLine (cy : Nat → ClassId) (aM : Nat) (qM : Nat → Nat) (vM : Nat → Int32) (vM_letters : Nat → Int32) (vM_fresh : Nat → Int32) (vM_tape : Nat → Int32) : va_W := [(aM, oX9 vM qM), (qM 12, rI cy 8 vM_letters), (qM 16, rI cy 224 vM_fresh), (qM 1, rI cy 900 vM_tape)]
set_option maxHeartbeats 4000000 in
set_option maxRecDepth 100000 in
theorem kX9_narrowLine (l : Launch) (D : va_G) (cy : Nat → ClassId) (ad : (Nat → Nat) × (Nat → Nat)) (sz : Nat) (aM : Nat) (qM : Nat → Nat) (vM : Nat → Int32) (vM_letters : Nat → Int32) (vM_fresh : Nat → Int32) (vM_tape : Nat → Int32) (z_vM : Nat → Int32) (z_vM_letters : Nat → Int32) (z_vM_fresh : Nat → Int32) (hok : fX9_narrowLine vM vM_letters vM_fresh vM_tape = some (z_vM, z_vM_letters, z_vM_fresh)) (A : Nat → Prop) (hAe : va_A (wX9_narrowLine cy aM qM vM vM_letters vM_fresh vM_tape) sz = A) : Met l yX9_narrowLine wsX9_narrowLine ({ frames := 8, cells := 0, slots := 0, locals := 173 } : Room) (kPreS D cy ad [.ref aM] (wX9_narrowLine cy aM qM vM vM_letters vM_fresh vM_tape) sz A) (kQv D cy A (wX9_narrowLine cy aM qM z_vM z_vM_letters z_vM_fresh vM_tape)) 0 0 A := by
  refine Met.ofW (cc := cX9_narrowLine) (maxL := 4) (ret := none) (by decide) rfl ?_
  intro p e s m args below meth c s₁ B hml hv
  obtain ⟨rfl, ⟨hsz, hP, hK, hD0, hN⟩, hSt⟩ := hv
  have hx := B.exec
  have hb := B.bytes
  have hr := B.returns
  have ht0 : ∀ w ∈ W0, w.before _ s = true := fun w h => atoms_spec (ws := wsX9_narrowLine) B.pre w (List.mem_cons_of_mem _ h)
  have hown : s.vm.findClass RX9 = some m.cls := findClass_of_methodNamed B.named
  have hlocks := B.notSynchronized
  subst hsz
  have hD : va_D A (wX9_narrowLine cy aM qM vM vM_letters vM_fresh vM_tape) := by rw [← hAe]; exact hD0.self
  have hA : ∀ q : Nat, s.heap.size ≤ q → A q := fun q h => by rw [← hAe]; exact Or.inr h
  have hS : va_S A s.heap s.heap [] := va_S.rf
  have hl := lv_entry ([.ref aM]) (n := 4) (Nat.le_of_ble_eq_true rfl)
  rw [lg_entry_eq]
  generalize (lg_sl ([.ref aM]) ++ List.replicate (4 - (lg_sl ([.ref aM])).length) Slot.unset).toArray = ls at hl ⊢
  have hl : lv_has ls 4 [(0, .ref aM)] := hl
  generalize hQe : MQ below (kQv D cy A (wX9_narrowLine cy aM qM z_vM z_vM_letters z_vM_fresh vM_tape)) ([.ref aM] : List Value).toArray s 0 0 A = Q
  have J55 : ∀ (y2_55 : Int32) (vM_letters_55 : Nat → Int32) (vM_55 : Nat → Int32), ∀ (H : Heap) (locs : List Loc) (ls : Array Slot), va_P D vwCl (wX9_narrowLine cy aM qM vM_55 vM_letters_55 vM_fresh vM_tape) H → va_D A (wX9_narrowLine cy aM qM vM_55 vM_letters_55 vM_fresh vM_tape) → va_S A s.heap H locs → lv_has ls 4 [(0, .ref aM), (2, .int y2_55)] → fX9_narrowLine_J55 vM_fresh vM_tape y2_55 vM_letters_55 vM_55 = some (z_vM, z_vM_letters, z_vM_fresh) → W p l e ({ frames := 8, cells := 0, slots := 0, locals := 173 } : Room) s m ([.ref aM] : List Value).toArray below meth c H locs 0 0 Q (F0 m 55 ls []) := by
    intro y2_55 vM_letters_55 vM_55 H locs ls hP hD hS hl hok
    unfold fX9_narrowLine_J55 at hok
    refine lv_aload_n hx hb dX9_narrowLine_55 rfl (lv_at hl 0 rfl) ?_
    refine va_get (D := D) (ci := 8) (v := .int (vM_55 13)) (C := RX9) (T := TX9) (N := 29) hx hb ht0 niX9 hown hK hP 0 rfl rfl 13 (by decide) (ht0 _ wd757) (fun _ h9 => h9) rfl dX9_narrowLine_56 ?_
    refine lv_if_eq (tgt := 63) hx hb dX9_narrowLine_59 (by decide) (fun c59 => ?_) (fun c59 => ?_)
    · have hok := k_pos c59 hok
      refine lv_aload_n hx hb dX9_narrowLine_63 rfl (lv_at hl 0 rfl) ?_
      obtain ⟨⟨vM_64, vM_letters_64⟩, hc64, hok⟩ := k_bind hok
      try dsimp only at hok
      refine kCv (wc := (wX9_next cy aM qM vM_55 vM_tape vM_letters_55)) (wc2 := (wX9_next cy aM qM vM_64 vM_tape vM_letters_64)) (wr := [(qM 16, rI cy 224 vM_fresh)]) (ws2 := (wX9_narrowLine cy aM qM vM_64 vM_letters_64 vM_fresh vM_tape)) (kRunV (As := []) (rest := []) ⟨hx, hb, hml, hown, ht0⟩ (kX9_next l D cy _ aM qM vM_55 vM_tape vM_letters_55 vM_64 vM_letters_64 hc64 _ rfl) (cwV 0 ht0 (gV wd766 wd767 wd768 wd744 wd769) rfl rfl rfl (by decide +kernel) ⟨Nat.le_of_ble_eq_true rfl, Nat.le_of_ble_eq_true rfl⟩) hK hN hP hD [0, 3, 1] rfl (by decide) 0 8 rfl rfl rfl hl.1 rfl (Nat.le_of_ble_eq_true rfl) dX9_narrowLine_64 ⟨Nat.zero_le _, Nat.zero_le _⟩) hP hD hS hA [0, 3, 1] [2] rfl rfl (by decide) (by decide) [1, 3, 0, 2] (by decide) rfl rfl (fun H locs hP hD hS => ?_)
      refine lv_aload_n hx hb dX9_narrowLine_67 rfl (lv_at hl 0 rfl) ?_
      refine va_ldcS (own := RX9) (tx := "by") (index := 224) (q := ad.1 3) hx hb hown (hSt.2.1 (RX9, 224, "by", 3) (List.mem_of_getElem? (i := 35) rfl)) dX9_narrowLine_68 ?_
      refine lv_iconst (v := 0) hx hb dX9_narrowLine_70 (by decide) ?_
      refine lv_bipush (v := 9) hx hb dX9_narrowLine_71 (by decide) ?_
      obtain ⟨⟨r73, vM_73, vM_letters_73⟩, hc73, hok⟩ := k_bind hok
      try dsimp only at hok
      refine kCi (wc := (wX9_after cy aM qM vM_64 vM_letters_64 vM_tape)) (wc2 := (wX9_after cy aM qM vM_73 vM_letters_73 vM_tape)) (wr := [(qM 16, rI cy 224 vM_fresh)]) (ws2 := (wX9_narrowLine cy aM qM vM_73 vM_letters_73 vM_fresh vM_tape)) (kRunVS (As := [.ref (ad.1 3), .int 0, .int 9]) (rest := []) ⟨hx, hb, hml, hown, ht0⟩ (kX9_after l D cy ad _ aM qM vM_64 vM_letters_64 vM_tape 3 (0 : Int32) (9 : Int32) r73 vM_73 vM_letters_73 hc73 _ rfl) (cwV 3 ht0 (gV wd806 wd807 wd808 wd744 wd809) rfl rfl rfl (by decide +kernel) ⟨Nat.le_of_ble_eq_true rfl, Nat.le_of_ble_eq_true rfl⟩) hK hN hP hD hSt hS hA [0, 1, 3] rfl (by decide) 0 8 rfl rfl rfl hl.1 rfl (Nat.le_of_ble_eq_true rfl) dX9_narrowLine_73 ⟨Nat.zero_le _, Nat.zero_le _⟩) hP hD hS hA [0, 1, 3] [2] rfl rfl (by decide) (by decide) [1, 2, 0, 3] (by decide) rfl rfl (fun H locs hP hD hS => ?_)
      refine lv_istore_n (lv' := [(3, .int r73), (0, .ref aM), (2, .int y2_55)]) hx hb dX9_narrowLine_76 rfl hl (by decide) rfl (fun ls hl => ?_)
      refine lv_aload_n hx hb dX9_narrowLine_77 rfl (lv_at hl 1 rfl) ?_
      refine va_get (D := D) (ci := 8) (v := .int (vM_73 13)) (C := RX9) (T := TX9) (N := 29) hx hb ht0 niX9 hown hK hP 0 rfl rfl 13 (by decide) (ht0 _ wd757) (fun _ h9 => h9) rfl dX9_narrowLine_78 ?_
      refine lv_if_eq (tgt := 85) hx hb dX9_narrowLine_81 (by decide) (fun c81 => ?_) (fun c81 => ?_)
      · have hok := k_pos c81 hok
        refine lv_aload_n hx hb dX9_narrowLine_85 rfl (lv_at hl 1 rfl) ?_
        refine va_get (D := D) (ci := 8) (v := .ref (qM 16)) (C := RX9) (T := TX9) (N := 29) hx hb ht0 niX9 hown hK hP 0 rfl rfl 16 (by decide) (ht0 _ wd778) (fun _ h9 => h9) rfl dX9_narrowLine_86 ?_
        refine lv_bipush (v := 16) hx hb dX9_narrowLine_89 (by decide) ?_
        refine lv_iload_n hx hb dX9_narrowLine_91 rfl (lv_at hl 2 rfl) ?_
        refine lv_iadd hx hb dX9_narrowLine_92 ?_
        refine lv_iload_n hx hb dX9_narrowLine_93 rfl (lv_at hl 0 rfl) ?_
        refine lv_iconst (v := 1) hx hb dX9_narrowLine_94 (by decide) ?_
        refine lv_iadd hx hb dX9_narrowLine_95 ?_
        obtain ⟨g96, hok⟩ := gd_some hok
        refine va_iast hx hb hK hP hD hS 2 0 rfl rfl (okI_in g96) dX9_narrowLine_96 (fun H locs hP hD hS => ?_)
        have hP : va_P D vwCl (wX9_narrowLine cy aM qM vM_73 vM_letters_73 (upd vM_fresh ((16 : Int32) + y2_55).toNatClampNeg (r73 + (1 : Int32))) vM_tape) H := hP
        have hD : va_D A (wX9_narrowLine cy aM qM vM_73 vM_letters_73 (upd vM_fresh ((16 : Int32) + y2_55).toNatClampNeg (r73 + (1 : Int32))) vM_tape) := hD
        refine lv_aload_n hx hb dX9_narrowLine_97 rfl (lv_at hl 1 rfl) ?_
        refine va_get (D := D) (ci := 8) (v := .ref (qM 16)) (C := RX9) (T := TX9) (N := 29) hx hb ht0 niX9 hown hK hP 0 rfl rfl 16 (by decide) (ht0 _ wd778) (fun _ h9 => h9) rfl dX9_narrowLine_98 ?_
        refine lv_iconst (v := 4) hx hb dX9_narrowLine_101 (by decide) ?_
        refine lv_dup2_11 hx hb dX9_narrowLine_102 rfl rfl ?_
        obtain ⟨g103, hok⟩ := gd_some hok
        refine va_iald hx hb hK hP 2 0 rfl rfl (okI_in g103) dX9_narrowLine_103 ?_
        refine lv_iconst (v := 1) hx hb dX9_narrowLine_104 (by decide) ?_
        refine lv_iadd hx hb dX9_narrowLine_105 ?_
        obtain ⟨g106, hok⟩ := gd_some hok
        refine va_iast hx hb hK hP hD hS 2 0 rfl rfl (okI_in g106) dX9_narrowLine_106 (fun H locs hP hD hS => ?_)
        have hP : va_P D vwCl (wX9_narrowLine cy aM qM vM_73 vM_letters_73 (upd (upd vM_fresh ((16 : Int32) + y2_55).toNatClampNeg (r73 + (1 : Int32))) (4 : Int32).toNatClampNeg (((upd vM_fresh ((16 : Int32) + y2_55).toNatClampNeg (r73 + (1 : Int32))) (4 : Int32).toNatClampNeg) + (1 : Int32))) vM_tape) H := hP
        have hD : va_D A (wX9_narrowLine cy aM qM vM_73 vM_letters_73 (upd (upd vM_fresh ((16 : Int32) + y2_55).toNatClampNeg (r73 + (1 : Int32))) (4 : Int32).toNatClampNeg (((upd vM_fresh ((16 : Int32) + y2_55).toNatClampNeg (r73 + (1 : Int32))) (4 : Int32).toNatClampNeg) + (1 : Int32))) vM_tape) := hD
        cases hok
        subst hQe; exact W.vret hx hb hr (fun t ht hW => ⟨⟨(), rfl, trivial, by rw [ht]; exact hP, va_K.moved hW.alike hK, hD⟩, hS.F ht⟩) hS.2.2 dX9_narrowLine_107
      · have hok := k_neg c81 hok
        cases hok
        subst hQe; exact W.vret hx hb hr (fun t ht hW => ⟨⟨(), rfl, trivial, by rw [ht]; exact hP, va_K.moved hW.alike hK, hD⟩, hS.F ht⟩) hS.2.2 dX9_narrowLine_84
    · have hok := k_neg c59 hok
      cases hok
      subst hQe; exact W.vret hx hb hr (fun t ht hW => ⟨⟨(), rfl, trivial, by rw [ht]; exact hP, va_K.moved hW.alike hK, hD⟩, hS.F ht⟩) hS.2.2 dX9_narrowLine_62
  unfold fX9_narrowLine at hok
  obtain ⟨H, hH⟩ : ∃ H, H = s.heap := ⟨_, rfl⟩
  obtain ⟨locs, hlc⟩ : ∃ x : List Loc, x = [] := ⟨_, rfl⟩
  have hP : va_P D vwCl (wX9_narrowLine cy aM qM vM vM_letters vM_fresh vM_tape) H := by rw [hH]; exact hP
  have hS : va_S A s.heap H locs := by rw [hH, hlc]; exact hS
  rw [show W p l e _ s m _ below meth c s.heap [] = W p l e _ s m _ below meth c H locs from by rw [hH, hlc]]
  refine lv_aload_n hx hb dX9_narrowLine_0 rfl (lv_at hl 0 rfl) ?_
  refine va_get (D := D) (ci := 8) (v := .int (vM 13)) (C := RX9) (T := TX9) (N := 29) hx hb ht0 niX9 hown hK hP 0 rfl rfl 13 (by decide) (ht0 _ wd757) (fun _ h9 => h9) rfl dX9_narrowLine_1 ?_
  refine lv_if_eq (tgt := 8) hx hb dX9_narrowLine_4 (by decide) (fun c4 => ?_) (fun c4 => ?_)
  · have hok := k_pos c4 hok
    refine lv_aload_n hx hb dX9_narrowLine_8 rfl (lv_at hl 0 rfl) ?_
    obtain ⟨⟨r9, vM_9, vM_letters_9⟩, hc9, hok⟩ := k_bind hok
    try dsimp only at hok
    refine kCi (wc := (wX9_ringName cy aM qM vM vM_letters vM_fresh vM_tape)) (wc2 := (wX9_ringName cy aM qM vM_9 vM_letters_9 vM_fresh vM_tape)) (wr := []) (ws2 := (wX9_narrowLine cy aM qM vM_9 vM_letters_9 vM_fresh vM_tape)) (kRunVS (As := []) (rest := []) ⟨hx, hb, hml, hown, ht0⟩ (kX9_ringName l D cy ad _ aM qM vM vM_letters vM_fresh vM_tape r9 vM_9 vM_letters_9 hc9 _ rfl) (cwV 0 ht0 (gV wd814 wd815 wd816 wd744 wd817) rfl rfl rfl (by decide +kernel) ⟨Nat.le_of_ble_eq_true rfl, Nat.le_of_ble_eq_true rfl⟩) hK hN hP hD hSt hS hA [0, 1, 2, 3] rfl (by decide) 0 8 rfl rfl rfl hl.1 rfl (Nat.le_of_ble_eq_true rfl) dX9_narrowLine_9 ⟨Nat.zero_le _, Nat.zero_le _⟩) hP hD hS hA [0, 1, 2, 3] [] rfl rfl (by decide) (by decide) [0, 1, 2, 3] (by decide) rfl rfl (fun H locs hP hD hS => ?_)
    refine lv_istore_n (lv' := [(1, .int r9), (0, .ref aM)]) hx hb dX9_narrowLine_12 rfl hl (by decide) rfl (fun ls hl => ?_)
    refine lv_aload_n hx hb dX9_narrowLine_13 rfl (lv_at hl 1 rfl) ?_
    refine va_get (D := D) (ci := 8) (v := .int (vM_9 13)) (C := RX9) (T := TX9) (N := 29) hx hb ht0 niX9 hown hK hP 0 rfl rfl 13 (by decide) (ht0 _ wd757) (fun _ h9 => h9) rfl dX9_narrowLine_14 ?_
    refine lv_if_eq (tgt := 21) hx hb dX9_narrowLine_17 (by decide) (fun c17 => ?_) (fun c17 => ?_)
    · have hok := k_pos c17 hok
      refine lv_aload_n hx hb dX9_narrowLine_21 rfl (lv_at hl 1 rfl) ?_
      refine lv_iload_n hx hb dX9_narrowLine_22 rfl (lv_at hl 0 rfl) ?_
      obtain ⟨⟨r23, vM_23⟩, hc23, hok⟩ := k_bind hok
      try dsimp only at hok
      refine kCi (wc := (wX9_placeHere cy aM qM vM_9 vM_fresh)) (wc2 := (wX9_placeHere cy aM qM vM_23 vM_fresh)) (wr := [(qM 12, rI cy 8 vM_letters_9), (qM 1, rI cy 900 vM_tape)]) (ws2 := (wX9_narrowLine cy aM qM vM_23 vM_letters_9 vM_fresh vM_tape)) (kRunV (As := [.int r9]) (rest := []) ⟨hx, hb, hml, hown, ht0⟩ (kX9_placeHere l D cy _ aM qM vM_9 vM_fresh r9 r23 vM_23 hc23 _ rfl) (cwV 1 ht0 (gV wd818 wd819 wd820 wd744 wd821) rfl rfl rfl (by decide +kernel) ⟨Nat.le_of_ble_eq_true rfl, Nat.le_of_ble_eq_true rfl⟩) hK hN hP hD [0, 2] rfl (by decide) 0 8 rfl rfl rfl hl.1 rfl (Nat.le_of_ble_eq_true rfl) dX9_narrowLine_23 ⟨Nat.zero_le _, Nat.zero_le _⟩) hP hD hS hA [0, 2] [1, 3] rfl rfl (by decide) (by decide) [2, 0, 3, 1] (by decide) rfl rfl (fun H locs hP hD hS => ?_)
      refine lv_istore_n (lv' := [(2, .int r23), (1, .int r9), (0, .ref aM)]) hx hb dX9_narrowLine_26 rfl hl (by decide) rfl (fun ls hl => ?_)
      refine lv_aload_n hx hb dX9_narrowLine_27 rfl (lv_at hl 2 rfl) ?_
      refine va_get (D := D) (ci := 8) (v := .int (vM_23 13)) (C := RX9) (T := TX9) (N := 29) hx hb ht0 niX9 hown hK hP 0 rfl rfl 13 (by decide) (ht0 _ wd757) (fun _ h9 => h9) rfl dX9_narrowLine_28 ?_
      refine lv_if_ne (tgt := 55) hx hb dX9_narrowLine_31 (by decide) (fun c31 => ?_) (fun c31 => ?_)
      · have hok := k_neg c31 hok
        exact J55 r23 vM_letters_9 vM_23 H locs ls hP hD hS (lv_sub hl [2, 0] rfl) hok
      · have hok := k_pos c31 hok
        refine lv_aload_n hx hb dX9_narrowLine_34 rfl (lv_at hl 2 rfl) ?_
        refine va_get (D := D) (ci := 8) (v := .ref (qM 16)) (C := RX9) (T := TX9) (N := 29) hx hb ht0 niX9 hown hK hP 0 rfl rfl 16 (by decide) (ht0 _ wd778) (fun _ h9 => h9) rfl dX9_narrowLine_35 ?_
        refine lv_bipush (v := 16) hx hb dX9_narrowLine_38 (by decide) ?_
        refine lv_iload_n hx hb dX9_narrowLine_40 rfl (lv_at hl 0 rfl) ?_
        refine lv_iadd hx hb dX9_narrowLine_41 ?_
        obtain ⟨g42, hok⟩ := gd_some hok
        refine va_iald hx hb hK hP 2 0 rfl rfl (okI_in g42) dX9_narrowLine_42 ?_
        refine lv_if_le (tgt := 55) hx hb dX9_narrowLine_43 (by decide) (fun c43 => ?_) (fun c43 => ?_)
        · have hok := k_pos c43 hok
          exact J55 r23 vM_letters_9 vM_23 H locs ls hP hD hS (lv_sub hl [2, 0] rfl) hok
        · have hok := k_neg c43 hok
          refine lv_aload_n hx hb dX9_narrowLine_46 rfl (lv_at hl 2 rfl) ?_
          refine lv_iconst (v := 3) hx hb dX9_narrowLine_47 (by decide) ?_
          refine lv_aload_n hx hb dX9_narrowLine_48 rfl (lv_at hl 2 rfl) ?_
          refine va_get (D := D) (ci := 8) (v := .int (vM_23 4)) (C := RX9) (T := TX9) (N := 29) hx hb ht0 niX9 hown hK hP 0 rfl rfl 4 (by decide) (ht0 _ wd756) (fun _ h9 => h9) rfl dX9_narrowLine_49 ?_
          obtain ⟨vM_52, hc52, hok⟩ := k_bind hok
          refine kCv (wc := (wX9_wrong cy aM qM vM_23)) (wc2 := (wX9_wrong cy aM qM vM_52)) (wr := [(qM 12, rI cy 8 vM_letters_9), (qM 16, rI cy 224 vM_fresh), (qM 1, rI cy 900 vM_tape)]) (ws2 := (wX9_narrowLine cy aM qM vM_52 vM_letters_9 vM_fresh vM_tape)) (kRunV (As := [.int 3, .int (vM_23 4)]) (rest := []) ⟨hx, hb, hml, hown, ht0⟩ (kX9_wrong l D cy _ aM qM vM_23 (3 : Int32) (vM_23 4) vM_52 hc52 _ rfl) (cwV 2 ht0 (gV wd774 wd775 wd776 wd744 wd777) rfl rfl rfl (by decide +kernel) ⟨Nat.le_of_ble_eq_true rfl, Nat.le_of_ble_eq_true rfl⟩) hK hN hP hD [0] rfl (by decide) 0 8 rfl rfl rfl hl.1 rfl (Nat.le_of_ble_eq_true rfl) dX9_narrowLine_52 ⟨Nat.zero_le _, Nat.zero_le _⟩) hP hD hS hA [0] [1, 2, 3] rfl rfl (by decide) (by decide) [3, 0, 1, 2] (by decide) rfl rfl (fun H locs hP hD hS => ?_)
          exact J55 r23 vM_letters_9 vM_52 H locs ls hP hD hS (lv_sub hl [2, 0] rfl) hok
    · have hok := k_neg c17 hok
      cases hok
      subst hQe; exact W.vret hx hb hr (fun t ht hW => ⟨⟨(), rfl, trivial, by rw [ht]; exact hP, va_K.moved hW.alike hK, hD⟩, hS.F ht⟩) hS.2.2 dX9_narrowLine_20
  · have hok := k_neg c4 hok
    cases hok
    subst hQe; exact W.vret hx hb hr (fun t ht hW => ⟨⟨(), rfl, trivial, by rw [ht]; exact hP, va_K.moved hW.alike hK, hD⟩, hS.F ht⟩) hS.2.2 dX9_narrowLine_7
