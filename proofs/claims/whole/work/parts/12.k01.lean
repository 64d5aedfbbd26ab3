def wsX4_allowsRule : List Cond := .code yX4_allowsRule cX4_allowsRule 6 (some .boolean) :: W0
abbrev wX4_allowsRule (cy : Nat → ClassId) (aH : Nat) (qH : Nat → Nat) (vH : Nat → Int32) (vH_markNights : Nat → Int32) (vH_markPlaces : Nat → Int32) (vH_markFound : Nat → Int32) : va_W := [(aH, oX4 vH qH), (qH 17, rI cy 6 vH_markNights), (qH 18, rI cy 6 vH_markPlaces), (qH 19, rZ cy 6 vH_markFound)]
set_option maxHeartbeats 4000000 in
set_option maxRecDepth 100000 in
theorem kX4_allowsRule (l : Launch) (D : va_G) (cy : Nat → ClassId) (sz : Nat) (aH : Nat) (qH : Nat → Nat) (vH : Nat → Int32) (vH_markNights : Nat → Int32) (vH_markPlaces : Nat → Int32) (vH_markFound : Nat → Int32) (x1 : Int32) (x2 : Int32) (x3 : Int32) (zr : Int32) (hok : fX4_allowsRule vH vH_markNights vH_markPlaces vH_markFound x1 x2 x3 = some zr) (A : Nat → Prop) (hAe : va_A (wX4_allowsRule cy aH qH vH vH_markNights vH_markPlaces vH_markFound) sz = A) : Met l yX4_allowsRule wsX4_allowsRule ({ frames := 0, cells := 0, slots := 0, locals := 0 } : Room) (kPre D cy [.ref aH, .int x1, .int x2, .int x3] (wX4_allowsRule cy aH qH vH vH_markNights vH_markPlaces vH_markFound) sz) (kQi D cy zr A (wX4_allowsRule cy aH qH vH vH_markNights vH_markPlaces vH_markFound)) 0 0 A := by
  refine Met.ofW (cc := cX4_allowsRule) (maxL := 6) (ret := (some .boolean)) (by decide) rfl ?_
  intro p e s m args below meth c s₁ B hml hv
  obtain ⟨rfl, hsz, hP, hK, hD0, hN⟩ := hv
  have hx := B.exec
  have hb := B.bytes
  have hr := B.returns
  have ht0 : ∀ w ∈ W0, w.before _ s = true := fun w h => atoms_spec (ws := wsX4_allowsRule) B.pre w (List.mem_cons_of_mem _ h)
  have hown : s.vm.findClass RX4 = some m.cls := findClass_of_methodNamed B.named
  have hlocks := B.notSynchronized
  subst hsz
  have hD : va_D A (wX4_allowsRule cy aH qH vH vH_markNights vH_markPlaces vH_markFound) := by rw [← hAe]; exact hD0.self
  have hA : ∀ q : Nat, s.heap.size ≤ q → A q := fun q h => by rw [← hAe]; exact Or.inr h
  have hS : va_S A s.heap s.heap [] := va_S.rf
  have hl := lv_entry ([.ref aH, .int x1, .int x2, .int x3]) (n := 6) (Nat.le_of_ble_eq_true rfl)
  rw [lg_entry_eq]
  generalize (lg_sl ([.ref aH, .int x1, .int x2, .int x3]) ++ List.replicate (6 - (lg_sl ([.ref aH, .int x1, .int x2, .int x3])).length) Slot.unset).toArray = ls at hl ⊢
  have hl : lv_has ls 6 [(0, .ref aH), (1, .int x1), (2, .int x2), (3, .int x3)] := hl
  generalize hQe : MQ below (kQi D cy zr A (wX4_allowsRule cy aH qH vH vH_markNights vH_markPlaces vH_markFound)) ([.ref aH, .int x1, .int x2, .int x3] : List Value).toArray s 0 0 A = Q
  have J75 : ∀ (H : Heap) (locs : List Loc) (ls : Array Slot), va_P D vwCl (wX4_allowsRule cy aH qH vH vH_markNights vH_markPlaces vH_markFound) H → va_D A (wX4_allowsRule cy aH qH vH vH_markNights vH_markPlaces vH_markFound) → va_S A s.heap H locs → lv_has ls 6 [] → fX4_allowsRule_J75 = some zr → W p l e ({ frames := 0, cells := 0, slots := 0, locals := 0 } : Room) s m ([.ref aH, .int x1, .int x2, .int x3] : List Value).toArray below meth c H locs 0 0 Q (F0 m 75 ls []) := by
    intro  H locs ls hP hD hS hl hok
    unfold fX4_allowsRule_J75 at hok
    refine lv_iconst (v := 1) hx hb dX4_allowsRule_75 (by decide) ?_
    cases hok
    subst hQe; exact W.zret hx hb hr rfl (fun t ht hW => ⟨⟨_, (), rfl, rfl, by rw [ht]; exact hP, va_K.moved hW.alike hK, hD⟩, hS.F ht⟩) hS.2.2 dX4_allowsRule_76
  have L9 : ∀ (fuel : Nat) (y4_9 : Int32), ∀ (H : Heap) (locs : List Loc) (ls : Array Slot), va_P D vwCl (wX4_allowsRule cy aH qH vH vH_markNights vH_markPlaces vH_markFound) H → va_D A (wX4_allowsRule cy aH qH vH vH_markNights vH_markPlaces vH_markFound) → va_S A s.heap H locs → lv_has ls 6 [(0, .ref aH), (1, .int x1), (2, .int x2), (3, .int x3), (4, .int y4_9)] → lp (fX4_allowsRule_B9 vH vH_markNights vH_markPlaces vH_markFound x1 x2 x3) fuel y4_9 = some zr → W p l e ({ frames := 0, cells := 0, slots := 0, locals := 0 } : Room) s m ([.ref aH, .int x1, .int x2, .int x3] : List Value).toArray below meth c H locs 0 0 Q (F0 m 9 ls []) := by
    intro fuel
    induction fuel with
    | zero => intro y4_9 H locs ls hP hD hS hl hok; exact (lp_0 hok).elim
    | succ fuel ih9 =>
      intro y4_9 H locs ls hP hD hS hl hok
      obtain ⟨y9, hok, hL9, hR9⟩ := lp_step hok
      have J57 : ∀ (t0_57 : Int32), ∀ (H : Heap) (locs : List Loc) (ls : Array Slot), va_P D vwCl (wX4_allowsRule cy aH qH vH vH_markNights vH_markPlaces vH_markFound) H → va_D A (wX4_allowsRule cy aH qH vH vH_markNights vH_markPlaces vH_markFound) → va_S A s.heap H locs → lv_has ls 6 [(0, .ref aH), (1, .int x1), (2, .int x2), (3, .int x3), (4, .int y4_9)] → fX4_allowsRule_J57 vH_markFound y4_9 t0_57 = some y9 → W p l e ({ frames := 0, cells := 0, slots := 0, locals := 0 } : Room) s m ([.ref aH, .int x1, .int x2, .int x3] : List Value).toArray below meth c H locs 0 0 Q (F0 m 57 ls [.int t0_57]) := by
        intro t0_57 H locs ls hP hD hS hl hok
        unfold fX4_allowsRule_J57 at hok
        refine lv_aload_n hx hb dX4_allowsRule_57 rfl (lv_at hl 0 rfl) ?_
        refine va_get (D := D) (ci := 3) (v := .ref (qH 19)) (C := RX4) (T := TX4) (N := 20) hx hb ht0 niX4 hown hK hP 0 rfl rfl 19 (by decide) (ht0 _ wd0) (fun _ h9 => h9) rfl dX4_allowsRule_58 ?_
        refine lv_iload hx hb dX4_allowsRule_61 (lv_at hl 4 rfl) ?_
        obtain ⟨g63, hok⟩ := gd_some hok
        refine va_zald hx hb hK hP 3 3 rfl rfl (okI_in g63) dX4_allowsRule_63 ?_
        refine lv_icmp_eq (tgt := 69) hx hb dX4_allowsRule_64 (by decide) (fun c64 => ?_) (fun c64 => ?_)
        · have hok := k_pos c64 hok
          refine lv_iinc (v := (y4_9 + 1)) (lv' := [(4, .int (y4_9 + 1)), (0, .ref aH), (1, .int x1), (2, .int x2), (3, .int x3)]) hx hb dX4_allowsRule_69 hl (k := 4) rfl (by first | rfl | decide) (by decide) rfl (fun ls hl => ?_)
          refine lv_goto (tgt := 9) hx hb dX4_allowsRule_72 (by decide) ?_
          exact ih9 (y4_9 + 1) H locs ls hP hD hS (lv_sub hl [1, 2, 3, 4, 0] rfl) (hR9 _ (Option.some.inj hok).symm)
        · have hok := k_neg c64 hok
          obtain ⟨e9, hok, he9⟩ := ex_some hok
          have hok := hok.trans (congrArg some (hL9 _ he9))
          refine lv_iconst (v := 0) hx hb dX4_allowsRule_67 (by decide) ?_
          cases hok
          subst hQe; exact W.zret hx hb hr rfl (fun t ht hW => ⟨⟨_, (), rfl, rfl, by rw [ht]; exact hP, va_K.moved hW.alike hK, hD⟩, hS.F ht⟩) hS.2.2 dX4_allowsRule_68
      unfold fX4_allowsRule_B9 at hok
      refine lv_iload hx hb dX4_allowsRule_9 (lv_at hl 4 rfl) ?_
      refine lv_aload_n hx hb dX4_allowsRule_11 rfl (lv_at hl 0 rfl) ?_
      refine va_get (D := D) (ci := 3) (v := .int (vH 6)) (C := RX4) (T := TX4) (N := 20) hx hb ht0 niX4 hown hK hP 0 rfl rfl 6 (by decide) (ht0 _ wd1) (fun _ h9 => h9) rfl dX4_allowsRule_12 ?_
      refine lv_icmp_ge (tgt := 75) hx hb dX4_allowsRule_15 (by decide) (fun c15 => ?_) (fun c15 => ?_)
      · have hok := k_pos c15 hok
        obtain ⟨e9, hok, he9⟩ := ex_some hok
        have hok := hok.trans (congrArg some (hL9 _ he9))
        exact J75  H locs ls hP hD hS (lv_sub hl [] rfl) hok
      · have hok := k_neg c15 hok
        refine lv_iload hx hb dX4_allowsRule_18 (lv_at hl 4 rfl) ?_
        refine lv_bipush (v := 6) hx hb dX4_allowsRule_20 (by decide) ?_
        refine lv_icmp_ge (tgt := 75) hx hb dX4_allowsRule_22 (by decide) (fun c22 => ?_) (fun c22 => ?_)
        · have hok := k_pos c22 hok
          obtain ⟨e9, hok, he9⟩ := ex_some hok
          have hok := hok.trans (congrArg some (hL9 _ he9))
          exact J75  H locs ls hP hD hS (lv_sub hl [] rfl) hok
        · have hok := k_neg c22 hok
          refine lv_iload_n hx hb dX4_allowsRule_25 rfl (lv_at hl 3 rfl) ?_
          refine lv_iload_n hx hb dX4_allowsRule_26 rfl (lv_at hl 2 rfl) ?_
          refine lv_aload_n hx hb dX4_allowsRule_27 rfl (lv_at hl 0 rfl) ?_
          refine va_get (D := D) (ci := 3) (v := .ref (qH 17)) (C := RX4) (T := TX4) (N := 20) hx hb ht0 niX4 hown hK hP 0 rfl rfl 17 (by decide) (ht0 _ wd2) (fun _ h9 => h9) rfl dX4_allowsRule_28 ?_
          refine lv_iload hx hb dX4_allowsRule_31 (lv_at hl 4 rfl) ?_
          obtain ⟨g33, hok⟩ := gd_some hok
          refine va_iald hx hb hK hP 1 0 rfl rfl (okI_in g33) dX4_allowsRule_33 ?_
          refine lv_imul hx hb dX4_allowsRule_34 ?_
          refine lv_iadd hx hb dX4_allowsRule_35 ?_
          refine lv_iload_n hx hb dX4_allowsRule_36 rfl (lv_at hl 1 rfl) ?_
          obtain ⟨g37, hok⟩ := gd_some hok
          refine lv_irem hx hb dX4_allowsRule_37 (nzI_ne g37) ?_
          refine lv_istore (lv' := [(5, .int (irm (x3 + (x2 * (vH_markNights y4_9.toNatClampNeg))) x1)), (0, .ref aH), (1, .int x1), (2, .int x2), (3, .int x3), (4, .int y4_9)]) hx hb dX4_allowsRule_38 hl (by decide) rfl (fun ls hl => ?_)
          refine lv_iload hx hb dX4_allowsRule_40 (lv_at hl 0 rfl) ?_
          refine lv_aload_n hx hb dX4_allowsRule_42 rfl (lv_at hl 1 rfl) ?_
          refine va_get (D := D) (ci := 3) (v := .ref (qH 18)) (C := RX4) (T := TX4) (N := 20) hx hb ht0 niX4 hown hK hP 0 rfl rfl 18 (by decide) (ht0 _ wd3) (fun _ h9 => h9) rfl dX4_allowsRule_43 ?_
          refine lv_iload hx hb dX4_allowsRule_46 (lv_at hl 5 rfl) ?_
          obtain ⟨g48, hok⟩ := gd_some hok
          refine va_iald hx hb hK hP 2 0 rfl rfl (okI_in g48) dX4_allowsRule_48 ?_
          refine lv_icmp_ne (tgt := 56) hx hb dX4_allowsRule_49 (by decide) (fun c49 => ?_) (fun c49 => ?_)
          · have hok := k_neg c49 hok
            refine lv_iconst (v := 0) hx hb dX4_allowsRule_56 (by decide) ?_
            exact J57 (0 : Int32) H locs ls hP hD hS (lv_sub hl [1, 2, 3, 4, 5] rfl) hok
          · have hok := k_pos c49 hok
            refine lv_iconst (v := 1) hx hb dX4_allowsRule_52 (by decide) ?_
            refine lv_goto (tgt := 57) hx hb dX4_allowsRule_53 (by decide) ?_
            exact J57 (1 : Int32) H locs ls hP hD hS (lv_sub hl [1, 2, 3, 4, 5] rfl) hok
  unfold fX4_allowsRule at hok
  obtain ⟨H, hH⟩ : ∃ H, H = s.heap := ⟨_, rfl⟩
  obtain ⟨locs, hlc⟩ : ∃ x : List Loc, x = [] := ⟨_, rfl⟩
  have hP : va_P D vwCl (wX4_allowsRule cy aH qH vH vH_markNights vH_markPlaces vH_markFound) H := by rw [hH]; exact hP
  have hS : va_S A s.heap H locs := by rw [hH, hlc]; exact hS
  rw [show W p l e _ s m _ below meth c s.heap [] = W p l e _ s m _ below meth c H locs from by rw [hH, hlc]]
  refine lv_iload_n hx hb dX4_allowsRule_0 rfl (lv_at hl 1 rfl) ?_
  refine lv_if_gt (tgt := 6) hx hb dX4_allowsRule_1 (by decide) (fun c1 => ?_) (fun c1 => ?_)
  · have hok := k_pos c1 hok
    refine lv_iconst (v := 0) hx hb dX4_allowsRule_6 (by decide) ?_
    refine lv_istore (lv' := [(4, .int 0), (0, .ref aH), (1, .int x1), (2, .int x2), (3, .int x3)]) hx hb dX4_allowsRule_7 hl (by decide) rfl (fun ls hl => ?_)
    exact L9 5000 (0 : Int32) H locs ls hP hD hS (lv_sub hl [1, 2, 3, 4, 0] rfl) hok
  · have hok := k_neg c1 hok
    refine lv_iconst (v := 0) hx hb dX4_allowsRule_4 (by decide) ?_
    cases hok
    subst hQe; exact W.zret hx hb hr rfl (fun t ht hW => ⟨⟨_, (), rfl, rfl, by rw [ht]; exact hP, va_K.moved hW.alike hK, hD⟩, hS.F ht⟩) hS.2.2 dX4_allowsRule_5
def wsX0_add : List Cond := .code yX0_add cX0_add 2 none :: W0
abbrev wX0_add (cy : Nat → ClassId) (aB : Nat) (qB : Nat → Nat) (vB : Nat → Int32) (vB_ruleNumbers : Nat → Int32) : va_W := [(aB, oX0 vB qB), (qB 0, rI cy 572 vB_ruleNumbers)]
set_option maxHeartbeats 4000000 in
set_option maxRecDepth 100000 in
theorem kX0_add (l : Launch) (D : va_G) (cy : Nat → ClassId) (sz : Nat) (aB : Nat) (qB : Nat → Nat) (vB : Nat → Int32) (vB_ruleNumbers : Nat → Int32) (x1 : Int32) (z_vB : Nat → Int32) (z_vB_ruleNumbers : Nat → Int32) (hok : fX0_add vB vB_ruleNumbers x1 = some (z_vB, z_vB_ruleNumbers)) (A : Nat → Prop) (hAe : va_A (wX0_add cy aB qB vB vB_ruleNumbers) sz = A) : Met l yX0_add wsX0_add ({ frames := 0, cells := 0, slots := 0, locals := 0 } : Room) (kPre D cy [.ref aB, .int x1] (wX0_add cy aB qB vB vB_ruleNumbers) sz) (kQv D cy A (wX0_add cy aB qB z_vB z_vB_ruleNumbers)) 0 0 A := by
  refine Met.ofW (cc := cX0_add) (maxL := 2) (ret := none) (by decide) rfl ?_
  intro p e s m args below meth c s₁ B hml hv
  obtain ⟨rfl, hsz, hP, hK, hD0, hN⟩ := hv
  have hx := B.exec
  have hb := B.bytes
  have hr := B.returns
  have ht0 : ∀ w ∈ W0, w.before _ s = true := fun w h => atoms_spec (ws := wsX0_add) B.pre w (List.mem_cons_of_mem _ h)
  have hown : s.vm.findClass RX0 = some m.cls := findClass_of_methodNamed B.named
  have hlocks := B.notSynchronized
  subst hsz
  have hD : va_D A (wX0_add cy aB qB vB vB_ruleNumbers) := by rw [← hAe]; exact hD0.self
  have hA : ∀ q : Nat, s.heap.size ≤ q → A q := fun q h => by rw [← hAe]; exact Or.inr h
  have hS : va_S A s.heap s.heap [] := va_S.rf
  have hl := lv_entry ([.ref aB, .int x1]) (n := 2) (Nat.le_of_ble_eq_true rfl)
  rw [lg_entry_eq]
  generalize (lg_sl ([.ref aB, .int x1]) ++ List.replicate (2 - (lg_sl ([.ref aB, .int x1])).length) Slot.unset).toArray = ls at hl ⊢
  have hl : lv_has ls 2 [(0, .ref aB), (1, .int x1)] := hl
  generalize hQe : MQ below (kQv D cy A (wX0_add cy aB qB z_vB z_vB_ruleNumbers)) ([.ref aB, .int x1] : List Value).toArray s 0 0 A = Q
  have J37 : ∀ (vB_ruleNumbers_37 : Nat → Int32) (vB_37 : Nat → Int32), ∀ (H : Heap) (locs : List Loc) (ls : Array Slot), va_P D vwCl (wX0_add cy aB qB vB_37 vB_ruleNumbers_37) H → va_D A (wX0_add cy aB qB vB_37 vB_ruleNumbers_37) → va_S A s.heap H locs → lv_has ls 2 [] → fX0_add_J37 vB_ruleNumbers_37 vB_37 = some (z_vB, z_vB_ruleNumbers) → W p l e ({ frames := 0, cells := 0, slots := 0, locals := 0 } : Room) s m ([.ref aB, .int x1] : List Value).toArray below meth c H locs 0 0 Q (F0 m 37 ls []) := by
    intro vB_ruleNumbers_37 vB_37 H locs ls hP hD hS hl hok
    unfold fX0_add_J37 at hok
    cases hok
    subst hQe; exact W.vret hx hb hr (fun t ht hW => ⟨⟨(), rfl, trivial, by rw [ht]; exact hP, va_K.moved hW.alike hK, hD⟩, hS.F ht⟩) hS.2.2 dX0_add_37
  unfold fX0_add at hok
  obtain ⟨H, hH⟩ : ∃ H, H = s.heap := ⟨_, rfl⟩
  obtain ⟨locs, hlc⟩ : ∃ x : List Loc, x = [] := ⟨_, rfl⟩
  have hP : va_P D vwCl (wX0_add cy aB qB vB vB_ruleNumbers) H := by rw [hH]; exact hP
  have hS : va_S A s.heap H locs := by rw [hH, hlc]; exact hS
  rw [show W p l e _ s m _ below meth c s.heap [] = W p l e _ s m _ below meth c H locs from by rw [hH, hlc]]
  refine lv_aload_n hx hb dX0_add_0 rfl (lv_at hl 0 rfl) ?_
  refine va_get (D := D) (ci := 0) (v := .int (vB 2)) (C := RX0) (T := TX0) (N := 6) hx hb ht0 niX0 hown hK hP 0 rfl rfl 2 (by decide) (ht0 _ wd4) (fun _ h9 => h9) rfl dX0_add_1 ?_
  refine lv_if_lt (tgt := 37) hx hb dX0_add_4 (by decide) (fun c4 => ?_) (fun c4 => ?_)
  · have hok := k_pos c4 hok
    exact J37 vB_ruleNumbers vB H locs ls hP hD hS (lv_sub hl [] rfl) hok
  · have hok := k_neg c4 hok
    refine lv_aload_n hx hb dX0_add_7 rfl (lv_at hl 0 rfl) ?_
    refine va_get (D := D) (ci := 0) (v := .int (vB 2)) (C := RX0) (T := TX0) (N := 6) hx hb ht0 niX0 hown hK hP 0 rfl rfl 2 (by decide) (ht0 _ wd4) (fun _ h9 => h9) rfl dX0_add_8 ?_
    refine lv_sipush (v := 572) hx hb dX0_add_11 (by decide) ?_
    refine lv_icmp_ge (tgt := 37) hx hb dX0_add_14 (by decide) (fun c14 => ?_) (fun c14 => ?_)
    · have hok := k_pos c14 hok
      exact J37 vB_ruleNumbers vB H locs ls hP hD hS (lv_sub hl [] rfl) hok
    · have hok := k_neg c14 hok
      refine lv_aload_n hx hb dX0_add_17 rfl (lv_at hl 0 rfl) ?_
      refine va_get (D := D) (ci := 0) (v := .ref (qB 0)) (C := RX0) (T := TX0) (N := 6) hx hb ht0 niX0 hown hK hP 0 rfl rfl 0 (by decide) (ht0 _ wd5) (fun _ h9 => h9) rfl dX0_add_18 ?_
      refine lv_aload_n hx hb dX0_add_21 rfl (lv_at hl 0 rfl) ?_
      refine va_get (D := D) (ci := 0) (v := .int (vB 2)) (C := RX0) (T := TX0) (N := 6) hx hb ht0 niX0 hown hK hP 0 rfl rfl 2 (by decide) (ht0 _ wd4) (fun _ h9 => h9) rfl dX0_add_22 ?_
      refine lv_iload_n hx hb dX0_add_25 rfl (lv_at hl 1 rfl) ?_
      obtain ⟨g26, hok⟩ := gd_some hok
      refine va_iast hx hb hK hP hD hS 1 0 rfl rfl (okI_in g26) dX0_add_26 (fun H locs hP hD hS => ?_)
      have hP : va_P D vwCl (wX0_add cy aB qB vB (upd vB_ruleNumbers (vB 2).toNatClampNeg x1)) H := hP
      have hD : va_D A (wX0_add cy aB qB vB (upd vB_ruleNumbers (vB 2).toNatClampNeg x1)) := hD
      refine lv_aload_n hx hb dX0_add_27 rfl (lv_at hl 0 rfl) ?_
      refine lv_dup hx hb dX0_add_28 rfl ?_
      refine va_get (D := D) (ci := 0) (v := .int (vB 2)) (C := RX0) (T := TX0) (N := 6) hx hb ht0 niX0 hown hK hP 0 rfl rfl 2 (by decide) (ht0 _ wd4) (fun _ h9 => h9) rfl dX0_add_29 ?_
      refine lv_iconst (v := 1) hx hb dX0_add_32 (by decide) ?_
      refine lv_iadd hx hb dX0_add_33 ?_
      refine va_put (D := D) (ci := 0) (v := .int ((vB 2) + (1 : Int32))) (ty := .int) (C := RX0) (T := TX0) (N := 6) hx hb ht0 niX0 tyX0 tyX0_ok nmX0 hown hK hP hD hS 0 rfl rfl 2 (by decide) (ht0 _ wd4) (fun _ h9 => h9) rfl (by decide +kernel) rfl rfl (Nat.le_of_ble_eq_true rfl) dX0_add_34 (fun H locs hP hD hS => ?_)
      have hP : va_P D vwCl (wX0_add cy aB qB (upd vB 2 ((vB 2) + (1 : Int32))) (upd vB_ruleNumbers (vB 2).toNatClampNeg x1)) H := hP
      have hD : va_D A (wX0_add cy aB qB (upd vB 2 ((vB 2) + (1 : Int32))) (upd vB_ruleNumbers (vB 2).toNatClampNeg x1)) := hD
      exact J37 (upd vB_ruleNumbers (vB 2).toNatClampNeg x1) (upd vB 2 ((vB 2) + (1 : Int32))) H locs ls hP hD hS (lv_sub hl [] rfl) hok
def wsX0_learn : List Cond := .code yX0_learn cX0_learn 5 none :: W0
abbrev wX0_learn (cy : Nat → ClassId) (aB : Nat) (aH : Nat) (qB : Nat → Nat) (qH : Nat → Nat) (vB : Nat → Int32) (vH : Nat → Int32) (vH_markNights : Nat → Int32) (vH_markPlaces : Nat → Int32) (vH_markFound : Nat → Int32) (vB_ruleNumbers : Nat → Int32) : va_W := [(aB, oX0 vB qB), (aH, oX4 vH qH), (qH 17, rI cy 6 vH_markNights), (qH 18, rI cy 6 vH_markPlaces), (qH 19, rZ cy 6 vH_markFound), (qB 0, rI cy 572 vB_ruleNumbers)]
set_option maxHeartbeats 4000000 in
set_option maxRecDepth 100000 in
theorem kX0_learn (l : Launch) (D : va_G) (cy : Nat → ClassId) (sz : Nat) (aB : Nat) (aH : Nat) (qB : Nat → Nat) (qH : Nat → Nat) (vB : Nat → Int32) (vH : Nat → Int32) (vH_markNights : Nat → Int32) (vH_markPlaces : Nat → Int32) (vH_markFound : Nat → Int32) (vB_ruleNumbers : Nat → Int32) (z_vB : Nat → Int32) (z_vB_ruleNumbers : Nat → Int32) (hok : fX0_learn vB vH vH_markNights vH_markPlaces vH_markFound vB_ruleNumbers = some (z_vB, z_vB_ruleNumbers)) (A : Nat → Prop) (hAe : va_A (wX0_learn cy aB aH qB qH vB vH vH_markNights vH_markPlaces vH_markFound vB_ruleNumbers) sz = A) : Met l yX0_learn wsX0_learn ({ frames := 1, cells := 0, slots := 0, locals := 25 } : Room) (kPre D cy [.ref aB, .ref aH] (wX0_learn cy aB aH qB qH vB vH vH_markNights vH_markPlaces vH_markFound vB_ruleNumbers) sz) (kQv D cy A (wX0_learn cy aB aH qB qH z_vB vH vH_markNights vH_markPlaces vH_markFound z_vB_ruleNumbers)) 0 0 A := by
  refine Met.ofW (cc := cX0_learn) (maxL := 5) (ret := none) (by decide) rfl ?_
  intro p e s m args below meth c s₁ B hml hv
  obtain ⟨rfl, hsz, hP, hK, hD0, hN⟩ := hv
  have hx := B.exec
  have hb := B.bytes
  have hr := B.returns
  have ht0 : ∀ w ∈ W0, w.before _ s = true := fun w h => atoms_spec (ws := wsX0_learn) B.pre w (List.mem_cons_of_mem _ h)
  have hown : s.vm.findClass RX0 = some m.cls := findClass_of_methodNamed B.named
  have hlocks := B.notSynchronized
  subst hsz
  have hD : va_D A (wX0_learn cy aB aH qB qH vB vH vH_markNights vH_markPlaces vH_markFound vB_ruleNumbers) := by rw [← hAe]; exact hD0.self
  have hA : ∀ q : Nat, s.heap.size ≤ q → A q := fun q h => by rw [← hAe]; exact Or.inr h
  have hS : va_S A s.heap s.heap [] := va_S.rf
  have hl := lv_entry ([.ref aB, .ref aH]) (n := 5) (Nat.le_of_ble_eq_true rfl)
  rw [lg_entry_eq]
  generalize (lg_sl ([.ref aB, .ref aH]) ++ List.replicate (5 - (lg_sl ([.ref aB, .ref aH])).length) Slot.unset).toArray = ls at hl ⊢
  have hl : lv_has ls 5 [(0, .ref aB), (1, .ref aH)] := hl
  generalize hQe : MQ below (kQv D cy A (wX0_learn cy aB aH qB qH z_vB vH vH_markNights vH_markPlaces vH_markFound z_vB_ruleNumbers)) ([.ref aB, .ref aH] : List Value).toArray s 0 0 A = Q
  have L12 : ∀ (fuel : Nat) (y2_12 : Int32) (vB_ruleNumbers_12 : Nat → Int32) (vB_12 : Nat → Int32), ∀ (H : Heap) (locs : List Loc) (ls : Array Slot), va_P D vwCl (wX0_learn cy aB aH qB qH vB_12 vH vH_markNights vH_markPlaces vH_markFound vB_ruleNumbers_12) H → va_D A (wX0_learn cy aB aH qB qH vB_12 vH vH_markNights vH_markPlaces vH_markFound vB_ruleNumbers_12) → va_S A s.heap H locs → lv_has ls 5 [(0, .ref aB), (1, .ref aH), (2, .int y2_12)] → lp (fX0_learn_B12 vH vH_markNights vH_markPlaces vH_markFound) fuel (y2_12, vB_ruleNumbers_12, vB_12) = some (z_vB, z_vB_ruleNumbers) → W p l e ({ frames := 1, cells := 0, slots := 0, locals := 25 } : Room) s m ([.ref aB, .ref aH] : List Value).toArray below meth c H locs 0 0 Q (F0 m 12 ls []) := by
    intro fuel
    induction fuel with
    | zero => intro y2_12 vB_ruleNumbers_12 vB_12 H locs ls hP hD hS hl hok; exact (lp_0 hok).elim
    | succ fuel ih12 =>
      intro y2_12 vB_ruleNumbers_12 vB_12 H locs ls hP hD hS hl hok
      obtain ⟨y12, hok, hL12, hR12⟩ := lp_step hok
      have L20 : ∀ (fuel : Nat) (y3_20 : Int32) (vB_ruleNumbers_20 : Nat → Int32) (vB_20 : Nat → Int32), ∀ (H : Heap) (locs : List Loc) (ls : Array Slot), va_P D vwCl (wX0_learn cy aB aH qB qH vB_20 vH vH_markNights vH_markPlaces vH_markFound vB_ruleNumbers_20) H → va_D A (wX0_learn cy aB aH qB qH vB_20 vH vH_markNights vH_markPlaces vH_markFound vB_ruleNumbers_20) → va_S A s.heap H locs → lv_has ls 5 [(0, .ref aB), (1, .ref aH), (2, .int y2_12), (3, .int y3_20)] → lp (fX0_learn_B20 vH vH_markNights vH_markPlaces vH_markFound y2_12) fuel (y3_20, vB_ruleNumbers_20, vB_20) = some y12 → W p l e ({ frames := 1, cells := 0, slots := 0, locals := 25 } : Room) s m ([.ref aB, .ref aH] : List Value).toArray below meth c H locs 0 0 Q (F0 m 20 ls []) := by
        intro fuel
        induction fuel with
        | zero => intro y3_20 vB_ruleNumbers_20 vB_20 H locs ls hP hD hS hl hok; exact (lp_0 hok).elim
        | succ fuel ih20 =>
          intro y3_20 vB_ruleNumbers_20 vB_20 H locs ls hP hD hS hl hok
          obtain ⟨y20, hok, hL20, hR20⟩ := lp_step hok
          have L28 : ∀ (fuel : Nat) (y4_28 : Int32) (vB_ruleNumbers_28 : Nat → Int32) (vB_28 : Nat → Int32), ∀ (H : Heap) (locs : List Loc) (ls : Array Slot), va_P D vwCl (wX0_learn cy aB aH qB qH vB_28 vH vH_markNights vH_markPlaces vH_markFound vB_ruleNumbers_28) H → va_D A (wX0_learn cy aB aH qB qH vB_28 vH vH_markNights vH_markPlaces vH_markFound vB_ruleNumbers_28) → va_S A s.heap H locs → lv_has ls 5 [(0, .ref aB), (1, .ref aH), (2, .int y2_12), (3, .int y3_20), (4, .int y4_28)] → lp (fX0_learn_B28 vH vH_markNights vH_markPlaces vH_markFound y2_12 y3_20) fuel (y4_28, vB_ruleNumbers_28, vB_28) = some y20 → W p l e ({ frames := 1, cells := 0, slots := 0, locals := 25 } : Room) s m ([.ref aB, .ref aH] : List Value).toArray below meth c H locs 0 0 Q (F0 m 28 ls []) := by
            intro fuel
            induction fuel with
            | zero => intro y4_28 vB_ruleNumbers_28 vB_28 H locs ls hP hD hS hl hok; exact (lp_0 hok).elim
            | succ fuel ih28 =>
              intro y4_28 vB_ruleNumbers_28 vB_28 H locs ls hP hD hS hl hok
              obtain ⟨y28, hok, hL28, hR28⟩ := lp_step hok
              have J62 : ∀ (vB_ruleNumbers_62 : Nat → Int32) (vB_62 : Nat → Int32), ∀ (H : Heap) (locs : List Loc) (ls : Array Slot), va_P D vwCl (wX0_learn cy aB aH qB qH vB_62 vH vH_markNights vH_markPlaces vH_markFound vB_ruleNumbers_62) H → va_D A (wX0_learn cy aB aH qB qH vB_62 vH vH_markNights vH_markPlaces vH_markFound vB_ruleNumbers_62) → va_S A s.heap H locs → lv_has ls 5 [(0, .ref aB), (1, .ref aH), (2, .int y2_12), (3, .int y3_20), (4, .int y4_28)] → fX0_learn_J62 y4_28 vB_ruleNumbers_62 vB_62 = some y28 → W p l e ({ frames := 1, cells := 0, slots := 0, locals := 25 } : Room) s m ([.ref aB, .ref aH] : List Value).toArray below meth c H locs 0 0 Q (F0 m 62 ls []) := by
                intro vB_ruleNumbers_62 vB_62 H locs ls hP hD hS hl hok
                unfold fX0_learn_J62 at hok
                refine lv_iinc (v := (y4_28 + 1)) (lv' := [(4, .int (y4_28 + 1)), (0, .ref aB), (1, .ref aH), (2, .int y2_12), (3, .int y3_20)]) hx hb dX0_learn_62 hl (k := 4) rfl (by first | rfl | decide) (by decide) rfl (fun ls hl => ?_)
                refine lv_goto (tgt := 28) hx hb dX0_learn_65 (by decide) ?_
                exact ih28 (y4_28 + 1) vB_ruleNumbers_62 vB_62 H locs ls hP hD hS (lv_sub hl [1, 2, 3, 4, 0] rfl) (hR28 _ (Option.some.inj hok).symm)
              unfold fX0_learn_B28 at hok
              try dsimp only at hok
              refine lv_iload hx hb dX0_learn_28 (lv_at hl 4 rfl) ?_
              refine lv_iload_n hx hb dX0_learn_30 rfl (lv_at hl 2 rfl) ?_
              refine lv_icmp_ge (tgt := 68) hx hb dX0_learn_31 (by decide) (fun c31 => ?_) (fun c31 => ?_)
              · have hok := k_pos c31 hok
                obtain ⟨e28, hok, he28⟩ := ex_some hok
                have hok := hok.trans (congrArg some (hL28 _ he28))
                refine lv_iinc (v := (y3_20 + 1)) (lv' := [(3, .int (y3_20 + 1)), (0, .ref aB), (1, .ref aH), (2, .int y2_12), (4, .int y4_28)]) hx hb dX0_learn_68 hl (k := 3) rfl (by first | rfl | decide) (by decide) rfl (fun ls hl => ?_)
                refine lv_goto (tgt := 20) hx hb dX0_learn_71 (by decide) ?_
                exact ih20 (y3_20 + 1) vB_ruleNumbers_28 vB_28 H locs ls hP hD hS (lv_sub hl [1, 2, 3, 0] rfl) (hR20 _ (Option.some.inj hok).symm)
              · have hok := k_neg c31 hok
                refine lv_aload_n hx hb dX0_learn_34 rfl (lv_at hl 1 rfl) ?_
                refine lv_iload_n hx hb dX0_learn_35 rfl (lv_at hl 2 rfl) ?_
                refine lv_iload_n hx hb dX0_learn_36 rfl (lv_at hl 3 rfl) ?_
                refine lv_iload hx hb dX0_learn_37 (lv_at hl 4 rfl) ?_
                obtain ⟨r39, hc39, hok⟩ := k_bind hok
                refine kCi (wc := (wX4_allowsRule cy aH qH vH vH_markNights vH_markPlaces vH_markFound)) (wc2 := (wX4_allowsRule cy aH qH vH vH_markNights vH_markPlaces vH_markFound)) (wr := [(aB, oX0 vB_28 qB), (qB 0, rI cy 572 vB_ruleNumbers_28)]) (ws2 := (wX0_learn cy aB aH qB qH vB_28 vH vH_markNights vH_markPlaces vH_markFound vB_ruleNumbers_28)) (kRunV (As := [.int y2_12, .int y3_20, .int y4_28]) (rest := []) ⟨hx, hb, hml, hown, ht0⟩ (kX4_allowsRule l D cy _ aH qH vH vH_markNights vH_markPlaces vH_markFound y2_12 y3_20 y4_28 r39 hc39 _ rfl) (cwV 3 ht0 (gV wd6 wd7 wd8 wd9 wd10) rfl rfl rfl (by decide +kernel) ⟨Nat.le_of_ble_eq_true rfl, Nat.le_of_ble_eq_true rfl⟩) hK hN hP hD [1, 2, 3, 4] rfl (by decide) 1 3 rfl rfl rfl hl.1 rfl (Nat.le_of_ble_eq_true rfl) dX0_learn_39 ⟨Nat.zero_le _, Nat.zero_le _⟩) hP hD hS hA [1, 2, 3, 4] [0, 5] rfl rfl (by decide) (by decide) [0, 2, 3, 4, 5, 1] (by decide) rfl rfl (fun H locs hP hD hS => ?_)
                refine lv_if_eq (tgt := 62) hx hb dX0_learn_42 (by decide) (fun c42 => ?_) (fun c42 => ?_)
                · have hok := k_pos c42 hok
                  exact J62 vB_ruleNumbers_28 vB_28 H locs ls hP hD hS (lv_sub hl [0, 1, 2, 3, 4] rfl) hok
                · have hok := k_neg c42 hok
                  refine lv_aload_n hx hb dX0_learn_45 rfl (lv_at hl 0 rfl) ?_
                  refine lv_sipush (v := 10000) hx hb dX0_learn_46 (by decide) ?_
                  refine lv_iload_n hx hb dX0_learn_49 rfl (lv_at hl 2 rfl) ?_
                  refine lv_imul hx hb dX0_learn_50 ?_
                  refine lv_bipush (v := 100) hx hb dX0_learn_51 (by decide) ?_
                  refine lv_iload_n hx hb dX0_learn_53 rfl (lv_at hl 3 rfl) ?_
                  refine lv_imul hx hb dX0_learn_54 ?_
                  refine lv_iadd hx hb dX0_learn_55 ?_
                  refine lv_iload hx hb dX0_learn_56 (lv_at hl 4 rfl) ?_
                  refine lv_iadd hx hb dX0_learn_58 ?_
                  obtain ⟨⟨vB_59, vB_ruleNumbers_59⟩, hc59, hok⟩ := k_bind hok
                  try dsimp only at hok
                  refine kCv (wc := (wX0_add cy aB qB vB_28 vB_ruleNumbers_28)) (wc2 := (wX0_add cy aB qB vB_59 vB_ruleNumbers_59)) (wr := [(aH, oX4 vH qH), (qH 17, rI cy 6 vH_markNights), (qH 18, rI cy 6 vH_markPlaces), (qH 19, rZ cy 6 vH_markFound)]) (ws2 := (wX0_learn cy aB aH qB qH vB_59 vH vH_markNights vH_markPlaces vH_markFound vB_ruleNumbers_59)) (kRunV (As := [.int ((((10000 : Int32) * y2_12) + ((100 : Int32) * y3_20)) + y4_28)]) (rest := []) ⟨hx, hb, hml, hown, ht0⟩ (kX0_add l D cy _ aB qB vB_28 vB_ruleNumbers_28 ((((10000 : Int32) * y2_12) + ((100 : Int32) * y3_20)) + y4_28) vB_59 vB_ruleNumbers_59 hc59 _ rfl) (cwV 1 ht0 (gV wd11 wd12 wd13 wd14 wd15) rfl rfl rfl (by decide +kernel) ⟨Nat.le_of_ble_eq_true rfl, Nat.le_of_ble_eq_true rfl⟩) hK hN hP hD [0, 5] rfl (by decide) 0 0 rfl rfl rfl hl.1 rfl (Nat.le_of_ble_eq_true rfl) dX0_learn_59 ⟨Nat.zero_le _, Nat.zero_le _⟩) hP hD hS hA [0, 5] [1, 2, 3, 4] rfl rfl (by decide) (by decide) [4, 0, 1, 2, 3, 5] (by decide) rfl rfl (fun H locs hP hD hS => ?_)
                  exact J62 vB_ruleNumbers_59 vB_59 H locs ls hP hD hS (lv_sub hl [0, 1, 2, 3, 4] rfl) hok
          unfold fX0_learn_B20 at hok
          try dsimp only at hok
          refine lv_iload_n hx hb dX0_learn_20 rfl (lv_at hl 3 rfl) ?_
          refine lv_iload_n hx hb dX0_learn_21 rfl (lv_at hl 2 rfl) ?_
          refine lv_icmp_ge (tgt := 74) hx hb dX0_learn_22 (by decide) (fun c22 => ?_) (fun c22 => ?_)
          · have hok := k_pos c22 hok
            obtain ⟨e20, hok, he20⟩ := ex_some hok
            have hok := hok.trans (congrArg some (hL20 _ he20))
            refine lv_iinc (v := (y2_12 + 1)) (lv' := [(2, .int (y2_12 + 1)), (0, .ref aB), (1, .ref aH), (3, .int y3_20)]) hx hb dX0_learn_74 hl (k := 2) rfl (by first | rfl | decide) (by decide) rfl (fun ls hl => ?_)
            refine lv_goto (tgt := 12) hx hb dX0_learn_77 (by decide) ?_
            exact ih12 (y2_12 + 1) vB_ruleNumbers_20 vB_20 H locs ls hP hD hS (lv_sub hl [1, 2, 0] rfl) (hR12 _ (Option.some.inj hok).symm)
          · have hok := k_neg c22 hok
            refine lv_iconst (v := 0) hx hb dX0_learn_25 (by decide) ?_
            refine lv_istore (lv' := [(4, .int 0), (0, .ref aB), (1, .ref aH), (2, .int y2_12), (3, .int y3_20)]) hx hb dX0_learn_26 hl (by decide) rfl (fun ls hl => ?_)
            exact L28 5000 (0 : Int32) vB_ruleNumbers_20 vB_20 H locs ls hP hD hS (lv_sub hl [1, 2, 3, 4, 0] rfl) hok
      unfold fX0_learn_B12 at hok
      try dsimp only at hok
      refine lv_iload_n hx hb dX0_learn_12 rfl (lv_at hl 2 rfl) ?_
      refine lv_bipush (v := 12) hx hb dX0_learn_13 (by decide) ?_
      refine lv_icmp_gt (tgt := 80) hx hb dX0_learn_15 (by decide) (fun c15 => ?_) (fun c15 => ?_)
      · have hok := k_pos c15 hok
        obtain ⟨e12, hok, he12⟩ := ex_some hok
        have hok := hok.trans (congrArg some (hL12 _ he12))
        cases hok
        subst hQe; exact W.vret hx hb hr (fun t ht hW => ⟨⟨(), rfl, trivial, by rw [ht]; exact hP, va_K.moved hW.alike hK, hD⟩, hS.F ht⟩) hS.2.2 dX0_learn_80
      · have hok := k_neg c15 hok
        refine lv_iconst (v := 1) hx hb dX0_learn_18 (by decide) ?_
        refine lv_istore_n (lv' := [(3, .int 1), (0, .ref aB), (1, .ref aH), (2, .int y2_12)]) hx hb dX0_learn_19 rfl hl (by decide) rfl (fun ls hl => ?_)
        exact L20 5000 (1 : Int32) vB_ruleNumbers_12 vB_12 H locs ls hP hD hS (lv_sub hl [1, 2, 3, 0] rfl) hok
  unfold fX0_learn at hok
  obtain ⟨H, hH⟩ : ∃ H, H = s.heap := ⟨_, rfl⟩
  obtain ⟨locs, hlc⟩ : ∃ x : List Loc, x = [] := ⟨_, rfl⟩
  have hP : va_P D vwCl (wX0_learn cy aB aH qB qH vB vH vH_markNights vH_markPlaces vH_markFound vB_ruleNumbers) H := by rw [hH]; exact hP
  have hS : va_S A s.heap H locs := by rw [hH, hlc]; exact hS
  rw [show W p l e _ s m _ below meth c s.heap [] = W p l e _ s m _ below meth c H locs from by rw [hH, hlc]]
  refine lv_aload_n hx hb dX0_learn_0 rfl (lv_at hl 0 rfl) ?_
  refine lv_iconst (v := 0) hx hb dX0_learn_1 (by decide) ?_
  refine va_put (D := D) (ci := 0) (v := .int 0) (ty := .int) (C := RX0) (T := TX0) (N := 6) hx hb ht0 niX0 tyX0 tyX0_ok nmX0 hown hK hP hD hS 0 rfl rfl 2 (by decide) (ht0 _ wd4) (fun _ h9 => h9) rfl (by decide +kernel) rfl rfl (Nat.le_of_ble_eq_true rfl) dX0_learn_2 (fun H locs hP hD hS => ?_)
  have hP : va_P D vwCl (wX0_learn cy aB aH qB qH (upd vB 2 (0 : Int32)) vH vH_markNights vH_markPlaces vH_markFound vB_ruleNumbers) H := hP
  have hD : va_D A (wX0_learn cy aB aH qB qH (upd vB 2 (0 : Int32)) vH vH_markNights vH_markPlaces vH_markFound vB_ruleNumbers) := hD
  refine lv_aload_n hx hb dX0_learn_5 rfl (lv_at hl 0 rfl) ?_
  refine lv_iconst (v := 0) hx hb dX0_learn_6 (by decide) ?_
  refine va_put (D := D) (ci := 0) (v := .int 0) (ty := .boolean) (C := RX0) (T := TX0) (N := 6) hx hb ht0 niX0 tyX0 tyX0_ok nmX0 hown hK hP hD hS 0 rfl rfl 3 (by decide) (ht0 _ wd16) (fun _ h9 => h9) rfl (by decide +kernel) rfl rfl (Nat.le_of_ble_eq_true rfl) dX0_learn_7 (fun H locs hP hD hS => ?_)
  have hP : va_P D vwCl (wX0_learn cy aB aH qB qH (upd (upd vB 2 (0 : Int32)) 3 (0 : Int32)) vH vH_markNights vH_markPlaces vH_markFound vB_ruleNumbers) H := hP
  have hD : va_D A (wX0_learn cy aB aH qB qH (upd (upd vB 2 (0 : Int32)) 3 (0 : Int32)) vH vH_markNights vH_markPlaces vH_markFound vB_ruleNumbers) := hD
  refine lv_iconst (v := 2) hx hb dX0_learn_10 (by decide) ?_
  refine lv_istore_n (lv' := [(2, .int 2), (0, .ref aB), (1, .ref aH)]) hx hb dX0_learn_11 rfl hl (by decide) rfl (fun ls hl => ?_)
  exact L12 5000 (2 : Int32) vB_ruleNumbers (upd (upd vB 2 (0 : Int32)) 3 (0 : Int32)) H locs ls hP hD hS (lv_sub hl [1, 2, 0] rfl) hok
def wsX0_count : List Cond := .code yX0_count cX0_count 1 (some .int) :: W0
abbrev wX0_count (cy : Nat → ClassId) (aB : Nat) (qB : Nat → Nat) (vB : Nat → Int32) : va_W := [(aB, oX0 vB qB)]
set_option maxHeartbeats 4000000 in
set_option maxRecDepth 100000 in
theorem kX0_count (l : Launch) (D : va_G) (cy : Nat → ClassId) (sz : Nat) (aB : Nat) (qB : Nat → Nat) (vB : Nat → Int32) (zr : Int32) (hok : fX0_count vB = some zr) (A : Nat → Prop) (hAe : va_A (wX0_count cy aB qB vB) sz = A) : Met l yX0_count wsX0_count ({ frames := 0, cells := 0, slots := 0, locals := 0 } : Room) (kPre D cy [.ref aB] (wX0_count cy aB qB vB) sz) (kQi D cy zr A (wX0_count cy aB qB vB)) 0 0 A := by
  refine Met.ofW (cc := cX0_count) (maxL := 1) (ret := (some .int)) (by decide) rfl ?_
  intro p e s m args below meth c s₁ B hml hv
  obtain ⟨rfl, hsz, hP, hK, hD0, hN⟩ := hv
  have hx := B.exec
  have hb := B.bytes
  have hr := B.returns
  have ht0 : ∀ w ∈ W0, w.before _ s = true := fun w h => atoms_spec (ws := wsX0_count) B.pre w (List.mem_cons_of_mem _ h)
  have hown : s.vm.findClass RX0 = some m.cls := findClass_of_methodNamed B.named
  have hlocks := B.notSynchronized
  subst hsz
  have hD : va_D A (wX0_count cy aB qB vB) := by rw [← hAe]; exact hD0.self
  have hA : ∀ q : Nat, s.heap.size ≤ q → A q := fun q h => by rw [← hAe]; exact Or.inr h
  have hS : va_S A s.heap s.heap [] := va_S.rf
  have hl := lv_entry ([.ref aB]) (n := 1) (Nat.le_of_ble_eq_true rfl)
  rw [lg_entry_eq]
  generalize (lg_sl ([.ref aB]) ++ List.replicate (1 - (lg_sl ([.ref aB])).length) Slot.unset).toArray = ls at hl ⊢
  have hl : lv_has ls 1 [(0, .ref aB)] := hl
  unfold fX0_count at hok
  obtain ⟨H, hH⟩ : ∃ H, H = s.heap := ⟨_, rfl⟩
  obtain ⟨locs, hlc⟩ : ∃ x : List Loc, x = [] := ⟨_, rfl⟩
  have hP : va_P D vwCl (wX0_count cy aB qB vB) H := by rw [hH]; exact hP
  have hS : va_S A s.heap H locs := by rw [hH, hlc]; exact hS
  rw [show W p l e _ s m _ below meth c s.heap [] = W p l e _ s m _ below meth c H locs from by rw [hH, hlc]]
  refine lv_aload_n hx hb dX0_count_0 rfl (lv_at hl 0 rfl) ?_
  refine va_get (D := D) (ci := 0) (v := .int (vB 2)) (C := RX0) (T := TX0) (N := 6) hx hb ht0 niX0 hown hK hP 0 rfl rfl 2 (by decide) (ht0 _ wd4) (fun _ h9 => h9) rfl dX0_count_1 ?_
  cases hok
  exact W.iret hx hb hr (fun t ht hW => ⟨⟨_, (), rfl, rfl, by rw [ht]; exact hP, va_K.moved hW.alike hK, hD⟩, hS.F ht⟩) hS.2.2 dX0_count_4
def wsX0_ruleNumber : List Cond := .code yX0_ruleNumber cX0_ruleNumber 2 (some .int) :: W0
abbrev wX0_ruleNumber (cy : Nat → ClassId) (aB : Nat) (qB : Nat → Nat) (vB : Nat → Int32) (vB_ruleNumbers : Nat → Int32) : va_W := [(aB, oX0 vB qB), (qB 0, rI cy 572 vB_ruleNumbers)]
set_option maxHeartbeats 4000000 in
set_option maxRecDepth 100000 in
theorem kX0_ruleNumber (l : Launch) (D : va_G) (cy : Nat → ClassId) (sz : Nat) (aB : Nat) (qB : Nat → Nat) (vB : Nat → Int32) (vB_ruleNumbers : Nat → Int32) (x1 : Int32) (zr : Int32) (hok : fX0_ruleNumber vB vB_ruleNumbers x1 = some zr) (A : Nat → Prop) (hAe : va_A (wX0_ruleNumber cy aB qB vB vB_ruleNumbers) sz = A) : Met l yX0_ruleNumber wsX0_ruleNumber ({ frames := 0, cells := 0, slots := 0, locals := 0 } : Room) (kPre D cy [.ref aB, .int x1] (wX0_ruleNumber cy aB qB vB vB_ruleNumbers) sz) (kQi D cy zr A (wX0_ruleNumber cy aB qB vB vB_ruleNumbers)) 0 0 A := by
  refine Met.ofW (cc := cX0_ruleNumber) (maxL := 2) (ret := (some .int)) (by decide) rfl ?_
  intro p e s m args below meth c s₁ B hml hv
  obtain ⟨rfl, hsz, hP, hK, hD0, hN⟩ := hv
  have hx := B.exec
  have hb := B.bytes
  have hr := B.returns
  have ht0 : ∀ w ∈ W0, w.before _ s = true := fun w h => atoms_spec (ws := wsX0_ruleNumber) B.pre w (List.mem_cons_of_mem _ h)
  have hown : s.vm.findClass RX0 = some m.cls := findClass_of_methodNamed B.named
  have hlocks := B.notSynchronized
  subst hsz
  have hD : va_D A (wX0_ruleNumber cy aB qB vB vB_ruleNumbers) := by rw [← hAe]; exact hD0.self
  have hA : ∀ q : Nat, s.heap.size ≤ q → A q := fun q h => by rw [← hAe]; exact Or.inr h
  have hS : va_S A s.heap s.heap [] := va_S.rf
  have hl := lv_entry ([.ref aB, .int x1]) (n := 2) (Nat.le_of_ble_eq_true rfl)
  rw [lg_entry_eq]
  generalize (lg_sl ([.ref aB, .int x1]) ++ List.replicate (2 - (lg_sl ([.ref aB, .int x1])).length) Slot.unset).toArray = ls at hl ⊢
  have hl : lv_has ls 2 [(0, .ref aB), (1, .int x1)] := hl
  generalize hQe : MQ below (kQi D cy zr A (wX0_ruleNumber cy aB qB vB vB_ruleNumbers)) ([.ref aB, .int x1] : List Value).toArray s 0 0 A = Q
  have J29 : ∀ (t0_29 : Int32), ∀ (H : Heap) (locs : List Loc) (ls : Array Slot), va_P D vwCl (wX0_ruleNumber cy aB qB vB vB_ruleNumbers) H → va_D A (wX0_ruleNumber cy aB qB vB vB_ruleNumbers) → va_S A s.heap H locs → lv_has ls 2 [] → fX0_ruleNumber_J29 t0_29 = some zr → W p l e ({ frames := 0, cells := 0, slots := 0, locals := 0 } : Room) s m ([.ref aB, .int x1] : List Value).toArray below meth c H locs 0 0 Q (F0 m 29 ls [.int t0_29]) := by
    intro t0_29 H locs ls hP hD hS hl hok
    unfold fX0_ruleNumber_J29 at hok
    cases hok
    subst hQe; exact W.iret hx hb hr (fun t ht hW => ⟨⟨_, (), rfl, rfl, by rw [ht]; exact hP, va_K.moved hW.alike hK, hD⟩, hS.F ht⟩) hS.2.2 dX0_ruleNumber_29
  have J28 : ∀ (H : Heap) (locs : List Loc) (ls : Array Slot), va_P D vwCl (wX0_ruleNumber cy aB qB vB vB_ruleNumbers) H → va_D A (wX0_ruleNumber cy aB qB vB vB_ruleNumbers) → va_S A s.heap H locs → lv_has ls 2 [] → fX0_ruleNumber_J28 = some zr → W p l e ({ frames := 0, cells := 0, slots := 0, locals := 0 } : Room) s m ([.ref aB, .int x1] : List Value).toArray below meth c H locs 0 0 Q (F0 m 28 ls []) := by
    intro  H locs ls hP hD hS hl hok
    unfold fX0_ruleNumber_J28 at hok
    refine lv_iconst (v := 0) hx hb dX0_ruleNumber_28 (by decide) ?_
    exact J29 (0 : Int32) H locs ls hP hD hS (lv_sub hl [] rfl) hok
  unfold fX0_ruleNumber at hok
  obtain ⟨H, hH⟩ : ∃ H, H = s.heap := ⟨_, rfl⟩
  obtain ⟨locs, hlc⟩ : ∃ x : List Loc, x = [] := ⟨_, rfl⟩
  have hP : va_P D vwCl (wX0_ruleNumber cy aB qB vB vB_ruleNumbers) H := by rw [hH]; exact hP
  have hS : va_S A s.heap H locs := by rw [hH, hlc]; exact hS
  rw [show W p l e _ s m _ below meth c s.heap [] = W p l e _ s m _ below meth c H locs from by rw [hH, hlc]]
  refine lv_iload_n hx hb dX0_ruleNumber_0 rfl (lv_at hl 1 rfl) ?_
  refine lv_if_lt (tgt := 28) hx hb dX0_ruleNumber_1 (by decide) (fun c1 => ?_) (fun c1 => ?_)
  · have hok := k_pos c1 hok
    exact J28  H locs ls hP hD hS (lv_sub hl [] rfl) hok
  · have hok := k_neg c1 hok
    refine lv_iload_n hx hb dX0_ruleNumber_4 rfl (lv_at hl 1 rfl) ?_
    refine lv_aload_n hx hb dX0_ruleNumber_5 rfl (lv_at hl 0 rfl) ?_
    refine va_get (D := D) (ci := 0) (v := .int (vB 2)) (C := RX0) (T := TX0) (N := 6) hx hb ht0 niX0 hown hK hP 0 rfl rfl 2 (by decide) (ht0 _ wd4) (fun _ h9 => h9) rfl dX0_ruleNumber_6 ?_
    refine lv_icmp_ge (tgt := 28) hx hb dX0_ruleNumber_9 (by decide) (fun c9 => ?_) (fun c9 => ?_)
    · have hok := k_pos c9 hok
      exact J28  H locs ls hP hD hS (lv_sub hl [] rfl) hok
    · have hok := k_neg c9 hok
      refine lv_iload_n hx hb dX0_ruleNumber_12 rfl (lv_at hl 1 rfl) ?_
      refine lv_sipush (v := 572) hx hb dX0_ruleNumber_13 (by decide) ?_
      refine lv_icmp_ge (tgt := 28) hx hb dX0_ruleNumber_16 (by decide) (fun c16 => ?_) (fun c16 => ?_)
      · have hok := k_pos c16 hok
        exact J28  H locs ls hP hD hS (lv_sub hl [] rfl) hok
      · have hok := k_neg c16 hok
        refine lv_aload_n hx hb dX0_ruleNumber_19 rfl (lv_at hl 0 rfl) ?_
        refine va_get (D := D) (ci := 0) (v := .ref (qB 0)) (C := RX0) (T := TX0) (N := 6) hx hb ht0 niX0 hown hK hP 0 rfl rfl 0 (by decide) (ht0 _ wd5) (fun _ h9 => h9) rfl dX0_ruleNumber_20 ?_
        refine lv_iload_n hx hb dX0_ruleNumber_23 rfl (lv_at hl 1 rfl) ?_
        obtain ⟨g24, hok⟩ := gd_some hok
        refine va_iald hx hb hK hP 1 0 rfl rfl (okI_in g24) dX0_ruleNumber_24 ?_
        refine lv_goto (tgt := 29) hx hb dX0_ruleNumber_25 (by decide) ?_
        exact J29 (vB_ruleNumbers x1.toNatClampNeg) H locs ls hP hD hS (lv_sub hl [] rfl) hok
def wsX0_placeBy : List Cond := .code yX0_placeBy cX0_placeBy 3 (some .int) :: W0
abbrev wX0_placeBy (cy : Nat → ClassId)  : va_W := []
set_option maxHeartbeats 4000000 in
set_option maxRecDepth 100000 in
theorem kX0_placeBy (l : Launch) (D : va_G) (cy : Nat → ClassId) (sz : Nat) (x0 : Int32) (x1 : Int32) (zr : Int32) (hok : fX0_placeBy x0 x1 = some zr) (A : Nat → Prop) (hAe : va_A (wX0_placeBy cy ) sz = A) : Met l yX0_placeBy wsX0_placeBy ({ frames := 0, cells := 0, slots := 0, locals := 0 } : Room) (kPre D cy [.int x0, .int x1] (wX0_placeBy cy ) sz) (kQi D cy zr A (wX0_placeBy cy )) 0 0 A := by
  refine Met.ofW (cc := cX0_placeBy) (maxL := 3) (ret := (some .int)) (by decide) rfl ?_
  intro p e s m args below meth c s₁ B hml hv
  obtain ⟨rfl, hsz, hP, hK, hD0, hN⟩ := hv
  have hx := B.exec
  have hb := B.bytes
  have hr := B.returns
  have ht0 : ∀ w ∈ W0, w.before _ s = true := fun w h => atoms_spec (ws := wsX0_placeBy) B.pre w (List.mem_cons_of_mem _ h)
  have hown : s.vm.findClass RX0 = some m.cls := findClass_of_methodNamed B.named
  have hlocks := B.notSynchronized
  subst hsz
  have hD : va_D A (wX0_placeBy cy ) := by rw [← hAe]; exact hD0.self
  have hA : ∀ q : Nat, s.heap.size ≤ q → A q := fun q h => by rw [← hAe]; exact Or.inr h
  have hS : va_S A s.heap s.heap [] := va_S.rf
  have hl := lv_entry ([.int x0, .int x1]) (n := 3) (Nat.le_of_ble_eq_true rfl)
  rw [lg_entry_eq]
  generalize (lg_sl ([.int x0, .int x1]) ++ List.replicate (3 - (lg_sl ([.int x0, .int x1])).length) Slot.unset).toArray = ls at hl ⊢
  have hl : lv_has ls 3 [(0, .int x0), (1, .int x1)] := hl
  unfold fX0_placeBy at hok
  obtain ⟨H, hH⟩ : ∃ H, H = s.heap := ⟨_, rfl⟩
  obtain ⟨locs, hlc⟩ : ∃ x : List Loc, x = [] := ⟨_, rfl⟩
  have hP : va_P D vwCl (wX0_placeBy cy ) H := by rw [hH]; exact hP
  have hS : va_S A s.heap H locs := by rw [hH, hlc]; exact hS
  rw [show W p l e _ s m _ below meth c s.heap [] = W p l e _ s m _ below meth c H locs from by rw [hH, hlc]]
  refine lv_iload_n hx hb dX0_placeBy_0 rfl (lv_at hl 0 rfl) ?_
  refine lv_sipush (v := 10000) hx hb dX0_placeBy_1 (by decide) ?_
  refine lv_idiv hx hb dX0_placeBy_4 (by decide) ?_
  refine lv_istore_n (lv' := [(2, .int (x0 / (10000 : Int32))), (0, .int x0), (1, .int x1)]) hx hb dX0_placeBy_5 rfl hl (by decide) rfl (fun ls hl => ?_)
  refine lv_iload_n hx hb dX0_placeBy_6 rfl (lv_at hl 0 rfl) ?_
  refine lv_if_gt (tgt := 12) hx hb dX0_placeBy_7 (by decide) (fun c7 => ?_) (fun c7 => ?_)
  · have hok := k_pos c7 hok
    refine lv_iload_n hx hb dX0_placeBy_12 rfl (lv_at hl 1 rfl) ?_
    refine lv_bipush (v := 100) hx hb dX0_placeBy_13 (by decide) ?_
    refine lv_irem hx hb dX0_placeBy_15 (by decide) ?_
    refine lv_iload_n hx hb dX0_placeBy_16 rfl (lv_at hl 1 rfl) ?_
    refine lv_bipush (v := 100) hx hb dX0_placeBy_17 (by decide) ?_
    refine lv_idiv hx hb dX0_placeBy_19 (by decide) ?_
    refine lv_bipush (v := 100) hx hb dX0_placeBy_20 (by decide) ?_
    refine lv_irem hx hb dX0_placeBy_22 (by decide) ?_
    refine lv_iload_n hx hb dX0_placeBy_23 rfl (lv_at hl 2 rfl) ?_
    refine lv_imul hx hb dX0_placeBy_24 ?_
    refine lv_iadd hx hb dX0_placeBy_25 ?_
    refine lv_iload_n hx hb dX0_placeBy_26 rfl (lv_at hl 0 rfl) ?_
    obtain ⟨g27, hok⟩ := gd_some hok
    refine lv_irem hx hb dX0_placeBy_27 (nzI_ne g27) ?_
    cases hok
    exact W.iret hx hb hr (fun t ht hW => ⟨⟨_, (), rfl, rfl, by rw [ht]; exact hP, va_K.moved hW.alike hK, hD⟩, hS.F ht⟩) hS.2.2 dX0_placeBy_28
  · have hok := k_neg c7 hok
    refine lv_iconst (v := 0) hx hb dX0_placeBy_10 (by decide) ?_
    cases hok
    exact W.iret hx hb hr (fun t ht hW => ⟨⟨_, (), rfl, rfl, by rw [ht]; exact hP, va_K.moved hW.alike hK, hD⟩, hS.F ht⟩) hS.2.2 dX0_placeBy_11
def wsX0_countAt : List Cond := .code yX0_countAt cX0_countAt 5 (some .int) :: W0
abbrev wX0_countAt (cy : Nat → ClassId) (aB : Nat) (qB : Nat → Nat) (vB : Nat → Int32) (vB_ruleNumbers : Nat → Int32) : va_W := [(aB, oX0 vB qB), (qB 0, rI cy 572 vB_ruleNumbers)]
set_option maxHeartbeats 4000000 in
set_option maxRecDepth 100000 in
theorem kX0_countAt (l : Launch) (D : va_G) (cy : Nat → ClassId) (sz : Nat) (aB : Nat) (qB : Nat → Nat) (vB : Nat → Int32) (vB_ruleNumbers : Nat → Int32) (x1 : Int32) (x2 : Int32) (zr : Int32) (hok : fX0_countAt vB vB_ruleNumbers x1 x2 = some zr) (A : Nat → Prop) (hAe : va_A (wX0_countAt cy aB qB vB vB_ruleNumbers) sz = A) : Met l yX0_countAt wsX0_countAt ({ frames := 1, cells := 0, slots := 0, locals := 22 } : Room) (kPre D cy [.ref aB, .int x1, .int x2] (wX0_countAt cy aB qB vB vB_ruleNumbers) sz) (kQi D cy zr A (wX0_countAt cy aB qB vB vB_ruleNumbers)) 0 0 A := by
  refine Met.ofW (cc := cX0_countAt) (maxL := 5) (ret := (some .int)) (by decide) rfl ?_
  intro p e s m args below meth c s₁ B hml hv
  obtain ⟨rfl, hsz, hP, hK, hD0, hN⟩ := hv
  have hx := B.exec
  have hb := B.bytes
  have hr := B.returns
  have ht0 : ∀ w ∈ W0, w.before _ s = true := fun w h => atoms_spec (ws := wsX0_countAt) B.pre w (List.mem_cons_of_mem _ h)
  have hown : s.vm.findClass RX0 = some m.cls := findClass_of_methodNamed B.named
  have hlocks := B.notSynchronized
  subst hsz
  have hD : va_D A (wX0_countAt cy aB qB vB vB_ruleNumbers) := by rw [← hAe]; exact hD0.self
  have hA : ∀ q : Nat, s.heap.size ≤ q → A q := fun q h => by rw [← hAe]; exact Or.inr h
  have hS : va_S A s.heap s.heap [] := va_S.rf
  have hl := lv_entry ([.ref aB, .int x1, .int x2]) (n := 5) (Nat.le_of_ble_eq_true rfl)
  rw [lg_entry_eq]
  generalize (lg_sl ([.ref aB, .int x1, .int x2]) ++ List.replicate (5 - (lg_sl ([.ref aB, .int x1, .int x2])).length) Slot.unset).toArray = ls at hl ⊢
  have hl : lv_has ls 5 [(0, .ref aB), (1, .int x1), (2, .int x2)] := hl
  generalize hQe : MQ below (kQi D cy zr A (wX0_countAt cy aB qB vB vB_ruleNumbers)) ([.ref aB, .int x1, .int x2] : List Value).toArray s 0 0 A = Q
  have L5 : ∀ (fuel : Nat) (y3_5 : Int32) (y4_5 : Int32), ∀ (H : Heap) (locs : List Loc) (ls : Array Slot), va_P D vwCl (wX0_countAt cy aB qB vB vB_ruleNumbers) H → va_D A (wX0_countAt cy aB qB vB vB_ruleNumbers) → va_S A s.heap H locs → lv_has ls 5 [(0, .ref aB), (1, .int x1), (2, .int x2), (3, .int y3_5), (4, .int y4_5)] → lp (fX0_countAt_B5 vB vB_ruleNumbers x1 x2) fuel (y3_5, y4_5) = some zr → W p l e ({ frames := 1, cells := 0, slots := 0, locals := 22 } : Room) s m ([.ref aB, .int x1, .int x2] : List Value).toArray below meth c H locs 0 0 Q (F0 m 5 ls []) := by
    intro fuel
    induction fuel with
    | zero => intro y3_5 y4_5 H locs ls hP hD hS hl hok; exact (lp_0 hok).elim
    | succ fuel ih5 =>
      intro y3_5 y4_5 H locs ls hP hD hS hl hok
      obtain ⟨y5, hok, hL5, hR5⟩ := lp_step hok
      have J34 : ∀ (t0_34 : Int32), ∀ (H : Heap) (locs : List Loc) (ls : Array Slot), va_P D vwCl (wX0_countAt cy aB qB vB vB_ruleNumbers) H → va_D A (wX0_countAt cy aB qB vB vB_ruleNumbers) → va_S A s.heap H locs → lv_has ls 5 [(0, .ref aB), (1, .int x1), (2, .int x2), (4, .int y4_5)] → fX0_countAt_J34 y3_5 y4_5 t0_34 = some y5 → W p l e ({ frames := 1, cells := 0, slots := 0, locals := 22 } : Room) s m ([.ref aB, .int x1, .int x2] : List Value).toArray below meth c H locs 0 0 Q (F0 m 34 ls [.int t0_34, .int y3_5]) := by
        intro t0_34 H locs ls hP hD hS hl hok
        unfold fX0_countAt_J34 at hok
        refine lv_iadd hx hb dX0_countAt_34 ?_
        refine lv_istore_n (lv' := [(3, .int (y3_5 + t0_34)), (0, .ref aB), (1, .int x1), (2, .int x2), (4, .int y4_5)]) hx hb dX0_countAt_35 rfl hl (by decide) rfl (fun ls hl => ?_)
        refine lv_iinc (v := (y4_5 + 1)) (lv' := [(4, .int (y4_5 + 1)), (3, .int (y3_5 + t0_34)), (0, .ref aB), (1, .int x1), (2, .int x2)]) hx hb dX0_countAt_36 hl (k := 4) rfl (by first | rfl | decide) (by decide) rfl (fun ls hl => ?_)
        refine lv_goto (tgt := 5) hx hb dX0_countAt_39 (by decide) ?_
        exact ih5 (y3_5 + t0_34) (y4_5 + 1) H locs ls hP hD hS (lv_sub hl [2, 3, 4, 1, 0] rfl) (hR5 _ (Option.some.inj hok).symm)
      unfold fX0_countAt_B5 at hok
      try dsimp only at hok
      refine lv_iload hx hb dX0_countAt_5 (lv_at hl 4 rfl) ?_
      refine lv_aload_n hx hb dX0_countAt_7 rfl (lv_at hl 0 rfl) ?_
      refine va_get (D := D) (ci := 0) (v := .int (vB 2)) (C := RX0) (T := TX0) (N := 6) hx hb ht0 niX0 hown hK hP 0 rfl rfl 2 (by decide) (ht0 _ wd4) (fun _ h9 => h9) rfl dX0_countAt_8 ?_
      refine lv_icmp_ge (tgt := 42) hx hb dX0_countAt_11 (by decide) (fun c11 => ?_) (fun c11 => ?_)
      · have hok := k_pos c11 hok
        obtain ⟨e5, hok, he5⟩ := ex_some hok
        have hok := hok.trans (congrArg some (hL5 _ he5))
        refine lv_iload_n hx hb dX0_countAt_42 rfl (lv_at hl 3 rfl) ?_
        cases hok
        subst hQe; exact W.iret hx hb hr (fun t ht hW => ⟨⟨_, (), rfl, rfl, by rw [ht]; exact hP, va_K.moved hW.alike hK, hD⟩, hS.F ht⟩) hS.2.2 dX0_countAt_43
      · have hok := k_neg c11 hok
        refine lv_iload_n hx hb dX0_countAt_14 rfl (lv_at hl 3 rfl) ?_
        refine lv_aload_n hx hb dX0_countAt_15 rfl (lv_at hl 0 rfl) ?_
        refine lv_iload hx hb dX0_countAt_16 (lv_at hl 4 rfl) ?_
        obtain ⟨r18, hc18, hok⟩ := k_bind hok
        refine kCi (wc := (wX0_ruleNumber cy aB qB vB vB_ruleNumbers)) (wc2 := (wX0_ruleNumber cy aB qB vB vB_ruleNumbers)) (wr := []) (ws2 := (wX0_countAt cy aB qB vB vB_ruleNumbers)) (kRunV (As := [.int y4_5]) (rest := [.int y3_5]) ⟨hx, hb, hml, hown, ht0⟩ (kX0_ruleNumber l D cy _ aB qB vB vB_ruleNumbers y4_5 r18 hc18 _ rfl) (cwV 1 ht0 (gV wd17 wd18 wd19 wd14 wd20) rfl rfl rfl (by decide +kernel) ⟨Nat.le_of_ble_eq_true rfl, Nat.le_of_ble_eq_true rfl⟩) hK hN hP hD [0, 1] rfl (by decide) 0 0 rfl rfl rfl hl.1 rfl (Nat.le_of_ble_eq_true rfl) dX0_countAt_18 ⟨Nat.zero_le _, Nat.zero_le _⟩) hP hD hS hA [0, 1] [] rfl rfl (by decide) (by decide) [0, 1] (by decide) rfl rfl (fun H locs hP hD hS => ?_)
        refine lv_iload_n hx hb dX0_countAt_21 rfl (lv_at hl 1 rfl) ?_
        obtain ⟨r22, hc22, hok⟩ := k_bind hok
        refine kCi (wc := (wX0_placeBy cy )) (wc2 := (wX0_placeBy cy )) (wr := [(aB, oX0 vB qB), (qB 0, rI cy 572 vB_ruleNumbers)]) (ws2 := (wX0_countAt cy aB qB vB vB_ruleNumbers)) (kRunS (As := [.int r18, .int x1]) (rest := [.int y3_5]) ⟨hx, hb, hml, hown, ht0⟩ (kX0_placeBy l D cy _ r18 x1 r22 hc22 _ rfl) (va_cwS 2 ht0 (gS wd21 wd22 wd14 wd23) rfl rfl rfl (by decide +kernel) ⟨Nat.le_of_ble_eq_true rfl, Nat.le_of_ble_eq_true rfl⟩) hK hN hP hD [] rfl (by decide) rfl hl.1 rfl (Nat.le_of_ble_eq_true rfl) dX0_countAt_22 ⟨Nat.zero_le _, Nat.zero_le _⟩) hP hD hS hA [] [0, 1] rfl rfl (by decide) (by decide) [0, 1] (by decide) rfl rfl (fun H locs hP hD hS => ?_)
        refine lv_iload_n hx hb dX0_countAt_25 rfl (lv_at hl 2 rfl) ?_
        refine lv_icmp_ne (tgt := 33) hx hb dX0_countAt_26 (by decide) (fun c26 => ?_) (fun c26 => ?_)
        · have hok := k_neg c26 hok
          refine lv_iconst (v := 0) hx hb dX0_countAt_33 (by decide) ?_
          exact J34 (0 : Int32) H locs ls hP hD hS (lv_sub hl [0, 1, 2, 4] rfl) hok
        · have hok := k_pos c26 hok
          refine lv_iconst (v := 1) hx hb dX0_countAt_29 (by decide) ?_
          refine lv_goto (tgt := 34) hx hb dX0_countAt_30 (by decide) ?_
          exact J34 (1 : Int32) H locs ls hP hD hS (lv_sub hl [0, 1, 2, 4] rfl) hok
  unfold fX0_countAt at hok
  obtain ⟨H, hH⟩ : ∃ H, H = s.heap := ⟨_, rfl⟩
  obtain ⟨locs, hlc⟩ : ∃ x : List Loc, x = [] := ⟨_, rfl⟩
  have hP : va_P D vwCl (wX0_countAt cy aB qB vB vB_ruleNumbers) H := by rw [hH]; exact hP
  have hS : va_S A s.heap H locs := by rw [hH, hlc]; exact hS
  rw [show W p l e _ s m _ below meth c s.heap [] = W p l e _ s m _ below meth c H locs from by rw [hH, hlc]]
  refine lv_iconst (v := 0) hx hb dX0_countAt_0 (by decide) ?_
  refine lv_istore_n (lv' := [(3, .int 0), (0, .ref aB), (1, .int x1), (2, .int x2)]) hx hb dX0_countAt_1 rfl hl (by decide) rfl (fun ls hl => ?_)
  refine lv_iconst (v := 0) hx hb dX0_countAt_2 (by decide) ?_
  refine lv_istore (lv' := [(4, .int 0), (3, .int 0), (0, .ref aB), (1, .int x1), (2, .int x2)]) hx hb dX0_countAt_3 hl (by decide) rfl (fun ls hl => ?_)
  exact L5 5000 (0 : Int32) (0 : Int32) H locs ls hP hD hS (lv_sub hl [2, 3, 4, 1, 0] rfl) hok
def wsX0_isSure : List Cond := .code yX0_isSure cX0_isSure 3 (some .boolean) :: W0
abbrev wX0_isSure (cy : Nat → ClassId) (aB : Nat) (qB : Nat → Nat) (vB : Nat → Int32) (vB_ruleNumbers : Nat → Int32) : va_W := [(aB, oX0 vB qB), (qB 0, rI cy 572 vB_ruleNumbers)]
set_option maxHeartbeats 4000000 in
set_option maxRecDepth 100000 in
theorem kX0_isSure (l : Launch) (D : va_G) (cy : Nat → ClassId) (sz : Nat) (aB : Nat) (qB : Nat → Nat) (vB : Nat → Int32) (vB_ruleNumbers : Nat → Int32) (x1 : Int32) (zr : Int32) (hok : fX0_isSure vB vB_ruleNumbers x1 = some zr) (A : Nat → Prop) (hAe : va_A (wX0_isSure cy aB qB vB vB_ruleNumbers) sz = A) : Met l yX0_isSure wsX0_isSure ({ frames := 1, cells := 0, slots := 0, locals := 22 } : Room) (kPre D cy [.ref aB, .int x1] (wX0_isSure cy aB qB vB vB_ruleNumbers) sz) (kQi D cy zr A (wX0_isSure cy aB qB vB vB_ruleNumbers)) 0 0 A := by
  refine Met.ofW (cc := cX0_isSure) (maxL := 3) (ret := (some .boolean)) (by decide) rfl ?_
  intro p e s m args below meth c s₁ B hml hv
  obtain ⟨rfl, hsz, hP, hK, hD0, hN⟩ := hv
  have hx := B.exec
  have hb := B.bytes
  have hr := B.returns
  have ht0 : ∀ w ∈ W0, w.before _ s = true := fun w h => atoms_spec (ws := wsX0_isSure) B.pre w (List.mem_cons_of_mem _ h)
  have hown : s.vm.findClass RX0 = some m.cls := findClass_of_methodNamed B.named
  have hlocks := B.notSynchronized
  subst hsz
  have hD : va_D A (wX0_isSure cy aB qB vB vB_ruleNumbers) := by rw [← hAe]; exact hD0.self
  have hA : ∀ q : Nat, s.heap.size ≤ q → A q := fun q h => by rw [← hAe]; exact Or.inr h
  have hS : va_S A s.heap s.heap [] := va_S.rf
  have hl := lv_entry ([.ref aB, .int x1]) (n := 3) (Nat.le_of_ble_eq_true rfl)
  rw [lg_entry_eq]
  generalize (lg_sl ([.ref aB, .int x1]) ++ List.replicate (3 - (lg_sl ([.ref aB, .int x1])).length) Slot.unset).toArray = ls at hl ⊢
  have hl : lv_has ls 3 [(0, .ref aB), (1, .int x1)] := hl
  generalize hQe : MQ below (kQi D cy zr A (wX0_isSure cy aB qB vB vB_ruleNumbers)) ([.ref aB, .int x1] : List Value).toArray s 0 0 A = Q
  have L2 : ∀ (fuel : Nat) (y2_2 : Int32), ∀ (H : Heap) (locs : List Loc) (ls : Array Slot), va_P D vwCl (wX0_isSure cy aB qB vB vB_ruleNumbers) H → va_D A (wX0_isSure cy aB qB vB vB_ruleNumbers) → va_S A s.heap H locs → lv_has ls 3 [(0, .ref aB), (1, .int x1), (2, .int y2_2)] → lp (fX0_isSure_B2 vB vB_ruleNumbers x1) fuel y2_2 = some zr → W p l e ({ frames := 1, cells := 0, slots := 0, locals := 22 } : Room) s m ([.ref aB, .int x1] : List Value).toArray below meth c H locs 0 0 Q (F0 m 2 ls []) := by
    intro fuel
    induction fuel with
    | zero => intro y2_2 H locs ls hP hD hS hl hok; exact (lp_0 hok).elim
    | succ fuel ih2 =>
      intro y2_2 H locs ls hP hD hS hl hok
      obtain ⟨y2, hok, hL2, hR2⟩ := lp_step hok
      unfold fX0_isSure_B2 at hok
      refine lv_iload_n hx hb dX0_isSure_2 rfl (lv_at hl 2 rfl) ?_
      refine lv_aload_n hx hb dX0_isSure_3 rfl (lv_at hl 0 rfl) ?_
      refine va_get (D := D) (ci := 0) (v := .int (vB 2)) (C := RX0) (T := TX0) (N := 6) hx hb ht0 niX0 hown hK hP 0 rfl rfl 2 (by decide) (ht0 _ wd4) (fun _ h9 => h9) rfl dX0_isSure_4 ?_
      refine lv_icmp_ge (tgt := 30) hx hb dX0_isSure_7 (by decide) (fun c7 => ?_) (fun c7 => ?_)
      · have hok := k_pos c7 hok
        obtain ⟨e2, hok, he2⟩ := ex_some hok
        have hok := hok.trans (congrArg some (hL2 _ he2))
        refine lv_iconst (v := 1) hx hb dX0_isSure_30 (by decide) ?_
        cases hok
        subst hQe; exact W.zret hx hb hr rfl (fun t ht hW => ⟨⟨_, (), rfl, rfl, by rw [ht]; exact hP, va_K.moved hW.alike hK, hD⟩, hS.F ht⟩) hS.2.2 dX0_isSure_31
      · have hok := k_neg c7 hok
        refine lv_aload_n hx hb dX0_isSure_10 rfl (lv_at hl 0 rfl) ?_
        refine lv_iload_n hx hb dX0_isSure_11 rfl (lv_at hl 2 rfl) ?_
        obtain ⟨r12, hc12, hok⟩ := k_bind hok
        refine kCi (wc := (wX0_ruleNumber cy aB qB vB vB_ruleNumbers)) (wc2 := (wX0_ruleNumber cy aB qB vB vB_ruleNumbers)) (wr := []) (ws2 := (wX0_isSure cy aB qB vB vB_ruleNumbers)) (kRunV (As := [.int y2_2]) (rest := []) ⟨hx, hb, hml, hown, ht0⟩ (kX0_ruleNumber l D cy _ aB qB vB vB_ruleNumbers y2_2 r12 hc12 _ rfl) (cwV 1 ht0 (gV wd17 wd18 wd19 wd14 wd20) rfl rfl rfl (by decide +kernel) ⟨Nat.le_of_ble_eq_true rfl, Nat.le_of_ble_eq_true rfl⟩) hK hN hP hD [0, 1] rfl (by decide) 0 0 rfl rfl rfl hl.1 rfl (Nat.le_of_ble_eq_true rfl) dX0_isSure_12 ⟨Nat.zero_le _, Nat.zero_le _⟩) hP hD hS hA [0, 1] [] rfl rfl (by decide) (by decide) [0, 1] (by decide) rfl rfl (fun H locs hP hD hS => ?_)
        refine lv_iload_n hx hb dX0_isSure_15 rfl (lv_at hl 1 rfl) ?_
        obtain ⟨r16, hc16, hok⟩ := k_bind hok
        refine kCi (wc := (wX0_placeBy cy )) (wc2 := (wX0_placeBy cy )) (wr := [(aB, oX0 vB qB), (qB 0, rI cy 572 vB_ruleNumbers)]) (ws2 := (wX0_isSure cy aB qB vB vB_ruleNumbers)) (kRunS (As := [.int r12, .int x1]) (rest := []) ⟨hx, hb, hml, hown, ht0⟩ (kX0_placeBy l D cy _ r12 x1 r16 hc16 _ rfl) (va_cwS 2 ht0 (gS wd21 wd22 wd14 wd23) rfl rfl rfl (by decide +kernel) ⟨Nat.le_of_ble_eq_true rfl, Nat.le_of_ble_eq_true rfl⟩) hK hN hP hD [] rfl (by decide) rfl hl.1 rfl (Nat.le_of_ble_eq_true rfl) dX0_isSure_16 ⟨Nat.zero_le _, Nat.zero_le _⟩) hP hD hS hA [] [0, 1] rfl rfl (by decide) (by decide) [0, 1] (by decide) rfl rfl (fun H locs hP hD hS => ?_)
        refine lv_if_eq (tgt := 24) hx hb dX0_isSure_19 (by decide) (fun c19 => ?_) (fun c19 => ?_)
        · have hok := k_pos c19 hok
          refine lv_iinc (v := (y2_2 + 1)) (lv' := [(2, .int (y2_2 + 1)), (0, .ref aB), (1, .int x1)]) hx hb dX0_isSure_24 hl (k := 2) rfl (by first | rfl | decide) (by decide) rfl (fun ls hl => ?_)
          refine lv_goto (tgt := 2) hx hb dX0_isSure_27 (by decide) ?_
          exact ih2 (y2_2 + 1) H locs ls hP hD hS (lv_sub hl [1, 2, 0] rfl) (hR2 _ (Option.some.inj hok).symm)
        · have hok := k_neg c19 hok
          obtain ⟨e2, hok, he2⟩ := ex_some hok
          have hok := hok.trans (congrArg some (hL2 _ he2))
          refine lv_iconst (v := 0) hx hb dX0_isSure_22 (by decide) ?_
          cases hok
          subst hQe; exact W.zret hx hb hr rfl (fun t ht hW => ⟨⟨_, (), rfl, rfl, by rw [ht]; exact hP, va_K.moved hW.alike hK, hD⟩, hS.F ht⟩) hS.2.2 dX0_isSure_23
  unfold fX0_isSure at hok
  obtain ⟨H, hH⟩ : ∃ H, H = s.heap := ⟨_, rfl⟩
  obtain ⟨locs, hlc⟩ : ∃ x : List Loc, x = [] := ⟨_, rfl⟩
  have hP : va_P D vwCl (wX0_isSure cy aB qB vB vB_ruleNumbers) H := by rw [hH]; exact hP
  have hS : va_S A s.heap H locs := by rw [hH, hlc]; exact hS
  rw [show W p l e _ s m _ below meth c s.heap [] = W p l e _ s m _ below meth c H locs from by rw [hH, hlc]]
  refine lv_iconst (v := 0) hx hb dX0_isSure_0 (by decide) ?_
  refine lv_istore_n (lv' := [(2, .int 0), (0, .ref aB), (1, .int x1)]) hx hb dX0_isSure_1 rfl hl (by decide) rfl (fun ls hl => ?_)
  exact L2 5000 (0 : Int32) H locs ls hP hD hS (lv_sub hl [1, 2, 0] rfl) hok
def wsX0_firstSure : List Cond := .code yX0_firstSure cX0_firstSure 3 (some .int) :: W0
abbrev wX0_firstSure (cy : Nat → ClassId) (aB : Nat) (qB : Nat → Nat) (vB : Nat → Int32) (vB_ruleNumbers : Nat → Int32) : va_W := [(aB, oX0 vB qB), (qB 0, rI cy 572 vB_ruleNumbers)]
set_option maxHeartbeats 4000000 in
set_option maxRecDepth 100000 in
theorem kX0_firstSure (l : Launch) (D : va_G) (cy : Nat → ClassId) (sz : Nat) (aB : Nat) (qB : Nat → Nat) (vB : Nat → Int32) (vB_ruleNumbers : Nat → Int32) (x1 : Int32) (zr : Int32) (hok : fX0_firstSure vB vB_ruleNumbers x1 = some zr) (A : Nat → Prop) (hAe : va_A (wX0_firstSure cy aB qB vB vB_ruleNumbers) sz = A) : Met l yX0_firstSure wsX0_firstSure ({ frames := 2, cells := 0, slots := 0, locals := 44 } : Room) (kPre D cy [.ref aB, .int x1] (wX0_firstSure cy aB qB vB vB_ruleNumbers) sz) (kQi D cy zr A (wX0_firstSure cy aB qB vB vB_ruleNumbers)) 0 0 A := by
  refine Met.ofW (cc := cX0_firstSure) (maxL := 3) (ret := (some .int)) (by decide) rfl ?_
  intro p e s m args below meth c s₁ B hml hv
  obtain ⟨rfl, hsz, hP, hK, hD0, hN⟩ := hv
  have hx := B.exec
  have hb := B.bytes
  have hr := B.returns
  have ht0 : ∀ w ∈ W0, w.before _ s = true := fun w h => atoms_spec (ws := wsX0_firstSure) B.pre w (List.mem_cons_of_mem _ h)
  have hown : s.vm.findClass RX0 = some m.cls := findClass_of_methodNamed B.named
  have hlocks := B.notSynchronized
  subst hsz
  have hD : va_D A (wX0_firstSure cy aB qB vB vB_ruleNumbers) := by rw [← hAe]; exact hD0.self
  have hA : ∀ q : Nat, s.heap.size ≤ q → A q := fun q h => by rw [← hAe]; exact Or.inr h
  have hS : va_S A s.heap s.heap [] := va_S.rf
  have hl := lv_entry ([.ref aB, .int x1]) (n := 3) (Nat.le_of_ble_eq_true rfl)
  rw [lg_entry_eq]
  generalize (lg_sl ([.ref aB, .int x1]) ++ List.replicate (3 - (lg_sl ([.ref aB, .int x1])).length) Slot.unset).toArray = ls at hl ⊢
  have hl : lv_has ls 3 [(0, .ref aB), (1, .int x1)] := hl
  generalize hQe : MQ below (kQi D cy zr A (wX0_firstSure cy aB qB vB vB_ruleNumbers)) ([.ref aB, .int x1] : List Value).toArray s 0 0 A = Q
  have J31 : ∀ (H : Heap) (locs : List Loc) (ls : Array Slot), va_P D vwCl (wX0_firstSure cy aB qB vB vB_ruleNumbers) H → va_D A (wX0_firstSure cy aB qB vB vB_ruleNumbers) → va_S A s.heap H locs → lv_has ls 3 [] → fX0_firstSure_J31 = some zr → W p l e ({ frames := 2, cells := 0, slots := 0, locals := 44 } : Room) s m ([.ref aB, .int x1] : List Value).toArray below meth c H locs 0 0 Q (F0 m 31 ls []) := by
    intro  H locs ls hP hD hS hl hok
    unfold fX0_firstSure_J31 at hok
    refine lv_bipush (v := -2) hx hb dX0_firstSure_31 (by decide) ?_
    cases hok
    subst hQe; exact W.iret hx hb hr (fun t ht hW => ⟨⟨_, (), rfl, rfl, by rw [ht]; exact hP, va_K.moved hW.alike hK, hD⟩, hS.F ht⟩) hS.2.2 dX0_firstSure_33
  have L2 : ∀ (fuel : Nat) (y2_2 : Int32), ∀ (H : Heap) (locs : List Loc) (ls : Array Slot), va_P D vwCl (wX0_firstSure cy aB qB vB vB_ruleNumbers) H → va_D A (wX0_firstSure cy aB qB vB vB_ruleNumbers) → va_S A s.heap H locs → lv_has ls 3 [(0, .ref aB), (2, .int y2_2)] → lp (fX0_firstSure_B2 vB vB_ruleNumbers) fuel y2_2 = some zr → W p l e ({ frames := 2, cells := 0, slots := 0, locals := 44 } : Room) s m ([.ref aB, .int x1] : List Value).toArray below meth c H locs 0 0 Q (F0 m 2 ls []) := by
    intro fuel
    induction fuel with
    | zero => intro y2_2 H locs ls hP hD hS hl hok; exact (lp_0 hok).elim
    | succ fuel ih2 =>
      intro y2_2 H locs ls hP hD hS hl hok
      obtain ⟨y2, hok, hL2, hR2⟩ := lp_step hok
      unfold fX0_firstSure_B2 at hok
      refine lv_iload_n hx hb dX0_firstSure_2 rfl (lv_at hl 1 rfl) ?_
      refine lv_bipush (v := 100) hx hb dX0_firstSure_3 (by decide) ?_
      refine lv_icmp_ge (tgt := 31) hx hb dX0_firstSure_5 (by decide) (fun c5 => ?_) (fun c5 => ?_)
      · have hok := k_pos c5 hok
        obtain ⟨e2, hok, he2⟩ := ex_some hok
        have hok := hok.trans (congrArg some (hL2 _ he2))
        exact J31  H locs ls hP hD hS (lv_sub hl [] rfl) hok
      · have hok := k_neg c5 hok
        refine lv_aload_n hx hb dX0_firstSure_8 rfl (lv_at hl 0 rfl) ?_
        refine va_get (D := D) (ci := 0) (v := .int (vB 2)) (C := RX0) (T := TX0) (N := 6) hx hb ht0 niX0 hown hK hP 0 rfl rfl 2 (by decide) (ht0 _ wd4) (fun _ h9 => h9) rfl dX0_firstSure_9 ?_
        refine lv_if_le (tgt := 31) hx hb dX0_firstSure_12 (by decide) (fun c12 => ?_) (fun c12 => ?_)
        · have hok := k_pos c12 hok
          obtain ⟨e2, hok, he2⟩ := ex_some hok
          have hok := hok.trans (congrArg some (hL2 _ he2))
          exact J31  H locs ls hP hD hS (lv_sub hl [] rfl) hok
        · have hok := k_neg c12 hok
          refine lv_aload_n hx hb dX0_firstSure_15 rfl (lv_at hl 0 rfl) ?_
          refine lv_iload_n hx hb dX0_firstSure_16 rfl (lv_at hl 1 rfl) ?_
          obtain ⟨r17, hc17, hok⟩ := k_bind hok
          refine kCi (wc := (wX0_isSure cy aB qB vB vB_ruleNumbers)) (wc2 := (wX0_isSure cy aB qB vB vB_ruleNumbers)) (wr := []) (ws2 := (wX0_firstSure cy aB qB vB vB_ruleNumbers)) (kRunV (As := [.int y2_2]) (rest := []) ⟨hx, hb, hml, hown, ht0⟩ (kX0_isSure l D cy _ aB qB vB vB_ruleNumbers y2_2 r17 hc17 _ rfl) (cwV 1 ht0 (gV wd24 wd25 wd26 wd14 wd27) rfl rfl rfl (by decide +kernel) ⟨Nat.le_of_ble_eq_true rfl, Nat.le_of_ble_eq_true rfl⟩) hK hN hP hD [0, 1] rfl (by decide) 0 0 rfl rfl rfl hl.1 rfl (Nat.le_of_ble_eq_true rfl) dX0_firstSure_17 ⟨Nat.zero_le _, Nat.zero_le _⟩) hP hD hS hA [0, 1] [] rfl rfl (by decide) (by decide) [0, 1] (by decide) rfl rfl (fun H locs hP hD hS => ?_)
          refine lv_if_eq (tgt := 25) hx hb dX0_firstSure_20 (by decide) (fun c20 => ?_) (fun c20 => ?_)
          · have hok := k_pos c20 hok
            refine lv_iinc (v := (y2_2 + 1)) (lv' := [(2, .int (y2_2 + 1)), (0, .ref aB)]) hx hb dX0_firstSure_25 hl (k := 1) rfl (by first | rfl | decide) (by decide) rfl (fun ls hl => ?_)
            refine lv_goto (tgt := 2) hx hb dX0_firstSure_28 (by decide) ?_
            exact ih2 (y2_2 + 1) H locs ls hP hD hS (lv_sub hl [1, 0] rfl) (hR2 _ (Option.some.inj hok).symm)
          · have hok := k_neg c20 hok
            obtain ⟨e2, hok, he2⟩ := ex_some hok
            have hok := hok.trans (congrArg some (hL2 _ he2))
            refine lv_iload_n hx hb dX0_firstSure_23 rfl (lv_at hl 1 rfl) ?_
            cases hok
            subst hQe; exact W.iret hx hb hr (fun t ht hW => ⟨⟨_, (), rfl, rfl, by rw [ht]; exact hP, va_K.moved hW.alike hK, hD⟩, hS.F ht⟩) hS.2.2 dX0_firstSure_24
  unfold fX0_firstSure at hok
  obtain ⟨H, hH⟩ : ∃ H, H = s.heap := ⟨_, rfl⟩
  obtain ⟨locs, hlc⟩ : ∃ x : List Loc, x = [] := ⟨_, rfl⟩
  have hP : va_P D vwCl (wX0_firstSure cy aB qB vB vB_ruleNumbers) H := by rw [hH]; exact hP
  have hS : va_S A s.heap H locs := by rw [hH, hlc]; exact hS
  rw [show W p l e _ s m _ below meth c s.heap [] = W p l e _ s m _ below meth c H locs from by rw [hH, hlc]]
  refine lv_iload_n hx hb dX0_firstSure_0 rfl (lv_at hl 1 rfl) ?_
  refine lv_istore_n (lv' := [(2, .int x1), (0, .ref aB), (1, .int x1)]) hx hb dX0_firstSure_1 rfl hl (by decide) rfl (fun ls hl => ?_)
  exact L2 5000 x1 H locs ls hP hD hS (lv_sub hl [1, 0] rfl) hok
def wsJ7_fill_53178 : List Cond := .code yJ7_fill_53178 cJ7_fill_53178 4 none :: W0
abbrev wJ7_fill_53178 (cy : Nat → ClassId) (ap0 : Nat) (n0 : Nat) (p0 : Nat → Int32) : va_W := [(ap0, rI cy n0 p0)]
set_option maxHeartbeats 4000000 in
set_option maxRecDepth 100000 in
theorem kJ7_fill_53178 (l : Launch) (D : va_G) (cy : Nat → ClassId) (sz : Nat) (ap0 : Nat) (n0 : Nat) (p0 : Nat → Int32) (x1 : Int32) (z_p0 : Nat → Int32) (hok : fJ7_fill_53178 n0 p0 x1 = some z_p0) (A : Nat → Prop) (hAe : va_A (wJ7_fill_53178 cy ap0 n0 p0) sz = A) : Met l yJ7_fill_53178 wsJ7_fill_53178 ({ frames := 0, cells := 0, slots := 0, locals := 0 } : Room) (kPre D cy [.ref ap0, .int x1] (wJ7_fill_53178 cy ap0 n0 p0) sz) (kQv D cy A (wJ7_fill_53178 cy ap0 n0 z_p0)) 0 0 A := by
  refine Met.ofW (cc := cJ7_fill_53178) (maxL := 4) (ret := none) (by decide) rfl ?_
  intro p e s m args below meth c s₁ B hml hv
  obtain ⟨rfl, hsz, hP, hK, hD0, hN⟩ := hv
  have hx := B.exec
  have hb := B.bytes
  have hr := B.returns
  have ht0 : ∀ w ∈ W0, w.before _ s = true := fun w h => atoms_spec (ws := wsJ7_fill_53178) B.pre w (List.mem_cons_of_mem _ h)
  have hown : s.vm.findClass RJ7 = some m.cls := findClass_of_methodNamed B.named
  have hlocks := B.notSynchronized
  subst hsz
  have hD : va_D A (wJ7_fill_53178 cy ap0 n0 p0) := by rw [← hAe]; exact hD0.self
  have hA : ∀ q : Nat, s.heap.size ≤ q → A q := fun q h => by rw [← hAe]; exact Or.inr h
  have hS : va_S A s.heap s.heap [] := va_S.rf
  have hl := lv_entry ([.ref ap0, .int x1]) (n := 4) (Nat.le_of_ble_eq_true rfl)
  rw [lg_entry_eq]
  generalize (lg_sl ([.ref ap0, .int x1]) ++ List.replicate (4 - (lg_sl ([.ref ap0, .int x1])).length) Slot.unset).toArray = ls at hl ⊢
  have hl : lv_has ls 4 [(0, .ref ap0), (1, .int x1)] := hl
  generalize hQe : MQ below (kQv D cy A (wJ7_fill_53178 cy ap0 n0 z_p0)) ([.ref ap0, .int x1] : List Value).toArray s 0 0 A = Q
  have L5 : ∀ (fuel : Nat) (y2_5 : Int32) (p0_5 : Nat → Int32), ∀ (H : Heap) (locs : List Loc) (ls : Array Slot), va_P D vwCl (wJ7_fill_53178 cy ap0 n0 p0_5) H → va_D A (wJ7_fill_53178 cy ap0 n0 p0_5) → va_S A s.heap H locs → lv_has ls 4 [(0, .ref ap0), (1, .int x1), (2, .int y2_5), (3, .int (nI n0))] → lp (fJ7_fill_53178_B5 n0 x1) fuel (y2_5, p0_5) = some z_p0 → W p l e ({ frames := 0, cells := 0, slots := 0, locals := 0 } : Room) s m ([.ref ap0, .int x1] : List Value).toArray below meth c H locs 0 0 Q (F0 m 5 ls []) := by
    intro fuel
    induction fuel with
    | zero => intro y2_5 p0_5 H locs ls hP hD hS hl hok; exact (lp_0 hok).elim
    | succ fuel ih5 =>
      intro y2_5 p0_5 H locs ls hP hD hS hl hok
      obtain ⟨y5, hok, hL5, hR5⟩ := lp_step hok
      unfold fJ7_fill_53178_B5 at hok
      try dsimp only at hok
      refine lv_iload_n hx hb dJ7_fill_53178_5 rfl (lv_at hl 2 rfl) ?_
      refine lv_iload_n hx hb dJ7_fill_53178_6 rfl (lv_at hl 3 rfl) ?_
      refine lv_icmp_ge (tgt := 20) hx hb dJ7_fill_53178_7 (by decide) (fun c7 => ?_) (fun c7 => ?_)
      · have hok := k_pos c7 hok
        obtain ⟨e5, hok, he5⟩ := ex_some hok
        have hok := hok.trans (congrArg some (hL5 _ he5))
        cases hok
        subst hQe; exact W.vret hx hb hr (fun t ht hW => ⟨⟨(), rfl, trivial, by rw [ht]; exact hP, va_K.moved hW.alike hK, hD⟩, hS.F ht⟩) hS.2.2 dJ7_fill_53178_20
      · have hok := k_neg c7 hok
        refine lv_aload_n hx hb dJ7_fill_53178_10 rfl (lv_at hl 0 rfl) ?_
        refine lv_iload_n hx hb dJ7_fill_53178_11 rfl (lv_at hl 2 rfl) ?_
        refine lv_iload_n hx hb dJ7_fill_53178_12 rfl (lv_at hl 1 rfl) ?_
        obtain ⟨g13, hok⟩ := gd_some hok
        refine va_iast hx hb hK hP hD hS 0 0 rfl rfl (okI_in g13) dJ7_fill_53178_13 (fun H locs hP hD hS => ?_)
        have hP : va_P D vwCl (wJ7_fill_53178 cy ap0 n0 (upd p0_5 y2_5.toNatClampNeg x1)) H := hP
        have hD : va_D A (wJ7_fill_53178 cy ap0 n0 (upd p0_5 y2_5.toNatClampNeg x1)) := hD
        refine lv_iinc (v := (y2_5 + 1)) (lv' := [(2, .int (y2_5 + 1)), (0, .ref ap0), (1, .int x1), (3, .int (nI n0))]) hx hb dJ7_fill_53178_14 hl (k := 2) rfl (by first | rfl | decide) (by decide) rfl (fun ls hl => ?_)
        refine lv_goto (tgt := 5) hx hb dJ7_fill_53178_17 (by decide) ?_
        exact ih5 (y2_5 + 1) (upd p0_5 y2_5.toNatClampNeg x1) H locs ls hP hD hS (lv_sub hl [1, 2, 0, 3] rfl) (hR5 _ (Option.some.inj hok).symm)
  unfold fJ7_fill_53178 at hok
  obtain ⟨H, hH⟩ : ∃ H, H = s.heap := ⟨_, rfl⟩
  obtain ⟨locs, hlc⟩ : ∃ x : List Loc, x = [] := ⟨_, rfl⟩
  have hP : va_P D vwCl (wJ7_fill_53178 cy ap0 n0 p0) H := by rw [hH]; exact hP
  have hS : va_S A s.heap H locs := by rw [hH, hlc]; exact hS
  rw [show W p l e _ s m _ below meth c s.heap [] = W p l e _ s m _ below meth c H locs from by rw [hH, hlc]]
  refine lv_iconst (v := 0) hx hb dJ7_fill_53178_0 (by decide) ?_
  refine lv_istore_n (lv' := [(2, .int 0), (0, .ref ap0), (1, .int x1)]) hx hb dJ7_fill_53178_1 rfl hl (by decide) rfl (fun ls hl => ?_)
  refine lv_aload_n hx hb dJ7_fill_53178_2 rfl (lv_at hl 1 rfl) ?_
  refine va_alen hx hb hK hP 0 0 rfl rfl (v := (nI n0)) rfl dJ7_fill_53178_3 ?_
  refine lv_istore_n (lv' := [(3, .int (nI n0)), (2, .int 0), (0, .ref ap0), (1, .int x1)]) hx hb dJ7_fill_53178_4 rfl hl (by decide) rfl (fun ls hl => ?_)
  exact L5 5000 (0 : Int32) p0 H locs ls hP hD hS (lv_sub hl [2, 3, 1, 0] rfl) hok
def wsX0_countSeen : List Cond := .code yX0_countSeen cX0_countSeen 4 none :: W0
abbrev wX0_countSeen (cy : Nat → ClassId) (aB : Nat) (qB : Nat → Nat) (vB : Nat → Int32) (vB_seen : Nat → Int32) (vB_ruleNumbers : Nat → Int32) : va_W := [(aB, oX0 vB qB), (qB 1, rI cy 12 vB_seen), (qB 0, rI cy 572 vB_ruleNumbers)]
set_option maxHeartbeats 4000000 in
set_option maxRecDepth 100000 in
theorem kX0_countSeen (l : Launch) (D : va_G) (cy : Nat → ClassId) (sz : Nat) (aB : Nat) (qB : Nat → Nat) (vB : Nat → Int32) (vB_seen : Nat → Int32) (vB_ruleNumbers : Nat → Int32) (x1 : Int32) (z_vB_seen : Nat → Int32) (hok : fX0_countSeen vB vB_seen vB_ruleNumbers x1 = some z_vB_seen) (A : Nat → Prop) (hAe : va_A (wX0_countSeen cy aB qB vB vB_seen vB_ruleNumbers) sz = A) : Met l yX0_countSeen wsX0_countSeen ({ frames := 1, cells := 0, slots := 0, locals := 23 } : Room) (kPre D cy [.ref aB, .int x1] (wX0_countSeen cy aB qB vB vB_seen vB_ruleNumbers) sz) (kQv D cy A (wX0_countSeen cy aB qB vB z_vB_seen vB_ruleNumbers)) 0 0 A := by
  refine Met.ofW (cc := cX0_countSeen) (maxL := 4) (ret := none) (by decide) rfl ?_
  intro p e s m args below meth c s₁ B hml hv
  obtain ⟨rfl, hsz, hP, hK, hD0, hN⟩ := hv
  have hx := B.exec
  have hb := B.bytes
  have hr := B.returns
  have ht0 : ∀ w ∈ W0, w.before _ s = true := fun w h => atoms_spec (ws := wsX0_countSeen) B.pre w (List.mem_cons_of_mem _ h)
  have hown : s.vm.findClass RX0 = some m.cls := findClass_of_methodNamed B.named
  have hlocks := B.notSynchronized
  subst hsz
  have hD : va_D A (wX0_countSeen cy aB qB vB vB_seen vB_ruleNumbers) := by rw [← hAe]; exact hD0.self
  have hA : ∀ q : Nat, s.heap.size ≤ q → A q := fun q h => by rw [← hAe]; exact Or.inr h
  have hS : va_S A s.heap s.heap [] := va_S.rf
  have hl := lv_entry ([.ref aB, .int x1]) (n := 4) (Nat.le_of_ble_eq_true rfl)
  rw [lg_entry_eq]
  generalize (lg_sl ([.ref aB, .int x1]) ++ List.replicate (4 - (lg_sl ([.ref aB, .int x1])).length) Slot.unset).toArray = ls at hl ⊢
  have hl : lv_has ls 4 [(0, .ref aB), (1, .int x1)] := hl
  generalize hQe : MQ below (kQv D cy A (wX0_countSeen cy aB qB vB z_vB_seen vB_ruleNumbers)) ([.ref aB, .int x1] : List Value).toArray s 0 0 A = Q
  have L10 : ∀ (fuel : Nat) (y2_10 : Int32) (vB_seen_10 : Nat → Int32), ∀ (H : Heap) (locs : List Loc) (ls : Array Slot), va_P D vwCl (wX0_countSeen cy aB qB vB vB_seen_10 vB_ruleNumbers) H → va_D A (wX0_countSeen cy aB qB vB vB_seen_10 vB_ruleNumbers) → va_S A s.heap H locs → lv_has ls 4 [(0, .ref aB), (1, .int x1), (2, .int y2_10)] → lp (fX0_countSeen_B10 vB vB_ruleNumbers x1) fuel (y2_10, vB_seen_10) = some z_vB_seen → W p l e ({ frames := 1, cells := 0, slots := 0, locals := 23 } : Room) s m ([.ref aB, .int x1] : List Value).toArray below meth c H locs 0 0 Q (F0 m 10 ls []) := by
    intro fuel
    induction fuel with
    | zero => intro y2_10 vB_seen_10 H locs ls hP hD hS hl hok; exact (lp_0 hok).elim
    | succ fuel ih10 =>
      intro y2_10 vB_seen_10 H locs ls hP hD hS hl hok
      obtain ⟨y10, hok, hL10, hR10⟩ := lp_step hok
      have J48 : ∀ (vB_seen_48 : Nat → Int32), ∀ (H : Heap) (locs : List Loc) (ls : Array Slot), va_P D vwCl (wX0_countSeen cy aB qB vB vB_seen_48 vB_ruleNumbers) H → va_D A (wX0_countSeen cy aB qB vB vB_seen_48 vB_ruleNumbers) → va_S A s.heap H locs → lv_has ls 4 [(0, .ref aB), (1, .int x1), (2, .int y2_10)] → fX0_countSeen_J48 y2_10 vB_seen_48 = some y10 → W p l e ({ frames := 1, cells := 0, slots := 0, locals := 23 } : Room) s m ([.ref aB, .int x1] : List Value).toArray below meth c H locs 0 0 Q (F0 m 48 ls []) := by
        intro vB_seen_48 H locs ls hP hD hS hl hok
        unfold fX0_countSeen_J48 at hok
        refine lv_iinc (v := (y2_10 + 1)) (lv' := [(2, .int (y2_10 + 1)), (0, .ref aB), (1, .int x1)]) hx hb dX0_countSeen_48 hl (k := 2) rfl (by first | rfl | decide) (by decide) rfl (fun ls hl => ?_)
        refine lv_goto (tgt := 10) hx hb dX0_countSeen_51 (by decide) ?_
        exact ih10 (y2_10 + 1) vB_seen_48 H locs ls hP hD hS (lv_sub hl [1, 2, 0] rfl) (hR10 _ (Option.some.inj hok).symm)
      unfold fX0_countSeen_B10 at hok
      try dsimp only at hok
      refine lv_iload_n hx hb dX0_countSeen_10 rfl (lv_at hl 2 rfl) ?_
      refine lv_aload_n hx hb dX0_countSeen_11 rfl (lv_at hl 0 rfl) ?_
      refine va_get (D := D) (ci := 0) (v := .int (vB 2)) (C := RX0) (T := TX0) (N := 6) hx hb ht0 niX0 hown hK hP 0 rfl rfl 2 (by decide) (ht0 _ wd4) (fun _ h9 => h9) rfl dX0_countSeen_12 ?_
      refine lv_icmp_ge (tgt := 54) hx hb dX0_countSeen_15 (by decide) (fun c15 => ?_) (fun c15 => ?_)
      · have hok := k_pos c15 hok
        obtain ⟨e10, hok, he10⟩ := ex_some hok
        have hok := hok.trans (congrArg some (hL10 _ he10))
        cases hok
        subst hQe; exact W.vret hx hb hr (fun t ht hW => ⟨⟨(), rfl, trivial, by rw [ht]; exact hP, va_K.moved hW.alike hK, hD⟩, hS.F ht⟩) hS.2.2 dX0_countSeen_54
      · have hok := k_neg c15 hok
        refine lv_aload_n hx hb dX0_countSeen_18 rfl (lv_at hl 0 rfl) ?_
        refine lv_iload_n hx hb dX0_countSeen_19 rfl (lv_at hl 2 rfl) ?_
        obtain ⟨r20, hc20, hok⟩ := k_bind hok
        refine kCi (wc := (wX0_ruleNumber cy aB qB vB vB_ruleNumbers)) (wc2 := (wX0_ruleNumber cy aB qB vB vB_ruleNumbers)) (wr := [(qB 1, rI cy 12 vB_seen_10)]) (ws2 := (wX0_countSeen cy aB qB vB vB_seen_10 vB_ruleNumbers)) (kRunV (As := [.int y2_10]) (rest := []) ⟨hx, hb, hml, hown, ht0⟩ (kX0_ruleNumber l D cy _ aB qB vB vB_ruleNumbers y2_10 r20 hc20 _ rfl) (cwV 1 ht0 (gV wd17 wd18 wd19 wd14 wd20) rfl rfl rfl (by decide +kernel) ⟨Nat.le_of_ble_eq_true rfl, Nat.le_of_ble_eq_true rfl⟩) hK hN hP hD [0, 2] rfl (by decide) 0 0 rfl rfl rfl hl.1 rfl (Nat.le_of_ble_eq_true rfl) dX0_countSeen_20 ⟨Nat.zero_le _, Nat.zero_le _⟩) hP hD hS hA [0, 2] [1] rfl rfl (by decide) (by decide) [1, 0, 2] (by decide) rfl rfl (fun H locs hP hD hS => ?_)
        refine lv_iload_n hx hb dX0_countSeen_23 rfl (lv_at hl 1 rfl) ?_
        obtain ⟨r24, hc24, hok⟩ := k_bind hok
        refine kCi (wc := (wX0_placeBy cy )) (wc2 := (wX0_placeBy cy )) (wr := [(aB, oX0 vB qB), (qB 1, rI cy 12 vB_seen_10), (qB 0, rI cy 572 vB_ruleNumbers)]) (ws2 := (wX0_countSeen cy aB qB vB vB_seen_10 vB_ruleNumbers)) (kRunS (As := [.int r20, .int x1]) (rest := []) ⟨hx, hb, hml, hown, ht0⟩ (kX0_placeBy l D cy _ r20 x1 r24 hc24 _ rfl) (va_cwS 2 ht0 (gS wd21 wd22 wd14 wd23) rfl rfl rfl (by decide +kernel) ⟨Nat.le_of_ble_eq_true rfl, Nat.le_of_ble_eq_true rfl⟩) hK hN hP hD [] rfl (by decide) rfl hl.1 rfl (Nat.le_of_ble_eq_true rfl) dX0_countSeen_24 ⟨Nat.zero_le _, Nat.zero_le _⟩) hP hD hS hA [] [0, 1, 2] rfl rfl (by decide) (by decide) [0, 1, 2] (by decide) rfl rfl (fun H locs hP hD hS => ?_)
        refine lv_istore_n (lv' := [(3, .int r24), (0, .ref aB), (1, .int x1), (2, .int y2_10)]) hx hb dX0_countSeen_27 rfl hl (by decide) rfl (fun ls hl => ?_)
        refine lv_iload_n hx hb dX0_countSeen_28 rfl (lv_at hl 0 rfl) ?_
        refine lv_if_lt (tgt := 48) hx hb dX0_countSeen_29 (by decide) (fun c29 => ?_) (fun c29 => ?_)
        · have hok := k_pos c29 hok
          exact J48 vB_seen_10 H locs ls hP hD hS (lv_sub hl [1, 2, 3] rfl) hok
        · have hok := k_neg c29 hok
          refine lv_iload_n hx hb dX0_countSeen_32 rfl (lv_at hl 0 rfl) ?_
          refine lv_bipush (v := 12) hx hb dX0_countSeen_33 (by decide) ?_
          refine lv_icmp_ge (tgt := 48) hx hb dX0_countSeen_35 (by decide) (fun c35 => ?_) (fun c35 => ?_)
          · have hok := k_pos c35 hok
            exact J48 vB_seen_10 H locs ls hP hD hS (lv_sub hl [1, 2, 3] rfl) hok
          · have hok := k_neg c35 hok
            refine lv_aload_n hx hb dX0_countSeen_38 rfl (lv_at hl 1 rfl) ?_
            refine va_get (D := D) (ci := 0) (v := .ref (qB 1)) (C := RX0) (T := TX0) (N := 6) hx hb ht0 niX0 hown hK hP 0 rfl rfl 1 (by decide) (ht0 _ wd28) (fun _ h9 => h9) rfl dX0_countSeen_39 ?_
            refine lv_iload_n hx hb dX0_countSeen_42 rfl (lv_at hl 0 rfl) ?_
            refine lv_dup2_11 hx hb dX0_countSeen_43 rfl rfl ?_
            obtain ⟨g44, hok⟩ := gd_some hok
            refine va_iald hx hb hK hP 1 0 rfl rfl (okI_in g44) dX0_countSeen_44 ?_
            refine lv_iconst (v := 1) hx hb dX0_countSeen_45 (by decide) ?_
            refine lv_iadd hx hb dX0_countSeen_46 ?_
            obtain ⟨g47, hok⟩ := gd_some hok
            refine va_iast hx hb hK hP hD hS 1 0 rfl rfl (okI_in g47) dX0_countSeen_47 (fun H locs hP hD hS => ?_)
            have hP : va_P D vwCl (wX0_countSeen cy aB qB vB (upd vB_seen_10 r24.toNatClampNeg ((vB_seen_10 r24.toNatClampNeg) + (1 : Int32))) vB_ruleNumbers) H := hP
            have hD : va_D A (wX0_countSeen cy aB qB vB (upd vB_seen_10 r24.toNatClampNeg ((vB_seen_10 r24.toNatClampNeg) + (1 : Int32))) vB_ruleNumbers) := hD
            exact J48 (upd vB_seen_10 r24.toNatClampNeg ((vB_seen_10 r24.toNatClampNeg) + (1 : Int32))) H locs ls hP hD hS (lv_sub hl [1, 2, 3] rfl) hok
  unfold fX0_countSeen at hok
  obtain ⟨H, hH⟩ : ∃ H, H = s.heap := ⟨_, rfl⟩
  obtain ⟨locs, hlc⟩ : ∃ x : List Loc, x = [] := ⟨_, rfl⟩
  have hP : va_P D vwCl (wX0_countSeen cy aB qB vB vB_seen vB_ruleNumbers) H := by rw [hH]; exact hP
  have hS : va_S A s.heap H locs := by rw [hH, hlc]; exact hS
  rw [show W p l e _ s m _ below meth c s.heap [] = W p l e _ s m _ below meth c H locs from by rw [hH, hlc]]
  refine lv_aload_n hx hb dX0_countSeen_0 rfl (lv_at hl 0 rfl) ?_
  refine va_get (D := D) (ci := 0) (v := .ref (qB 1)) (C := RX0) (T := TX0) (N := 6) hx hb ht0 niX0 hown hK hP 0 rfl rfl 1 (by decide) (ht0 _ wd28) (fun _ h9 => h9) rfl dX0_countSeen_1 ?_
  refine lv_iconst (v := 0) hx hb dX0_countSeen_4 (by decide) ?_
  obtain ⟨p0_5, hc5, hok⟩ := k_bind hok
  refine kCv (wc := (wJ7_fill_53178 cy (qB 1) 12 vB_seen)) (wc2 := (wJ7_fill_53178 cy (qB 1) 12 p0_5)) (wr := [(aB, oX0 vB qB), (qB 0, rI cy 572 vB_ruleNumbers)]) (ws2 := (wX0_countSeen cy aB qB vB p0_5 vB_ruleNumbers)) (kRunS (As := [.ref (qB 1), .int 0]) (rest := []) ⟨hx, hb, hml, hown, ht0⟩ (kJ7_fill_53178 l D cy _ (qB 1) 12 vB_seen (0 : Int32) p0_5 hc5 _ rfl) (va_cwS 2 ht0 (gS wd29 wd30 wd31 wd32) rfl rfl rfl (by decide +kernel) ⟨Nat.le_of_ble_eq_true rfl, Nat.le_of_ble_eq_true rfl⟩) hK hN hP hD [1] rfl (by decide) rfl hl.1 rfl (Nat.le_of_ble_eq_true rfl) dX0_countSeen_5 ⟨Nat.zero_le _, Nat.zero_le _⟩) hP hD hS hA [1] [0, 2] rfl rfl (by decide) (by decide) [0, 2, 1] (by decide) rfl rfl (fun H locs hP hD hS => ?_)
  refine lv_iconst (v := 0) hx hb dX0_countSeen_8 (by decide) ?_
  refine lv_istore_n (lv' := [(2, .int 0), (0, .ref aB), (1, .int x1)]) hx hb dX0_countSeen_9 rfl hl (by decide) rfl (fun ls hl => ?_)
  exact L10 5000 (0 : Int32) p0_5 H locs ls hP hD hS (lv_sub hl [1, 2, 0] rfl) hok
def wsX0_lookOnce : List Cond := .code yX0_lookOnce cX0_lookOnce 4 none :: W0
abbrev wX0_lookOnce (cy : Nat → ClassId) (aB : Nat) (qB : Nat → Nat) (vB : Nat → Int32) (vB_seen : Nat → Int32) (vB_ruleNumbers : Nat → Int32) : va_W := [(aB, oX0 vB qB), (qB 1, rI cy 12 vB_seen), (qB 0, rI cy 572 vB_ruleNumbers)]
set_option maxHeartbeats 4000000 in
set_option maxRecDepth 100000 in
theorem kX0_lookOnce (l : Launch) (D : va_G) (cy : Nat → ClassId) (sz : Nat) (aB : Nat) (qB : Nat → Nat) (vB : Nat → Int32) (vB_seen : Nat → Int32) (vB_ruleNumbers : Nat → Int32) (z_vB : Nat → Int32) (z_vB_seen : Nat → Int32) (hok : fX0_lookOnce vB vB_seen vB_ruleNumbers = some (z_vB, z_vB_seen)) (A : Nat → Prop) (hAe : va_A (wX0_lookOnce cy aB qB vB vB_seen vB_ruleNumbers) sz = A) : Met l yX0_lookOnce wsX0_lookOnce ({ frames := 2, cells := 0, slots := 0, locals := 46 } : Room) (kPre D cy [.ref aB] (wX0_lookOnce cy aB qB vB vB_seen vB_ruleNumbers) sz) (kQv D cy A (wX0_lookOnce cy aB qB z_vB z_vB_seen vB_ruleNumbers)) 0 0 A := by
  refine Met.ofW (cc := cX0_lookOnce) (maxL := 4) (ret := none) (by decide) rfl ?_
  intro p e s m args below meth c s₁ B hml hv
  obtain ⟨rfl, hsz, hP, hK, hD0, hN⟩ := hv
  have hx := B.exec
  have hb := B.bytes
  have hr := B.returns
  have ht0 : ∀ w ∈ W0, w.before _ s = true := fun w h => atoms_spec (ws := wsX0_lookOnce) B.pre w (List.mem_cons_of_mem _ h)
  have hown : s.vm.findClass RX0 = some m.cls := findClass_of_methodNamed B.named
  have hlocks := B.notSynchronized
  subst hsz
  have hD : va_D A (wX0_lookOnce cy aB qB vB vB_seen vB_ruleNumbers) := by rw [← hAe]; exact hD0.self
  have hA : ∀ q : Nat, s.heap.size ≤ q → A q := fun q h => by rw [← hAe]; exact Or.inr h
  have hS : va_S A s.heap s.heap [] := va_S.rf
  have hl := lv_entry ([.ref aB]) (n := 4) (Nat.le_of_ble_eq_true rfl)
  rw [lg_entry_eq]
  generalize (lg_sl ([.ref aB]) ++ List.replicate (4 - (lg_sl ([.ref aB])).length) Slot.unset).toArray = ls at hl ⊢
  have hl : lv_has ls 4 [(0, .ref aB)] := hl
  generalize hQe : MQ below (kQv D cy A (wX0_lookOnce cy aB qB z_vB z_vB_seen vB_ruleNumbers)) ([.ref aB] : List Value).toArray s 0 0 A = Q
  have J118 : ∀ (vB_seen_118 : Nat → Int32) (vB_118 : Nat → Int32), ∀ (H : Heap) (locs : List Loc) (ls : Array Slot), va_P D vwCl (wX0_lookOnce cy aB qB vB_118 vB_seen_118 vB_ruleNumbers) H → va_D A (wX0_lookOnce cy aB qB vB_118 vB_seen_118 vB_ruleNumbers) → va_S A s.heap H locs → lv_has ls 4 [] → fX0_lookOnce_J118 vB_seen_118 vB_118 = some (z_vB, z_vB_seen) → W p l e ({ frames := 2, cells := 0, slots := 0, locals := 46 } : Room) s m ([.ref aB] : List Value).toArray below meth c H locs 0 0 Q (F0 m 118 ls []) := by
    intro vB_seen_118 vB_118 H locs ls hP hD hS hl hok
    unfold fX0_lookOnce_J118 at hok
    cases hok
    subst hQe; exact W.vret hx hb hr (fun t ht hW => ⟨⟨(), rfl, trivial, by rw [ht]; exact hP, va_K.moved hW.alike hK, hD⟩, hS.F ht⟩) hS.2.2 dX0_lookOnce_118
  have L27 : ∀ (fuel : Nat) (y1_27 : Int32) (vB_seen_27 : Nat → Int32) (vB_27 : Nat → Int32), ∀ (H : Heap) (locs : List Loc) (ls : Array Slot), va_P D vwCl (wX0_lookOnce cy aB qB vB_27 vB_seen_27 vB_ruleNumbers) H → va_D A (wX0_lookOnce cy aB qB vB_27 vB_seen_27 vB_ruleNumbers) → va_S A s.heap H locs → lv_has ls 4 [(0, .ref aB), (1, .int y1_27)] → lp (fX0_lookOnce_B27 vB_ruleNumbers) fuel (y1_27, vB_seen_27, vB_27) = some (z_vB, z_vB_seen) → W p l e ({ frames := 2, cells := 0, slots := 0, locals := 46 } : Room) s m ([.ref aB] : List Value).toArray below meth c H locs 0 0 Q (F0 m 27 ls []) := by
    intro fuel
    induction fuel with
    | zero => intro y1_27 vB_seen_27 vB_27 H locs ls hP hD hS hl hok; exact (lp_0 hok).elim
    | succ fuel ih27 =>
      intro y1_27 vB_seen_27 vB_27 H locs ls hP hD hS hl hok
      obtain ⟨y27, hok, hL27, hR27⟩ := lp_step hok
      have L47 : ∀ (fuel : Nat) (y2_47 : Int32) (vB_seen_47 : Nat → Int32) (vB_47 : Nat → Int32), ∀ (H : Heap) (locs : List Loc) (ls : Array Slot), va_P D vwCl (wX0_lookOnce cy aB qB vB_47 vB_seen_47 vB_ruleNumbers) H → va_D A (wX0_lookOnce cy aB qB vB_47 vB_seen_47 vB_ruleNumbers) → va_S A s.heap H locs → lv_has ls 4 [(0, .ref aB), (1, .int y1_27), (2, .int y2_47)] → lp (fX0_lookOnce_B47 y1_27) fuel (y2_47, vB_seen_47, vB_47) = some y27 → W p l e ({ frames := 2, cells := 0, slots := 0, locals := 46 } : Room) s m ([.ref aB] : List Value).toArray below meth c H locs 0 0 Q (F0 m 47 ls []) := by
        intro fuel
        induction fuel with
        | zero => intro y2_47 vB_seen_47 vB_47 H locs ls hP hD hS hl hok; exact (lp_0 hok).elim
        | succ fuel ih47 =>
          intro y2_47 vB_seen_47 vB_47 H locs ls hP hD hS hl hok
          obtain ⟨y47, hok, hL47, hR47⟩ := lp_step hok
          have J106 : ∀ (vB_106 : Nat → Int32), ∀ (H : Heap) (locs : List Loc) (ls : Array Slot), va_P D vwCl (wX0_lookOnce cy aB qB vB_106 vB_seen_47 vB_ruleNumbers) H → va_D A (wX0_lookOnce cy aB qB vB_106 vB_seen_47 vB_ruleNumbers) → va_S A s.heap H locs → lv_has ls 4 [(0, .ref aB), (1, .int y1_27), (2, .int y2_47)] → fX0_lookOnce_J106 y2_47 vB_seen_47 vB_106 = some y47 → W p l e ({ frames := 2, cells := 0, slots := 0, locals := 46 } : Room) s m ([.ref aB] : List Value).toArray below meth c H locs 0 0 Q (F0 m 106 ls []) := by
            intro vB_106 H locs ls hP hD hS hl hok
            unfold fX0_lookOnce_J106 at hok
            refine lv_iinc (v := (y2_47 + 1)) (lv' := [(2, .int (y2_47 + 1)), (0, .ref aB), (1, .int y1_27)]) hx hb dX0_lookOnce_106 hl (k := 2) rfl (by first | rfl | decide) (by decide) rfl (fun ls hl => ?_)
            refine lv_goto (tgt := 47) hx hb dX0_lookOnce_109 (by decide) ?_
            exact ih47 (y2_47 + 1) vB_seen_47 vB_106 H locs ls hP hD hS (lv_sub hl [1, 2, 0] rfl) (hR47 _ (Option.some.inj hok).symm)
          have J91 : ∀ (H : Heap) (locs : List Loc) (ls : Array Slot), va_P D vwCl (wX0_lookOnce cy aB qB vB_47 vB_seen_47 vB_ruleNumbers) H → va_D A (wX0_lookOnce cy aB qB vB_47 vB_seen_47 vB_ruleNumbers) → va_S A s.heap H locs → lv_has ls 4 [(0, .ref aB), (1, .int y1_27), (2, .int y2_47), (3, .int (if (vB_seen_47 y2_47.toNatClampNeg) < ((vB_47 2) - (vB_seen_47 y2_47.toNatClampNeg)) then ((vB_47 2) - (vB_seen_47 y2_47.toNatClampNeg)) else (vB_seen_47 y2_47.toNatClampNeg)))] → fX0_lookOnce_J91 y1_27 y2_47 vB_seen_47 vB_47 = some y47 → W p l e ({ frames := 2, cells := 0, slots := 0, locals := 46 } : Room) s m ([.ref aB] : List Value).toArray below meth c H locs 0 0 Q (F0 m 91 ls []) := by
            intro  H locs ls hP hD hS hl hok
            unfold fX0_lookOnce_J91 at hok
            refine lv_aload_n hx hb dX0_lookOnce_91 rfl (lv_at hl 0 rfl) ?_
            refine lv_bipush (v := 100) hx hb dX0_lookOnce_92 (by decide) ?_
            refine lv_iload_n hx hb dX0_lookOnce_94 rfl (lv_at hl 1 rfl) ?_
            refine lv_imul hx hb dX0_lookOnce_95 ?_
            refine lv_iload_n hx hb dX0_lookOnce_96 rfl (lv_at hl 2 rfl) ?_
            refine lv_iadd hx hb dX0_lookOnce_97 ?_
            refine va_put (D := D) (ci := 0) (v := .int (((100 : Int32) * y1_27) + y2_47)) (ty := .int) (C := RX0) (T := TX0) (N := 6) hx hb ht0 niX0 tyX0 tyX0_ok nmX0 hown hK hP hD hS 0 rfl rfl 4 (by decide) (ht0 _ wd33) (fun _ h9 => h9) rfl (by decide +kernel) rfl rfl (Nat.le_of_ble_eq_true rfl) dX0_lookOnce_98 (fun H locs hP hD hS => ?_)
            have hP : va_P D vwCl (wX0_lookOnce cy aB qB (upd vB_47 4 (((100 : Int32) * y1_27) + y2_47)) vB_seen_47 vB_ruleNumbers) H := hP
            have hD : va_D A (wX0_lookOnce cy aB qB (upd vB_47 4 (((100 : Int32) * y1_27) + y2_47)) vB_seen_47 vB_ruleNumbers) := hD
            refine lv_aload_n hx hb dX0_lookOnce_101 rfl (lv_at hl 0 rfl) ?_
            refine lv_iload_n hx hb dX0_lookOnce_102 rfl (lv_at hl 3 rfl) ?_
            refine va_put (D := D) (ci := 0) (v := .int (if (vB_seen_47 y2_47.toNatClampNeg) < ((vB_47 2) - (vB_seen_47 y2_47.toNatClampNeg)) then ((vB_47 2) - (vB_seen_47 y2_47.toNatClampNeg)) else (vB_seen_47 y2_47.toNatClampNeg))) (ty := .int) (C := RX0) (T := TX0) (N := 6) hx hb ht0 niX0 tyX0 tyX0_ok nmX0 hown hK hP hD hS 0 rfl rfl 5 (by decide) (ht0 _ wd34) (fun _ h9 => h9) rfl (by decide +kernel) rfl rfl (Nat.le_of_ble_eq_true rfl) dX0_lookOnce_103 (fun H locs hP hD hS => ?_)
            have hP : va_P D vwCl (wX0_lookOnce cy aB qB (upd (upd vB_47 4 (((100 : Int32) * y1_27) + y2_47)) 5 (if (vB_seen_47 y2_47.toNatClampNeg) < ((vB_47 2) - (vB_seen_47 y2_47.toNatClampNeg)) then ((vB_47 2) - (vB_seen_47 y2_47.toNatClampNeg)) else (vB_seen_47 y2_47.toNatClampNeg))) vB_seen_47 vB_ruleNumbers) H := hP
            have hD : va_D A (wX0_lookOnce cy aB qB (upd (upd vB_47 4 (((100 : Int32) * y1_27) + y2_47)) 5 (if (vB_seen_47 y2_47.toNatClampNeg) < ((vB_47 2) - (vB_seen_47 y2_47.toNatClampNeg)) then ((vB_47 2) - (vB_seen_47 y2_47.toNatClampNeg)) else (vB_seen_47 y2_47.toNatClampNeg))) vB_seen_47 vB_ruleNumbers) := hD
            exact J106 (upd (upd vB_47 4 (((100 : Int32) * y1_27) + y2_47)) 5 (if (vB_seen_47 y2_47.toNatClampNeg) < ((vB_47 2) - (vB_seen_47 y2_47.toNatClampNeg)) then ((vB_47 2) - (vB_seen_47 y2_47.toNatClampNeg)) else (vB_seen_47 y2_47.toNatClampNeg))) H locs ls hP hD hS (lv_sub hl [0, 1, 2] rfl) hok
          unfold fX0_lookOnce_B47 at hok
          try dsimp only at hok
          refine lv_iload_n hx hb dX0_lookOnce_47 rfl (lv_at hl 2 rfl) ?_
          refine lv_bipush (v := 12) hx hb dX0_lookOnce_48 (by decide) ?_
          refine lv_icmp_ge (tgt := 112) hx hb dX0_lookOnce_50 (by decide) (fun c50 => ?_) (fun c50 => ?_)
          · have hok := k_pos c50 hok
            obtain ⟨e47, hok, he47⟩ := ex_some hok
            have hok := hok.trans (congrArg some (hL47 _ he47))
            refine lv_iinc (v := (y1_27 + 1)) (lv' := [(1, .int (y1_27 + 1)), (0, .ref aB), (2, .int y2_47)]) hx hb dX0_lookOnce_112 hl (k := 1) rfl (by first | rfl | decide) (by decide) rfl (fun ls hl => ?_)
            refine lv_goto (tgt := 27) hx hb dX0_lookOnce_115 (by decide) ?_
            exact ih27 (y1_27 + 1) vB_seen_47 vB_47 H locs ls hP hD hS (lv_sub hl [1, 0] rfl) (hR27 _ (Option.some.inj hok).symm)
          · have hok := k_neg c50 hok
            refine lv_aload_n hx hb dX0_lookOnce_53 rfl (lv_at hl 0 rfl) ?_
            refine va_get (D := D) (ci := 0) (v := .ref (qB 1)) (C := RX0) (T := TX0) (N := 6) hx hb ht0 niX0 hown hK hP 0 rfl rfl 1 (by decide) (ht0 _ wd28) (fun _ h9 => h9) rfl dX0_lookOnce_54 ?_
            refine lv_iload_n hx hb dX0_lookOnce_57 rfl (lv_at hl 2 rfl) ?_
            obtain ⟨g58, hok⟩ := gd_some hok
            refine va_iald hx hb hK hP 1 0 rfl rfl (okI_in g58) dX0_lookOnce_58 ?_
            refine lv_aload_n hx hb dX0_lookOnce_59 rfl (lv_at hl 0 rfl) ?_
            refine va_get (D := D) (ci := 0) (v := .int (vB_47 2)) (C := RX0) (T := TX0) (N := 6) hx hb ht0 niX0 hown hK hP 0 rfl rfl 2 (by decide) (ht0 _ wd4) (fun _ h9 => h9) rfl dX0_lookOnce_60 ?_
            refine lv_aload_n hx hb dX0_lookOnce_63 rfl (lv_at hl 0 rfl) ?_
            refine va_get (D := D) (ci := 0) (v := .ref (qB 1)) (C := RX0) (T := TX0) (N := 6) hx hb ht0 niX0 hown hK hP 0 rfl rfl 1 (by decide) (ht0 _ wd28) (fun _ h9 => h9) rfl dX0_lookOnce_64 ?_
            refine lv_iload_n hx hb dX0_lookOnce_67 rfl (lv_at hl 2 rfl) ?_
            obtain ⟨g68, hok⟩ := gd_some hok
            refine va_iald hx hb hK hP 1 0 rfl rfl (okI_in g68) dX0_lookOnce_68 ?_
            refine lv_isub hx hb dX0_lookOnce_69 ?_
            refine va_mmax hx hb (hml.trans hl.1.symm) hown (ht0 _ wd35) (ht0 _ wd36) (ht0 _ wd37) (ht0 _ wd38) (Nat.le_of_ble_eq_true rfl) (Nat.le_of_ble_eq_true rfl) (Nat.zero_le _) (Nat.zero_le _) dX0_lookOnce_70 ?_
            refine lv_istore_n (lv' := [(3, .int (if (vB_seen_47 y2_47.toNatClampNeg) < ((vB_47 2) - (vB_seen_47 y2_47.toNatClampNeg)) then ((vB_47 2) - (vB_seen_47 y2_47.toNatClampNeg)) else (vB_seen_47 y2_47.toNatClampNeg))), (0, .ref aB), (1, .int y1_27), (2, .int y2_47)]) hx hb dX0_lookOnce_73 rfl hl (by decide) rfl (fun ls hl => ?_)
            refine lv_aload_n hx hb dX0_lookOnce_74 rfl (lv_at hl 1 rfl) ?_
            refine va_get (D := D) (ci := 0) (v := .int (vB_47 4)) (C := RX0) (T := TX0) (N := 6) hx hb ht0 niX0 hown hK hP 0 rfl rfl 4 (by decide) (ht0 _ wd33) (fun _ h9 => h9) rfl dX0_lookOnce_75 ?_
            refine lv_bipush (v := -2) hx hb dX0_lookOnce_78 (by decide) ?_
            refine lv_icmp_eq (tgt := 91) hx hb dX0_lookOnce_80 (by decide) (fun c80 => ?_) (fun c80 => ?_)
            · have hok := k_pos c80 hok
              exact J91  H locs ls hP hD hS (lv_sub hl [1, 2, 3, 0] rfl) hok
            · have hok := k_neg c80 hok
              refine lv_iload_n hx hb dX0_lookOnce_83 rfl (lv_at hl 0 rfl) ?_
              refine lv_aload_n hx hb dX0_lookOnce_84 rfl (lv_at hl 1 rfl) ?_
              refine va_get (D := D) (ci := 0) (v := .int (vB_47 5)) (C := RX0) (T := TX0) (N := 6) hx hb ht0 niX0 hown hK hP 0 rfl rfl 5 (by decide) (ht0 _ wd34) (fun _ h9 => h9) rfl dX0_lookOnce_85 ?_
              refine lv_icmp_ge (tgt := 106) hx hb dX0_lookOnce_88 (by decide) (fun c88 => ?_) (fun c88 => ?_)
              · have hok := k_pos c88 hok
                exact J106 vB_47 H locs ls hP hD hS (lv_sub hl [1, 2, 3] rfl) hok
              · have hok := k_neg c88 hok
                exact J91  H locs ls hP hD hS (lv_sub hl [1, 2, 3, 0] rfl) hok
      unfold fX0_lookOnce_B27 at hok
      try dsimp only at hok
      refine lv_iload_n hx hb dX0_lookOnce_27 rfl (lv_at hl 1 rfl) ?_
      refine lv_bipush (v := 100) hx hb dX0_lookOnce_28 (by decide) ?_
      refine lv_icmp_ge (tgt := 118) hx hb dX0_lookOnce_30 (by decide) (fun c30 => ?_) (fun c30 => ?_)
      · have hok := k_pos c30 hok
        obtain ⟨e27, hok, he27⟩ := ex_some hok
        have hok := hok.trans (congrArg some (hL27 _ he27))
        exact J118 vB_seen_27 vB_27 H locs ls hP hD hS (lv_sub hl [] rfl) hok
      · have hok := k_neg c30 hok
        refine lv_aload_n hx hb dX0_lookOnce_33 rfl (lv_at hl 0 rfl) ?_
        refine va_get (D := D) (ci := 0) (v := .int (vB_27 2)) (C := RX0) (T := TX0) (N := 6) hx hb ht0 niX0 hown hK hP 0 rfl rfl 2 (by decide) (ht0 _ wd4) (fun _ h9 => h9) rfl dX0_lookOnce_34 ?_
        refine lv_if_le (tgt := 118) hx hb dX0_lookOnce_37 (by decide) (fun c37 => ?_) (fun c37 => ?_)
        · have hok := k_pos c37 hok
          obtain ⟨e27, hok, he27⟩ := ex_some hok
          have hok := hok.trans (congrArg some (hL27 _ he27))
          exact J118 vB_seen_27 vB_27 H locs ls hP hD hS (lv_sub hl [] rfl) hok
        · have hok := k_neg c37 hok
          refine lv_aload_n hx hb dX0_lookOnce_40 rfl (lv_at hl 0 rfl) ?_
          refine lv_iload_n hx hb dX0_lookOnce_41 rfl (lv_at hl 1 rfl) ?_
          obtain ⟨vB_seen_42, hc42, hok⟩ := k_bind hok
          refine kCv (wc := (wX0_countSeen cy aB qB vB_27 vB_seen_27 vB_ruleNumbers)) (wc2 := (wX0_countSeen cy aB qB vB_27 vB_seen_42 vB_ruleNumbers)) (wr := []) (ws2 := (wX0_lookOnce cy aB qB vB_27 vB_seen_42 vB_ruleNumbers)) (kRunV (As := [.int y1_27]) (rest := []) ⟨hx, hb, hml, hown, ht0⟩ (kX0_countSeen l D cy _ aB qB vB_27 vB_seen_27 vB_ruleNumbers y1_27 vB_seen_42 hc42 _ rfl) (cwV 1 ht0 (gV wd39 wd40 wd41 wd14 wd42) rfl rfl rfl (by decide +kernel) ⟨Nat.le_of_ble_eq_true rfl, Nat.le_of_ble_eq_true rfl⟩) hK hN hP hD [0, 1, 2] rfl (by decide) 0 0 rfl rfl rfl hl.1 rfl (Nat.le_of_ble_eq_true rfl) dX0_lookOnce_42 ⟨Nat.zero_le _, Nat.zero_le _⟩) hP hD hS hA [0, 1, 2] [] rfl rfl (by decide) (by decide) [0, 1, 2] (by decide) rfl rfl (fun H locs hP hD hS => ?_)
          refine lv_iconst (v := 0) hx hb dX0_lookOnce_45 (by decide) ?_
          refine lv_istore_n (lv' := [(2, .int 0), (0, .ref aB), (1, .int y1_27)]) hx hb dX0_lookOnce_46 rfl hl (by decide) rfl (fun ls hl => ?_)
          exact L47 5000 (0 : Int32) vB_seen_42 vB_27 H locs ls hP hD hS (lv_sub hl [1, 2, 0] rfl) hok
  unfold fX0_lookOnce at hok
  obtain ⟨H, hH⟩ : ∃ H, H = s.heap := ⟨_, rfl⟩
  obtain ⟨locs, hlc⟩ : ∃ x : List Loc, x = [] := ⟨_, rfl⟩
  have hP : va_P D vwCl (wX0_lookOnce cy aB qB vB vB_seen vB_ruleNumbers) H := by rw [hH]; exact hP
  have hS : va_S A s.heap H locs := by rw [hH, hlc]; exact hS
  rw [show W p l e _ s m _ below meth c s.heap [] = W p l e _ s m _ below meth c H locs from by rw [hH, hlc]]
  refine lv_aload_n hx hb dX0_lookOnce_0 rfl (lv_at hl 0 rfl) ?_
  refine va_get (D := D) (ci := 0) (v := .int (vB 3)) (C := RX0) (T := TX0) (N := 6) hx hb ht0 niX0 hown hK hP 0 rfl rfl 3 (by decide) (ht0 _ wd16) (fun _ h9 => h9) rfl dX0_lookOnce_1 ?_
  refine lv_if_eq (tgt := 8) hx hb dX0_lookOnce_4 (by decide) (fun c4 => ?_) (fun c4 => ?_)
  · have hok := k_pos c4 hok
    refine lv_aload_n hx hb dX0_lookOnce_8 rfl (lv_at hl 0 rfl) ?_
    refine lv_iconst (v := 1) hx hb dX0_lookOnce_9 (by decide) ?_
    refine va_put (D := D) (ci := 0) (v := .int 1) (ty := .boolean) (C := RX0) (T := TX0) (N := 6) hx hb ht0 niX0 tyX0 tyX0_ok nmX0 hown hK hP hD hS 0 rfl rfl 3 (by decide) (ht0 _ wd16) (fun _ h9 => h9) rfl (by decide +kernel) rfl rfl (Nat.le_of_ble_eq_true rfl) dX0_lookOnce_10 (fun H locs hP hD hS => ?_)
    have hP : va_P D vwCl (wX0_lookOnce cy aB qB (upd vB 3 (1 : Int32)) vB_seen vB_ruleNumbers) H := hP
    have hD : va_D A (wX0_lookOnce cy aB qB (upd vB 3 (1 : Int32)) vB_seen vB_ruleNumbers) := hD
    refine lv_aload_n hx hb dX0_lookOnce_13 rfl (lv_at hl 0 rfl) ?_
    refine lv_bipush (v := -2) hx hb dX0_lookOnce_14 (by decide) ?_
    refine va_put (D := D) (ci := 0) (v := .int (-2)) (ty := .int) (C := RX0) (T := TX0) (N := 6) hx hb ht0 niX0 tyX0 tyX0_ok nmX0 hown hK hP hD hS 0 rfl rfl 4 (by decide) (ht0 _ wd33) (fun _ h9 => h9) rfl (by decide +kernel) rfl rfl (Nat.le_of_ble_eq_true rfl) dX0_lookOnce_16 (fun H locs hP hD hS => ?_)
    have hP : va_P D vwCl (wX0_lookOnce cy aB qB (upd (upd vB 3 (1 : Int32)) 4 (-2 : Int32)) vB_seen vB_ruleNumbers) H := hP
    have hD : va_D A (wX0_lookOnce cy aB qB (upd (upd vB 3 (1 : Int32)) 4 (-2 : Int32)) vB_seen vB_ruleNumbers) := hD
    refine lv_aload_n hx hb dX0_lookOnce_19 rfl (lv_at hl 0 rfl) ?_
    refine lv_bipush (v := -2) hx hb dX0_lookOnce_20 (by decide) ?_
    refine va_put (D := D) (ci := 0) (v := .int (-2)) (ty := .int) (C := RX0) (T := TX0) (N := 6) hx hb ht0 niX0 tyX0 tyX0_ok nmX0 hown hK hP hD hS 0 rfl rfl 5 (by decide) (ht0 _ wd34) (fun _ h9 => h9) rfl (by decide +kernel) rfl rfl (Nat.le_of_ble_eq_true rfl) dX0_lookOnce_22 (fun H locs hP hD hS => ?_)
    have hP : va_P D vwCl (wX0_lookOnce cy aB qB (upd (upd (upd vB 3 (1 : Int32)) 4 (-2 : Int32)) 5 (-2 : Int32)) vB_seen vB_ruleNumbers) H := hP
    have hD : va_D A (wX0_lookOnce cy aB qB (upd (upd (upd vB 3 (1 : Int32)) 4 (-2 : Int32)) 5 (-2 : Int32)) vB_seen vB_ruleNumbers) := hD
    refine lv_iconst (v := 0) hx hb dX0_lookOnce_25 (by decide) ?_
    refine lv_istore_n (lv' := [(1, .int 0), (0, .ref aB)]) hx hb dX0_lookOnce_26 rfl hl (by decide) rfl (fun ls hl => ?_)
    exact L27 5000 (0 : Int32) vB_seen (upd (upd (upd vB 3 (1 : Int32)) 4 (-2 : Int32)) 5 (-2 : Int32)) H locs ls hP hD hS (lv_sub hl [1, 0] rfl) hok
  · have hok := k_neg c4 hok
    cases hok
    subst hQe; exact W.vret hx hb hr (fun t ht hW => ⟨⟨(), rfl, trivial, by rw [ht]; exact hP, va_K.moved hW.alike hK, hD⟩, hS.F ht⟩) hS.2.2 dX0_lookOnce_7
def wsX0_bestLook : List Cond := .code yX0_bestLook cX0_bestLook 1 (some .int) :: W0
abbrev wX0_bestLook (cy : Nat → ClassId) (aB : Nat) (qB : Nat → Nat) (vB : Nat → Int32) (vB_seen : Nat → Int32) (vB_ruleNumbers : Nat → Int32) : va_W := [(aB, oX0 vB qB), (qB 1, rI cy 12 vB_seen), (qB 0, rI cy 572 vB_ruleNumbers)]
set_option maxHeartbeats 4000000 in
set_option maxRecDepth 100000 in
theorem kX0_bestLook (l : Launch) (D : va_G) (cy : Nat → ClassId) (sz : Nat) (aB : Nat) (qB : Nat → Nat) (vB : Nat → Int32) (vB_seen : Nat → Int32) (vB_ruleNumbers : Nat → Int32) (zr : Int32) (z_vB : Nat → Int32) (z_vB_seen : Nat → Int32) (hok : fX0_bestLook vB vB_seen vB_ruleNumbers = some (zr, z_vB, z_vB_seen)) (A : Nat → Prop) (hAe : va_A (wX0_bestLook cy aB qB vB vB_seen vB_ruleNumbers) sz = A) : Met l yX0_bestLook wsX0_bestLook ({ frames := 3, cells := 0, slots := 0, locals := 69 } : Room) (kPre D cy [.ref aB] (wX0_bestLook cy aB qB vB vB_seen vB_ruleNumbers) sz) (kQi D cy zr A (wX0_bestLook cy aB qB z_vB z_vB_seen vB_ruleNumbers)) 0 0 A := by
  refine Met.ofW (cc := cX0_bestLook) (maxL := 1) (ret := (some .int)) (by decide) rfl ?_
  intro p e s m args below meth c s₁ B hml hv
  obtain ⟨rfl, hsz, hP, hK, hD0, hN⟩ := hv
  have hx := B.exec
  have hb := B.bytes
  have hr := B.returns
  have ht0 : ∀ w ∈ W0, w.before _ s = true := fun w h => atoms_spec (ws := wsX0_bestLook) B.pre w (List.mem_cons_of_mem _ h)
  have hown : s.vm.findClass RX0 = some m.cls := findClass_of_methodNamed B.named
  have hlocks := B.notSynchronized
  subst hsz
  have hD : va_D A (wX0_bestLook cy aB qB vB vB_seen vB_ruleNumbers) := by rw [← hAe]; exact hD0.self
  have hA : ∀ q : Nat, s.heap.size ≤ q → A q := fun q h => by rw [← hAe]; exact Or.inr h
  have hS : va_S A s.heap s.heap [] := va_S.rf
  have hl := lv_entry ([.ref aB]) (n := 1) (Nat.le_of_ble_eq_true rfl)
  rw [lg_entry_eq]
  generalize (lg_sl ([.ref aB]) ++ List.replicate (1 - (lg_sl ([.ref aB])).length) Slot.unset).toArray = ls at hl ⊢
  have hl : lv_has ls 1 [(0, .ref aB)] := hl
  unfold fX0_bestLook at hok
  obtain ⟨H, hH⟩ : ∃ H, H = s.heap := ⟨_, rfl⟩
  obtain ⟨locs, hlc⟩ : ∃ x : List Loc, x = [] := ⟨_, rfl⟩
  have hP : va_P D vwCl (wX0_bestLook cy aB qB vB vB_seen vB_ruleNumbers) H := by rw [hH]; exact hP
  have hS : va_S A s.heap H locs := by rw [hH, hlc]; exact hS
  rw [show W p l e _ s m _ below meth c s.heap [] = W p l e _ s m _ below meth c H locs from by rw [hH, hlc]]
  refine lv_aload_n hx hb dX0_bestLook_0 rfl (lv_at hl 0 rfl) ?_
  obtain ⟨⟨vB_1, vB_seen_1⟩, hc1, hok⟩ := k_bind hok
  try dsimp only at hok
  refine kCv (wc := (wX0_lookOnce cy aB qB vB vB_seen vB_ruleNumbers)) (wc2 := (wX0_lookOnce cy aB qB vB_1 vB_seen_1 vB_ruleNumbers)) (wr := []) (ws2 := (wX0_bestLook cy aB qB vB_1 vB_seen_1 vB_ruleNumbers)) (kRunV (As := []) (rest := []) ⟨hx, hb, hml, hown, ht0⟩ (kX0_lookOnce l D cy _ aB qB vB vB_seen vB_ruleNumbers vB_1 vB_seen_1 hc1 _ rfl) (cwV 0 ht0 (gV wd43 wd44 wd45 wd14 wd46) rfl rfl rfl (by decide +kernel) ⟨Nat.le_of_ble_eq_true rfl, Nat.le_of_ble_eq_true rfl⟩) hK hN hP hD [0, 1, 2] rfl (by decide) 0 0 rfl rfl rfl hl.1 rfl (Nat.le_of_ble_eq_true rfl) dX0_bestLook_1 ⟨Nat.zero_le _, Nat.zero_le _⟩) hP hD hS hA [0, 1, 2] [] rfl rfl (by decide) (by decide) [0, 1, 2] (by decide) rfl rfl (fun H locs hP hD hS => ?_)
  refine lv_aload_n hx hb dX0_bestLook_4 rfl (lv_at hl 0 rfl) ?_
  refine va_get (D := D) (ci := 0) (v := .int (vB_1 4)) (C := RX0) (T := TX0) (N := 6) hx hb ht0 niX0 hown hK hP 0 rfl rfl 4 (by decide) (ht0 _ wd33) (fun _ h9 => h9) rfl dX0_bestLook_5 ?_
  cases hok
  exact W.iret hx hb hr (fun t ht hW => ⟨⟨_, (), rfl, rfl, by rw [ht]; exact hP, va_K.moved hW.alike hK, hD⟩, hS.F ht⟩) hS.2.2 dX0_bestLook_8
def wsX0_leftByLook : List Cond := .code yX0_leftByLook cX0_leftByLook 1 (some .int) :: W0
abbrev wX0_leftByLook (cy : Nat → ClassId) (aB : Nat) (qB : Nat → Nat) (vB : Nat → Int32) (vB_seen : Nat → Int32) (vB_ruleNumbers : Nat → Int32) : va_W := [(aB, oX0 vB qB), (qB 1, rI cy 12 vB_seen), (qB 0, rI cy 572 vB_ruleNumbers)]
set_option maxHeartbeats 4000000 in
set_option maxRecDepth 100000 in
theorem kX0_leftByLook (l : Launch) (D : va_G) (cy : Nat → ClassId) (sz : Nat) (aB : Nat) (qB : Nat → Nat) (vB : Nat → Int32) (vB_seen : Nat → Int32) (vB_ruleNumbers : Nat → Int32) (zr : Int32) (z_vB : Nat → Int32) (z_vB_seen : Nat → Int32) (hok : fX0_leftByLook vB vB_seen vB_ruleNumbers = some (zr, z_vB, z_vB_seen)) (A : Nat → Prop) (hAe : va_A (wX0_leftByLook cy aB qB vB vB_seen vB_ruleNumbers) sz = A) : Met l yX0_leftByLook wsX0_leftByLook ({ frames := 3, cells := 0, slots := 0, locals := 69 } : Room) (kPre D cy [.ref aB] (wX0_leftByLook cy aB qB vB vB_seen vB_ruleNumbers) sz) (kQi D cy zr A (wX0_leftByLook cy aB qB z_vB z_vB_seen vB_ruleNumbers)) 0 0 A := by
  refine Met.ofW (cc := cX0_leftByLook) (maxL := 1) (ret := (some .int)) (by decide) rfl ?_
  intro p e s m args below meth c s₁ B hml hv
  obtain ⟨rfl, hsz, hP, hK, hD0, hN⟩ := hv
  have hx := B.exec
  have hb := B.bytes
  have hr := B.returns
  have ht0 : ∀ w ∈ W0, w.before _ s = true := fun w h => atoms_spec (ws := wsX0_leftByLook) B.pre w (List.mem_cons_of_mem _ h)
  have hown : s.vm.findClass RX0 = some m.cls := findClass_of_methodNamed B.named
  have hlocks := B.notSynchronized
  subst hsz
  have hD : va_D A (wX0_leftByLook cy aB qB vB vB_seen vB_ruleNumbers) := by rw [← hAe]; exact hD0.self
  have hA : ∀ q : Nat, s.heap.size ≤ q → A q := fun q h => by rw [← hAe]; exact Or.inr h
  have hS : va_S A s.heap s.heap [] := va_S.rf
  have hl := lv_entry ([.ref aB]) (n := 1) (Nat.le_of_ble_eq_true rfl)
  rw [lg_entry_eq]
  generalize (lg_sl ([.ref aB]) ++ List.replicate (1 - (lg_sl ([.ref aB])).length) Slot.unset).toArray = ls at hl ⊢
  have hl : lv_has ls 1 [(0, .ref aB)] := hl
  unfold fX0_leftByLook at hok
  obtain ⟨H, hH⟩ : ∃ H, H = s.heap := ⟨_, rfl⟩
  obtain ⟨locs, hlc⟩ : ∃ x : List Loc, x = [] := ⟨_, rfl⟩
  have hP : va_P D vwCl (wX0_leftByLook cy aB qB vB vB_seen vB_ruleNumbers) H := by rw [hH]; exact hP
  have hS : va_S A s.heap H locs := by rw [hH, hlc]; exact hS
  rw [show W p l e _ s m _ below meth c s.heap [] = W p l e _ s m _ below meth c H locs from by rw [hH, hlc]]
  refine lv_aload_n hx hb dX0_leftByLook_0 rfl (lv_at hl 0 rfl) ?_
  obtain ⟨⟨vB_1, vB_seen_1⟩, hc1, hok⟩ := k_bind hok
  try dsimp only at hok
  refine kCv (wc := (wX0_lookOnce cy aB qB vB vB_seen vB_ruleNumbers)) (wc2 := (wX0_lookOnce cy aB qB vB_1 vB_seen_1 vB_ruleNumbers)) (wr := []) (ws2 := (wX0_leftByLook cy aB qB vB_1 vB_seen_1 vB_ruleNumbers)) (kRunV (As := []) (rest := []) ⟨hx, hb, hml, hown, ht0⟩ (kX0_lookOnce l D cy _ aB qB vB vB_seen vB_ruleNumbers vB_1 vB_seen_1 hc1 _ rfl) (cwV 0 ht0 (gV wd43 wd44 wd45 wd14 wd46) rfl rfl rfl (by decide +kernel) ⟨Nat.le_of_ble_eq_true rfl, Nat.le_of_ble_eq_true rfl⟩) hK hN hP hD [0, 1, 2] rfl (by decide) 0 0 rfl rfl rfl hl.1 rfl (Nat.le_of_ble_eq_true rfl) dX0_leftByLook_1 ⟨Nat.zero_le _, Nat.zero_le _⟩) hP hD hS hA [0, 1, 2] [] rfl rfl (by decide) (by decide) [0, 1, 2] (by decide) rfl rfl (fun H locs hP hD hS => ?_)
  refine lv_aload_n hx hb dX0_leftByLook_4 rfl (lv_at hl 0 rfl) ?_
  refine va_get (D := D) (ci := 0) (v := .int (vB_1 5)) (C := RX0) (T := TX0) (N := 6) hx hb ht0 niX0 hown hK hP 0 rfl rfl 5 (by decide) (ht0 _ wd34) (fun _ h9 => h9) rfl dX0_leftByLook_5 ?_
  cases hok
  exact W.iret hx hb hr (fun t ht hW => ⟨⟨_, (), rfl, rfl, by rw [ht]; exact hP, va_K.moved hW.alike hK, hD⟩, hS.F ht⟩) hS.2.2 dX0_leftByLook_8
def wsX4_firstCellOf : List Cond := .code yX4_firstCellOf cX4_firstCellOf 2 (some .int) :: W0
abbrev wX4_firstCellOf (cy : Nat → ClassId) (aH : Nat) (qH : Nat → Nat) (vH : Nat → Int32) (vH_firstCells : Nat → Int32) : va_W := [(aH, oX4 vH qH), (qH 16, rI cy 7 vH_firstCells)]
set_option maxHeartbeats 4000000 in
set_option maxRecDepth 100000 in
theorem kX4_firstCellOf (l : Launch) (D : va_G) (cy : Nat → ClassId) (sz : Nat) (aH : Nat) (qH : Nat → Nat) (vH : Nat → Int32) (vH_firstCells : Nat → Int32) (x1 : Int32) (zr : Int32) (hok : fX4_firstCellOf vH vH_firstCells x1 = some zr) (A : Nat → Prop) (hAe : va_A (wX4_firstCellOf cy aH qH vH vH_firstCells) sz = A) : Met l yX4_firstCellOf wsX4_firstCellOf ({ frames := 0, cells := 0, slots := 0, locals := 0 } : Room) (kPre D cy [.ref aH, .int x1] (wX4_firstCellOf cy aH qH vH vH_firstCells) sz) (kQi D cy zr A (wX4_firstCellOf cy aH qH vH vH_firstCells)) 0 0 A := by
  refine Met.ofW (cc := cX4_firstCellOf) (maxL := 2) (ret := (some .int)) (by decide) rfl ?_
  intro p e s m args below meth c s₁ B hml hv
  obtain ⟨rfl, hsz, hP, hK, hD0, hN⟩ := hv
  have hx := B.exec
  have hb := B.bytes
  have hr := B.returns
  have ht0 : ∀ w ∈ W0, w.before _ s = true := fun w h => atoms_spec (ws := wsX4_firstCellOf) B.pre w (List.mem_cons_of_mem _ h)
  have hown : s.vm.findClass RX4 = some m.cls := findClass_of_methodNamed B.named
  have hlocks := B.notSynchronized
  subst hsz
  have hD : va_D A (wX4_firstCellOf cy aH qH vH vH_firstCells) := by rw [← hAe]; exact hD0.self
  have hA : ∀ q : Nat, s.heap.size ≤ q → A q := fun q h => by rw [← hAe]; exact Or.inr h
  have hS : va_S A s.heap s.heap [] := va_S.rf
  have hl := lv_entry ([.ref aH, .int x1]) (n := 2) (Nat.le_of_ble_eq_true rfl)
  rw [lg_entry_eq]
  generalize (lg_sl ([.ref aH, .int x1]) ++ List.replicate (2 - (lg_sl ([.ref aH, .int x1])).length) Slot.unset).toArray = ls at hl ⊢
  have hl : lv_has ls 2 [(0, .ref aH), (1, .int x1)] := hl
  generalize hQe : MQ below (kQi D cy zr A (wX4_firstCellOf cy aH qH vH vH_firstCells)) ([.ref aH, .int x1] : List Value).toArray s 0 0 A = Q
  have J20 : ∀ (t0_20 : Int32), ∀ (H : Heap) (locs : List Loc) (ls : Array Slot), va_P D vwCl (wX4_firstCellOf cy aH qH vH vH_firstCells) H → va_D A (wX4_firstCellOf cy aH qH vH vH_firstCells) → va_S A s.heap H locs → lv_has ls 2 [] → fX4_firstCellOf_J20 t0_20 = some zr → W p l e ({ frames := 0, cells := 0, slots := 0, locals := 0 } : Room) s m ([.ref aH, .int x1] : List Value).toArray below meth c H locs 0 0 Q (F0 m 20 ls [.int t0_20]) := by
    intro t0_20 H locs ls hP hD hS hl hok
    unfold fX4_firstCellOf_J20 at hok
    cases hok
    subst hQe; exact W.iret hx hb hr (fun t ht hW => ⟨⟨_, (), rfl, rfl, by rw [ht]; exact hP, va_K.moved hW.alike hK, hD⟩, hS.F ht⟩) hS.2.2 dX4_firstCellOf_20
  have J19 : ∀ (H : Heap) (locs : List Loc) (ls : Array Slot), va_P D vwCl (wX4_firstCellOf cy aH qH vH vH_firstCells) H → va_D A (wX4_firstCellOf cy aH qH vH vH_firstCells) → va_S A s.heap H locs → lv_has ls 2 [] → fX4_firstCellOf_J19 = some zr → W p l e ({ frames := 0, cells := 0, slots := 0, locals := 0 } : Room) s m ([.ref aH, .int x1] : List Value).toArray below meth c H locs 0 0 Q (F0 m 19 ls []) := by
    intro  H locs ls hP hD hS hl hok
    unfold fX4_firstCellOf_J19 at hok
    refine lv_iconst (v := 0) hx hb dX4_firstCellOf_19 (by decide) ?_
    exact J20 (0 : Int32) H locs ls hP hD hS (lv_sub hl [] rfl) hok
  unfold fX4_firstCellOf at hok
  obtain ⟨H, hH⟩ : ∃ H, H = s.heap := ⟨_, rfl⟩
  obtain ⟨locs, hlc⟩ : ∃ x : List Loc, x = [] := ⟨_, rfl⟩
  have hP : va_P D vwCl (wX4_firstCellOf cy aH qH vH vH_firstCells) H := by rw [hH]; exact hP
  have hS : va_S A s.heap H locs := by rw [hH, hlc]; exact hS
  rw [show W p l e _ s m _ below meth c s.heap [] = W p l e _ s m _ below meth c H locs from by rw [hH, hlc]]
  refine lv_iload_n hx hb dX4_firstCellOf_0 rfl (lv_at hl 1 rfl) ?_
  refine lv_if_lt (tgt := 19) hx hb dX4_firstCellOf_1 (by decide) (fun c1 => ?_) (fun c1 => ?_)
  · have hok := k_pos c1 hok
    exact J19  H locs ls hP hD hS (lv_sub hl [] rfl) hok
  · have hok := k_neg c1 hok
    refine lv_iload_n hx hb dX4_firstCellOf_4 rfl (lv_at hl 1 rfl) ?_
    refine lv_bipush (v := 7) hx hb dX4_firstCellOf_5 (by decide) ?_
    refine lv_icmp_ge (tgt := 19) hx hb dX4_firstCellOf_7 (by decide) (fun c7 => ?_) (fun c7 => ?_)
    · have hok := k_pos c7 hok
      exact J19  H locs ls hP hD hS (lv_sub hl [] rfl) hok
    · have hok := k_neg c7 hok
      refine lv_aload_n hx hb dX4_firstCellOf_10 rfl (lv_at hl 0 rfl) ?_
      refine va_get (D := D) (ci := 3) (v := .ref (qH 16)) (C := RX4) (T := TX4) (N := 20) hx hb ht0 niX4 hown hK hP 0 rfl rfl 16 (by decide) (ht0 _ wd47) (fun _ h9 => h9) rfl dX4_firstCellOf_11 ?_
      refine lv_iload_n hx hb dX4_firstCellOf_14 rfl (lv_at hl 1 rfl) ?_
      obtain ⟨g15, hok⟩ := gd_some hok
      refine va_iald hx hb hK hP 1 0 rfl rfl (okI_in g15) dX4_firstCellOf_15 ?_
      refine lv_goto (tgt := 20) hx hb dX4_firstCellOf_16 (by decide) ?_
      exact J20 (vH_firstCells x1.toNatClampNeg) H locs ls hP hD hS (lv_sub hl [] rfl) hok
def wsX1_begin : List Cond := .code yX1_begin cX1_begin 3 none :: W0
abbrev wX1_begin (cy : Nat → ClassId) (aD : Nat) (aH : Nat) (qD : Nat → Nat) (qH : Nat → Nat) (vD : Nat → Int32) (vD_now : Nat → Int32) (vH : Nat → Int32) (vH_firstCells : Nat → Int32) : va_W := [(aD, oX1 vD qD), (qD 0, rI cy 9 vD_now), (aH, oX4 vH qH), (qH 16, rI cy 7 vH_firstCells)]
set_option maxHeartbeats 4000000 in
set_option maxRecDepth 100000 in
theorem kX1_begin (l : Launch) (D : va_G) (cy : Nat → ClassId) (sz : Nat) (aD : Nat) (aH : Nat) (qD : Nat → Nat) (qH : Nat → Nat) (vD : Nat → Int32) (vD_now : Nat → Int32) (vH : Nat → Int32) (vH_firstCells : Nat → Int32) (z_vD : Nat → Int32) (z_vD_now : Nat → Int32) (hok : fX1_begin vD vD_now vH vH_firstCells = some (z_vD, z_vD_now)) (A : Nat → Prop) (hAe : va_A (wX1_begin cy aD aH qD qH vD vD_now vH vH_firstCells) sz = A) : Met l yX1_begin wsX1_begin ({ frames := 1, cells := 0, slots := 0, locals := 23 } : Room) (kPre D cy [.ref aD, .ref aH] (wX1_begin cy aD aH qD qH vD vD_now vH vH_firstCells) sz) (kQv D cy A (wX1_begin cy aD aH qD qH z_vD z_vD_now vH vH_firstCells)) 0 0 A := by
  refine Met.ofW (cc := cX1_begin) (maxL := 3) (ret := none) (by decide) rfl ?_
  intro p e s m args below meth c s₁ B hml hv
  obtain ⟨rfl, hsz, hP, hK, hD0, hN⟩ := hv
  have hx := B.exec
  have hb := B.bytes
  have hr := B.returns
  have ht0 : ∀ w ∈ W0, w.before _ s = true := fun w h => atoms_spec (ws := wsX1_begin) B.pre w (List.mem_cons_of_mem _ h)
  have hown : s.vm.findClass RX1 = some m.cls := findClass_of_methodNamed B.named
  have hlocks := B.notSynchronized
  subst hsz
  have hD : va_D A (wX1_begin cy aD aH qD qH vD vD_now vH vH_firstCells) := by rw [← hAe]; exact hD0.self
  have hA : ∀ q : Nat, s.heap.size ≤ q → A q := fun q h => by rw [← hAe]; exact Or.inr h
  have hS : va_S A s.heap s.heap [] := va_S.rf
  have hl := lv_entry ([.ref aD, .ref aH]) (n := 3) (Nat.le_of_ble_eq_true rfl)
  rw [lg_entry_eq]
  generalize (lg_sl ([.ref aD, .ref aH]) ++ List.replicate (3 - (lg_sl ([.ref aD, .ref aH])).length) Slot.unset).toArray = ls at hl ⊢
  have hl : lv_has ls 3 [(0, .ref aD), (1, .ref aH)] := hl
  generalize hQe : MQ below (kQv D cy A (wX1_begin cy aD aH qD qH z_vD z_vD_now vH vH_firstCells)) ([.ref aD, .ref aH] : List Value).toArray s 0 0 A = Q
  have L10 : ∀ (fuel : Nat) (y2_10 : Int32) (vD_now_10 : Nat → Int32), ∀ (H : Heap) (locs : List Loc) (ls : Array Slot), va_P D vwCl (wX1_begin cy aD aH qD qH vD vD_now_10 vH vH_firstCells) H → va_D A (wX1_begin cy aD aH qD qH vD vD_now_10 vH vH_firstCells) → va_S A s.heap H locs → lv_has ls 3 [(0, .ref aD), (1, .ref aH), (2, .int y2_10)] → lp (fX1_begin_B10 vD vH vH_firstCells) fuel (y2_10, vD_now_10) = some (z_vD, z_vD_now) → W p l e ({ frames := 1, cells := 0, slots := 0, locals := 23 } : Room) s m ([.ref aD, .ref aH] : List Value).toArray below meth c H locs 0 0 Q (F0 m 10 ls []) := by
    intro fuel
    induction fuel with
    | zero => intro y2_10 vD_now_10 H locs ls hP hD hS hl hok; exact (lp_0 hok).elim
    | succ fuel ih10 =>
      intro y2_10 vD_now_10 H locs ls hP hD hS hl hok
      obtain ⟨y10, hok, hL10, hR10⟩ := lp_step hok
      unfold fX1_begin_B10 at hok
      try dsimp only at hok
      refine lv_iload_n hx hb dX1_begin_10 rfl (lv_at hl 2 rfl) ?_
      refine lv_bipush (v := 7) hx hb dX1_begin_11 (by decide) ?_
      refine lv_icmp_ge (tgt := 33) hx hb dX1_begin_13 (by decide) (fun c13 => ?_) (fun c13 => ?_)
      · have hok := k_pos c13 hok
        obtain ⟨e10, hok, he10⟩ := ex_some hok
        have hok := hok.trans (congrArg some (hL10 _ he10))
        refine lv_aload_n hx hb dX1_begin_33 rfl (lv_at hl 0 rfl) ?_
        refine lv_iconst (v := 0) hx hb dX1_begin_34 (by decide) ?_
        refine va_put (D := D) (ci := 1) (v := .int 0) (ty := .int) (C := RX1) (T := TX1) (N := 6) hx hb ht0 niX1 tyX1 tyX1_ok nmX1 hown hK hP hD hS 0 rfl rfl 3 (by decide) (ht0 _ wd48) (fun _ h9 => h9) rfl (by decide +kernel) rfl rfl (Nat.le_of_ble_eq_true rfl) dX1_begin_35 (fun H locs hP hD hS => ?_)
        have hP : va_P D vwCl (wX1_begin cy aD aH qD qH (upd vD 3 (0 : Int32)) vD_now_10 vH vH_firstCells) H := hP
        have hD : va_D A (wX1_begin cy aD aH qD qH (upd vD 3 (0 : Int32)) vD_now_10 vH vH_firstCells) := hD
        refine lv_aload_n hx hb dX1_begin_38 rfl (lv_at hl 0 rfl) ?_
        refine lv_iconst (v := 0) hx hb dX1_begin_39 (by decide) ?_
        refine va_put (D := D) (ci := 1) (v := .int 0) (ty := .int) (C := RX1) (T := TX1) (N := 6) hx hb ht0 niX1 tyX1 tyX1_ok nmX1 hown hK hP hD hS 0 rfl rfl 5 (by decide) (ht0 _ wd49) (fun _ h9 => h9) rfl (by decide +kernel) rfl rfl (Nat.le_of_ble_eq_true rfl) dX1_begin_40 (fun H locs hP hD hS => ?_)
        have hP : va_P D vwCl (wX1_begin cy aD aH qD qH (upd (upd vD 3 (0 : Int32)) 5 (0 : Int32)) vD_now_10 vH vH_firstCells) H := hP
        have hD : va_D A (wX1_begin cy aD aH qD qH (upd (upd vD 3 (0 : Int32)) 5 (0 : Int32)) vD_now_10 vH vH_firstCells) := hD
        cases hok
        subst hQe; exact W.vret hx hb hr (fun t ht hW => ⟨⟨(), rfl, trivial, by rw [ht]; exact hP, va_K.moved hW.alike hK, hD⟩, hS.F ht⟩) hS.2.2 dX1_begin_43
      · have hok := k_neg c13 hok
        refine lv_aload_n hx hb dX1_begin_16 rfl (lv_at hl 0 rfl) ?_
        refine va_get (D := D) (ci := 1) (v := .ref (qD 0)) (C := RX1) (T := TX1) (N := 6) hx hb ht0 niX1 hown hK hP 0 rfl rfl 0 (by decide) (ht0 _ wd50) (fun _ h9 => h9) rfl dX1_begin_17 ?_
        refine lv_iload_n hx hb dX1_begin_20 rfl (lv_at hl 2 rfl) ?_
        refine lv_aload_n hx hb dX1_begin_21 rfl (lv_at hl 1 rfl) ?_
        refine lv_iload_n hx hb dX1_begin_22 rfl (lv_at hl 2 rfl) ?_
        obtain ⟨r23, hc23, hok⟩ := k_bind hok
        refine kCi (wc := (wX4_firstCellOf cy aH qH vH vH_firstCells)) (wc2 := (wX4_firstCellOf cy aH qH vH vH_firstCells)) (wr := [(aD, oX1 vD qD), (qD 0, rI cy 9 vD_now_10)]) (ws2 := (wX1_begin cy aD aH qD qH vD vD_now_10 vH vH_firstCells)) (kRunV (As := [.int y2_10]) (rest := [.int y2_10, .ref (qD 0)]) ⟨hx, hb, hml, hown, ht0⟩ (kX4_firstCellOf l D cy _ aH qH vH vH_firstCells y2_10 r23 hc23 _ rfl) (cwV 1 ht0 (gV wd51 wd52 wd53 wd9 wd54) rfl rfl rfl (by decide +kernel) ⟨Nat.le_of_ble_eq_true rfl, Nat.le_of_ble_eq_true rfl⟩) hK hN hP hD [2, 3] rfl (by decide) 2 3 rfl rfl rfl hl.1 rfl (Nat.le_of_ble_eq_true rfl) dX1_begin_23 ⟨Nat.zero_le _, Nat.zero_le _⟩) hP hD hS hA [2, 3] [0, 1] rfl rfl (by decide) (by decide) [0, 1, 2, 3] (by decide) rfl rfl (fun H locs hP hD hS => ?_)
        obtain ⟨g26, hok⟩ := gd_some hok
        refine va_iast hx hb hK hP hD hS 1 0 rfl rfl (okI_in g26) dX1_begin_26 (fun H locs hP hD hS => ?_)
        have hP : va_P D vwCl (wX1_begin cy aD aH qD qH vD (upd vD_now_10 y2_10.toNatClampNeg r23) vH vH_firstCells) H := hP
        have hD : va_D A (wX1_begin cy aD aH qD qH vD (upd vD_now_10 y2_10.toNatClampNeg r23) vH vH_firstCells) := hD
        refine lv_iinc (v := (y2_10 + 1)) (lv' := [(2, .int (y2_10 + 1)), (0, .ref aD), (1, .ref aH)]) hx hb dX1_begin_27 hl (k := 2) rfl (by first | rfl | decide) (by decide) rfl (fun ls hl => ?_)
        refine lv_goto (tgt := 10) hx hb dX1_begin_30 (by decide) ?_
        exact ih10 (y2_10 + 1) (upd vD_now_10 y2_10.toNatClampNeg r23) H locs ls hP hD hS (lv_sub hl [1, 2, 0] rfl) (hR10 _ (Option.some.inj hok).symm)
  unfold fX1_begin at hok
  obtain ⟨H, hH⟩ : ∃ H, H = s.heap := ⟨_, rfl⟩
  obtain ⟨locs, hlc⟩ : ∃ x : List Loc, x = [] := ⟨_, rfl⟩
  have hP : va_P D vwCl (wX1_begin cy aD aH qD qH vD vD_now vH vH_firstCells) H := by rw [hH]; exact hP
  have hS : va_S A s.heap H locs := by rw [hH, hlc]; exact hS
  rw [show W p l e _ s m _ below meth c s.heap [] = W p l e _ s m _ below meth c H locs from by rw [hH, hlc]]
  refine lv_aload_n hx hb dX1_begin_0 rfl (lv_at hl 0 rfl) ?_
  refine va_get (D := D) (ci := 1) (v := .ref (qD 0)) (C := RX1) (T := TX1) (N := 6) hx hb ht0 niX1 hown hK hP 0 rfl rfl 0 (by decide) (ht0 _ wd50) (fun _ h9 => h9) rfl dX1_begin_1 ?_
  refine lv_iconst (v := 0) hx hb dX1_begin_4 (by decide) ?_
  obtain ⟨p0_5, hc5, hok⟩ := k_bind hok
  refine kCv (wc := (wJ7_fill_53178 cy (qD 0) 9 vD_now)) (wc2 := (wJ7_fill_53178 cy (qD 0) 9 p0_5)) (wr := [(aD, oX1 vD qD), (aH, oX4 vH qH), (qH 16, rI cy 7 vH_firstCells)]) (ws2 := (wX1_begin cy aD aH qD qH vD p0_5 vH vH_firstCells)) (kRunS (As := [.ref (qD 0), .int 0]) (rest := []) ⟨hx, hb, hml, hown, ht0⟩ (kJ7_fill_53178 l D cy _ (qD 0) 9 vD_now (0 : Int32) p0_5 hc5 _ rfl) (va_cwS 2 ht0 (gS wd55 wd30 wd31 wd32) rfl rfl rfl (by decide +kernel) ⟨Nat.le_of_ble_eq_true rfl, Nat.le_of_ble_eq_true rfl⟩) hK hN hP hD [1] rfl (by decide) rfl hl.1 rfl (Nat.le_of_ble_eq_true rfl) dX1_begin_5 ⟨Nat.zero_le _, Nat.zero_le _⟩) hP hD hS hA [1] [0, 2, 3] rfl rfl (by decide) (by decide) [0, 3, 1, 2] (by decide) rfl rfl (fun H locs hP hD hS => ?_)
  refine lv_iconst (v := 0) hx hb dX1_begin_8 (by decide) ?_
  refine lv_istore_n (lv' := [(2, .int 0), (0, .ref aD), (1, .ref aH)]) hx hb dX1_begin_9 rfl hl (by decide) rfl (fun ls hl => ?_)
  exact L10 5000 (0 : Int32) p0_5 H locs ls hP hD hS (lv_sub hl [1, 2, 0] rfl) hok
def wsX1_cellOf : List Cond := .code yX1_cellOf cX1_cellOf 2 (some .int) :: W0
abbrev wX1_cellOf (cy : Nat → ClassId) (aD : Nat) (qD : Nat → Nat) (vD : Nat → Int32) (vD_now : Nat → Int32) : va_W := [(aD, oX1 vD qD), (qD 0, rI cy 9 vD_now)]
set_option maxHeartbeats 4000000 in
set_option maxRecDepth 100000 in
theorem kX1_cellOf (l : Launch) (D : va_G) (cy : Nat → ClassId) (sz : Nat) (aD : Nat) (qD : Nat → Nat) (vD : Nat → Int32) (vD_now : Nat → Int32) (x1 : Int32) (zr : Int32) (hok : fX1_cellOf vD vD_now x1 = some zr) (A : Nat → Prop) (hAe : va_A (wX1_cellOf cy aD qD vD vD_now) sz = A) : Met l yX1_cellOf wsX1_cellOf ({ frames := 0, cells := 0, slots := 0, locals := 0 } : Room) (kPre D cy [.ref aD, .int x1] (wX1_cellOf cy aD qD vD vD_now) sz) (kQi D cy zr A (wX1_cellOf cy aD qD vD vD_now)) 0 0 A := by
  refine Met.ofW (cc := cX1_cellOf) (maxL := 2) (ret := (some .int)) (by decide) rfl ?_
  intro p e s m args below meth c s₁ B hml hv
  obtain ⟨rfl, hsz, hP, hK, hD0, hN⟩ := hv
  have hx := B.exec
  have hb := B.bytes
  have hr := B.returns
  have ht0 : ∀ w ∈ W0, w.before _ s = true := fun w h => atoms_spec (ws := wsX1_cellOf) B.pre w (List.mem_cons_of_mem _ h)
  have hown : s.vm.findClass RX1 = some m.cls := findClass_of_methodNamed B.named
  have hlocks := B.notSynchronized
  subst hsz
  have hD : va_D A (wX1_cellOf cy aD qD vD vD_now) := by rw [← hAe]; exact hD0.self
  have hA : ∀ q : Nat, s.heap.size ≤ q → A q := fun q h => by rw [← hAe]; exact Or.inr h
  have hS : va_S A s.heap s.heap [] := va_S.rf
  have hl := lv_entry ([.ref aD, .int x1]) (n := 2) (Nat.le_of_ble_eq_true rfl)
  rw [lg_entry_eq]
  generalize (lg_sl ([.ref aD, .int x1]) ++ List.replicate (2 - (lg_sl ([.ref aD, .int x1])).length) Slot.unset).toArray = ls at hl ⊢
  have hl : lv_has ls 2 [(0, .ref aD), (1, .int x1)] := hl
  generalize hQe : MQ below (kQi D cy zr A (wX1_cellOf cy aD qD vD vD_now)) ([.ref aD, .int x1] : List Value).toArray s 0 0 A = Q
  have J20 : ∀ (t0_20 : Int32), ∀ (H : Heap) (locs : List Loc) (ls : Array Slot), va_P D vwCl (wX1_cellOf cy aD qD vD vD_now) H → va_D A (wX1_cellOf cy aD qD vD vD_now) → va_S A s.heap H locs → lv_has ls 2 [] → fX1_cellOf_J20 t0_20 = some zr → W p l e ({ frames := 0, cells := 0, slots := 0, locals := 0 } : Room) s m ([.ref aD, .int x1] : List Value).toArray below meth c H locs 0 0 Q (F0 m 20 ls [.int t0_20]) := by
    intro t0_20 H locs ls hP hD hS hl hok
    unfold fX1_cellOf_J20 at hok
    cases hok
    subst hQe; exact W.iret hx hb hr (fun t ht hW => ⟨⟨_, (), rfl, rfl, by rw [ht]; exact hP, va_K.moved hW.alike hK, hD⟩, hS.F ht⟩) hS.2.2 dX1_cellOf_20
  have J19 : ∀ (H : Heap) (locs : List Loc) (ls : Array Slot), va_P D vwCl (wX1_cellOf cy aD qD vD vD_now) H → va_D A (wX1_cellOf cy aD qD vD vD_now) → va_S A s.heap H locs → lv_has ls 2 [] → fX1_cellOf_J19 = some zr → W p l e ({ frames := 0, cells := 0, slots := 0, locals := 0 } : Room) s m ([.ref aD, .int x1] : List Value).toArray below meth c H locs 0 0 Q (F0 m 19 ls []) := by
    intro  H locs ls hP hD hS hl hok
    unfold fX1_cellOf_J19 at hok
    refine lv_iconst (v := 0) hx hb dX1_cellOf_19 (by decide) ?_
    exact J20 (0 : Int32) H locs ls hP hD hS (lv_sub hl [] rfl) hok
  unfold fX1_cellOf at hok
  obtain ⟨H, hH⟩ : ∃ H, H = s.heap := ⟨_, rfl⟩
  obtain ⟨locs, hlc⟩ : ∃ x : List Loc, x = [] := ⟨_, rfl⟩
  have hP : va_P D vwCl (wX1_cellOf cy aD qD vD vD_now) H := by rw [hH]; exact hP
  have hS : va_S A s.heap H locs := by rw [hH, hlc]; exact hS
  rw [show W p l e _ s m _ below meth c s.heap [] = W p l e _ s m _ below meth c H locs from by rw [hH, hlc]]
  refine lv_iload_n hx hb dX1_cellOf_0 rfl (lv_at hl 1 rfl) ?_
  refine lv_if_lt (tgt := 19) hx hb dX1_cellOf_1 (by decide) (fun c1 => ?_) (fun c1 => ?_)
  · have hok := k_pos c1 hok
    exact J19  H locs ls hP hD hS (lv_sub hl [] rfl) hok
  · have hok := k_neg c1 hok
    refine lv_iload_n hx hb dX1_cellOf_4 rfl (lv_at hl 1 rfl) ?_
    refine lv_bipush (v := 7) hx hb dX1_cellOf_5 (by decide) ?_
    refine lv_icmp_ge (tgt := 19) hx hb dX1_cellOf_7 (by decide) (fun c7 => ?_) (fun c7 => ?_)
    · have hok := k_pos c7 hok
      exact J19  H locs ls hP hD hS (lv_sub hl [] rfl) hok
    · have hok := k_neg c7 hok
      refine lv_aload_n hx hb dX1_cellOf_10 rfl (lv_at hl 0 rfl) ?_
      refine va_get (D := D) (ci := 1) (v := .ref (qD 0)) (C := RX1) (T := TX1) (N := 6) hx hb ht0 niX1 hown hK hP 0 rfl rfl 0 (by decide) (ht0 _ wd50) (fun _ h9 => h9) rfl dX1_cellOf_11 ?_
      refine lv_iload_n hx hb dX1_cellOf_14 rfl (lv_at hl 1 rfl) ?_
      obtain ⟨g15, hok⟩ := gd_some hok
      refine va_iald hx hb hK hP 1 0 rfl rfl (okI_in g15) dX1_cellOf_15 ?_
      refine lv_goto (tgt := 20) hx hb dX1_cellOf_16 (by decide) ?_
      exact J20 (vD_now x1.toNatClampNeg) H locs ls hP hD hS (lv_sub hl [] rfl) hok
def wsX1_heldBits : List Cond := .code yX1_heldBits cX1_heldBits 1 (some .int) :: W0
abbrev wX1_heldBits (cy : Nat → ClassId) (aD : Nat) (qD : Nat → Nat) (vD : Nat → Int32) (vD_now : Nat → Int32) : va_W := [(aD, oX1 vD qD), (qD 0, rI cy 9 vD_now)]
set_option maxHeartbeats 4000000 in
set_option maxRecDepth 100000 in
theorem kX1_heldBits (l : Launch) (D : va_G) (cy : Nat → ClassId) (sz : Nat) (aD : Nat) (qD : Nat → Nat) (vD : Nat → Int32) (vD_now : Nat → Int32) (zr : Int32) (hok : fX1_heldBits vD vD_now = some zr) (A : Nat → Prop) (hAe : va_A (wX1_heldBits cy aD qD vD vD_now) sz = A) : Met l yX1_heldBits wsX1_heldBits ({ frames := 0, cells := 0, slots := 0, locals := 0 } : Room) (kPre D cy [.ref aD] (wX1_heldBits cy aD qD vD vD_now) sz) (kQi D cy zr A (wX1_heldBits cy aD qD vD vD_now)) 0 0 A := by
  refine Met.ofW (cc := cX1_heldBits) (maxL := 1) (ret := (some .int)) (by decide) rfl ?_
  intro p e s m args below meth c s₁ B hml hv
  obtain ⟨rfl, hsz, hP, hK, hD0, hN⟩ := hv
  have hx := B.exec
  have hb := B.bytes
  have hr := B.returns
  have ht0 : ∀ w ∈ W0, w.before _ s = true := fun w h => atoms_spec (ws := wsX1_heldBits) B.pre w (List.mem_cons_of_mem _ h)
  have hown : s.vm.findClass RX1 = some m.cls := findClass_of_methodNamed B.named
  have hlocks := B.notSynchronized
  subst hsz
  have hD : va_D A (wX1_heldBits cy aD qD vD vD_now) := by rw [← hAe]; exact hD0.self
  have hA : ∀ q : Nat, s.heap.size ≤ q → A q := fun q h => by rw [← hAe]; exact Or.inr h
  have hS : va_S A s.heap s.heap [] := va_S.rf
  have hl := lv_entry ([.ref aD]) (n := 1) (Nat.le_of_ble_eq_true rfl)
  rw [lg_entry_eq]
  generalize (lg_sl ([.ref aD]) ++ List.replicate (1 - (lg_sl ([.ref aD])).length) Slot.unset).toArray = ls at hl ⊢
  have hl : lv_has ls 1 [(0, .ref aD)] := hl
  unfold fX1_heldBits at hok
  obtain ⟨H, hH⟩ : ∃ H, H = s.heap := ⟨_, rfl⟩
  obtain ⟨locs, hlc⟩ : ∃ x : List Loc, x = [] := ⟨_, rfl⟩
  have hP : va_P D vwCl (wX1_heldBits cy aD qD vD vD_now) H := by rw [hH]; exact hP
  have hS : va_S A s.heap H locs := by rw [hH, hlc]; exact hS
  rw [show W p l e _ s m _ below meth c s.heap [] = W p l e _ s m _ below meth c H locs from by rw [hH, hlc]]
  refine lv_aload_n hx hb dX1_heldBits_0 rfl (lv_at hl 0 rfl) ?_
  refine va_get (D := D) (ci := 1) (v := .ref (qD 0)) (C := RX1) (T := TX1) (N := 6) hx hb ht0 niX1 hown hK hP 0 rfl rfl 0 (by decide) (ht0 _ wd50) (fun _ h9 => h9) rfl dX1_heldBits_1 ?_
  refine lv_bipush (v := 7) hx hb dX1_heldBits_4 (by decide) ?_
  obtain ⟨g6, hok⟩ := gd_some hok
  refine va_iald hx hb hK hP 1 0 rfl rfl (okI_in g6) dX1_heldBits_6 ?_
  cases hok
  exact W.iret hx hb hr (fun t ht hW => ⟨⟨_, (), rfl, rfl, by rw [ht]; exact hP, va_K.moved hW.alike hK, hD⟩, hS.F ht⟩) hS.2.2 dX1_heldBits_7
def wsX1_isHeld : List Cond := .code yX1_isHeld cX1_isHeld 2 (some .boolean) :: W0
abbrev wX1_isHeld (cy : Nat → ClassId) (aD : Nat) (qD : Nat → Nat) (vD : Nat → Int32) (vD_now : Nat → Int32) : va_W := [(aD, oX1 vD qD), (qD 0, rI cy 9 vD_now)]
set_option maxHeartbeats 4000000 in
set_option maxRecDepth 100000 in
theorem kX1_isHeld (l : Launch) (D : va_G) (cy : Nat → ClassId) (sz : Nat) (aD : Nat) (qD : Nat → Nat) (vD : Nat → Int32) (vD_now : Nat → Int32) (x1 : Int32) (zr : Int32) (hok : fX1_isHeld vD vD_now x1 = some zr) (A : Nat → Prop) (hAe : va_A (wX1_isHeld cy aD qD vD vD_now) sz = A) : Met l yX1_isHeld wsX1_isHeld ({ frames := 0, cells := 0, slots := 0, locals := 0 } : Room) (kPre D cy [.ref aD, .int x1] (wX1_isHeld cy aD qD vD vD_now) sz) (kQi D cy zr A (wX1_isHeld cy aD qD vD vD_now)) 0 0 A := by
  refine Met.ofW (cc := cX1_isHeld) (maxL := 2) (ret := (some .boolean)) (by decide) rfl ?_
  intro p e s m args below meth c s₁ B hml hv
  obtain ⟨rfl, hsz, hP, hK, hD0, hN⟩ := hv
  have hx := B.exec
  have hb := B.bytes
  have hr := B.returns
  have ht0 : ∀ w ∈ W0, w.before _ s = true := fun w h => atoms_spec (ws := wsX1_isHeld) B.pre w (List.mem_cons_of_mem _ h)
  have hown : s.vm.findClass RX1 = some m.cls := findClass_of_methodNamed B.named
  have hlocks := B.notSynchronized
  subst hsz
  have hD : va_D A (wX1_isHeld cy aD qD vD vD_now) := by rw [← hAe]; exact hD0.self
  have hA : ∀ q : Nat, s.heap.size ≤ q → A q := fun q h => by rw [← hAe]; exact Or.inr h
  have hS : va_S A s.heap s.heap [] := va_S.rf
  have hl := lv_entry ([.ref aD, .int x1]) (n := 2) (Nat.le_of_ble_eq_true rfl)
  rw [lg_entry_eq]
  generalize (lg_sl ([.ref aD, .int x1]) ++ List.replicate (2 - (lg_sl ([.ref aD, .int x1])).length) Slot.unset).toArray = ls at hl ⊢
  have hl : lv_has ls 2 [(0, .ref aD), (1, .int x1)] := hl
  generalize hQe : MQ below (kQi D cy zr A (wX1_isHeld cy aD qD vD vD_now)) ([.ref aD, .int x1] : List Value).toArray s 0 0 A = Q
  have J19 : ∀ (t0_19 : Int32), ∀ (H : Heap) (locs : List Loc) (ls : Array Slot), va_P D vwCl (wX1_isHeld cy aD qD vD vD_now) H → va_D A (wX1_isHeld cy aD qD vD vD_now) → va_S A s.heap H locs → lv_has ls 2 [] → fX1_isHeld_J19 t0_19 = some zr → W p l e ({ frames := 0, cells := 0, slots := 0, locals := 0 } : Room) s m ([.ref aD, .int x1] : List Value).toArray below meth c H locs 0 0 Q (F0 m 19 ls [.int t0_19]) := by
    intro t0_19 H locs ls hP hD hS hl hok
    unfold fX1_isHeld_J19 at hok
    obtain ⟨g19, hok⟩ := gd_some hok
    cases hok
    subst hQe; exact W.zret hx hb hr (isB_nar g19) (fun t ht hW => ⟨⟨_, (), rfl, rfl, by rw [ht]; exact hP, va_K.moved hW.alike hK, hD⟩, hS.F ht⟩) hS.2.2 dX1_isHeld_19
  unfold fX1_isHeld at hok
  obtain ⟨H, hH⟩ : ∃ H, H = s.heap := ⟨_, rfl⟩
  obtain ⟨locs, hlc⟩ : ∃ x : List Loc, x = [] := ⟨_, rfl⟩
  have hP : va_P D vwCl (wX1_isHeld cy aD qD vD vD_now) H := by rw [hH]; exact hP
  have hS : va_S A s.heap H locs := by rw [hH, hlc]; exact hS
  rw [show W p l e _ s m _ below meth c s.heap [] = W p l e _ s m _ below meth c H locs from by rw [hH, hlc]]
  refine lv_aload_n hx hb dX1_isHeld_0 rfl (lv_at hl 0 rfl) ?_
  refine va_get (D := D) (ci := 1) (v := .ref (qD 0)) (C := RX1) (T := TX1) (N := 6) hx hb ht0 niX1 hown hK hP 0 rfl rfl 0 (by decide) (ht0 _ wd50) (fun _ h9 => h9) rfl dX1_isHeld_1 ?_
  refine lv_bipush (v := 7) hx hb dX1_isHeld_4 (by decide) ?_
  obtain ⟨g6, hok⟩ := gd_some hok
  refine va_iald hx hb hK hP 1 0 rfl rfl (okI_in g6) dX1_isHeld_6 ?_
  refine lv_iload_n hx hb dX1_isHeld_7 rfl (lv_at hl 1 rfl) ?_
  refine lv_ishr hx hb dX1_isHeld_8 ?_
  refine lv_iconst (v := 1) hx hb dX1_isHeld_9 (by decide) ?_
  refine lv_iand hx hb dX1_isHeld_10 ?_
  refine lv_if_eq (tgt := 18) hx hb dX1_isHeld_11 (by decide) (fun c11 => ?_) (fun c11 => ?_)
  · have hok := k_pos c11 hok
    refine lv_iconst (v := 0) hx hb dX1_isHeld_18 (by decide) ?_
    exact J19 (0 : Int32) H locs ls hP hD hS (lv_sub hl [] rfl) hok
  · have hok := k_neg c11 hok
    refine lv_iconst (v := 1) hx hb dX1_isHeld_14 (by decide) ?_
    refine lv_goto (tgt := 19) hx hb dX1_isHeld_15 (by decide) ?_
    exact J19 (1 : Int32) H locs ls hP hD hS (lv_sub hl [] rfl) hok
def wsX1_nightNow : List Cond := .code yX1_nightNow cX1_nightNow 1 (some .int) :: W0
abbrev wX1_nightNow (cy : Nat → ClassId) (aD : Nat) (qD : Nat → Nat) (vD : Nat → Int32) (vD_now : Nat → Int32) : va_W := [(aD, oX1 vD qD), (qD 0, rI cy 9 vD_now)]
set_option maxHeartbeats 4000000 in
set_option maxRecDepth 100000 in
theorem kX1_nightNow (l : Launch) (D : va_G) (cy : Nat → ClassId) (sz : Nat) (aD : Nat) (qD : Nat → Nat) (vD : Nat → Int32) (vD_now : Nat → Int32) (zr : Int32) (hok : fX1_nightNow vD vD_now = some zr) (A : Nat → Prop) (hAe : va_A (wX1_nightNow cy aD qD vD vD_now) sz = A) : Met l yX1_nightNow wsX1_nightNow ({ frames := 0, cells := 0, slots := 0, locals := 0 } : Room) (kPre D cy [.ref aD] (wX1_nightNow cy aD qD vD vD_now) sz) (kQi D cy zr A (wX1_nightNow cy aD qD vD vD_now)) 0 0 A := by
  refine Met.ofW (cc := cX1_nightNow) (maxL := 1) (ret := (some .int)) (by decide) rfl ?_
  intro p e s m args below meth c s₁ B hml hv
  obtain ⟨rfl, hsz, hP, hK, hD0, hN⟩ := hv
  have hx := B.exec
  have hb := B.bytes
  have hr := B.returns
  have ht0 : ∀ w ∈ W0, w.before _ s = true := fun w h => atoms_spec (ws := wsX1_nightNow) B.pre w (List.mem_cons_of_mem _ h)
  have hown : s.vm.findClass RX1 = some m.cls := findClass_of_methodNamed B.named
  have hlocks := B.notSynchronized
  subst hsz
  have hD : va_D A (wX1_nightNow cy aD qD vD vD_now) := by rw [← hAe]; exact hD0.self
  have hA : ∀ q : Nat, s.heap.size ≤ q → A q := fun q h => by rw [← hAe]; exact Or.inr h
  have hS : va_S A s.heap s.heap [] := va_S.rf
  have hl := lv_entry ([.ref aD]) (n := 1) (Nat.le_of_ble_eq_true rfl)
  rw [lg_entry_eq]
  generalize (lg_sl ([.ref aD]) ++ List.replicate (1 - (lg_sl ([.ref aD])).length) Slot.unset).toArray = ls at hl ⊢
  have hl : lv_has ls 1 [(0, .ref aD)] := hl
  unfold fX1_nightNow at hok
  obtain ⟨H, hH⟩ : ∃ H, H = s.heap := ⟨_, rfl⟩
  obtain ⟨locs, hlc⟩ : ∃ x : List Loc, x = [] := ⟨_, rfl⟩
  have hP : va_P D vwCl (wX1_nightNow cy aD qD vD vD_now) H := by rw [hH]; exact hP
  have hS : va_S A s.heap H locs := by rw [hH, hlc]; exact hS
  rw [show W p l e _ s m _ below meth c s.heap [] = W p l e _ s m _ below meth c H locs from by rw [hH, hlc]]
  refine lv_aload_n hx hb dX1_nightNow_0 rfl (lv_at hl 0 rfl) ?_
  refine va_get (D := D) (ci := 1) (v := .ref (qD 0)) (C := RX1) (T := TX1) (N := 6) hx hb ht0 niX1 hown hK hP 0 rfl rfl 0 (by decide) (ht0 _ wd50) (fun _ h9 => h9) rfl dX1_nightNow_1 ?_
  refine lv_bipush (v := 8) hx hb dX1_nightNow_4 (by decide) ?_
  obtain ⟨g6, hok⟩ := gd_some hok
  refine va_iald hx hb hK hP 1 0 rfl rfl (okI_in g6) dX1_nightNow_6 ?_
  cases hok
  exact W.iret hx hb hr (fun t ht hW => ⟨⟨_, (), rfl, rfl, by rw [ht]; exact hP, va_K.moved hW.alike hK, hD⟩, hS.F ht⟩) hS.2.2 dX1_nightNow_7
def wsX1_countKept : List Cond := .code yX1_countKept cX1_countKept 1 (some .int) :: W0
abbrev wX1_countKept (cy : Nat → ClassId) (aD : Nat) (qD : Nat → Nat) (vD : Nat → Int32) : va_W := [(aD, oX1 vD qD)]
set_option maxHeartbeats 4000000 in
set_option maxRecDepth 100000 in
theorem kX1_countKept (l : Launch) (D : va_G) (cy : Nat → ClassId) (sz : Nat) (aD : Nat) (qD : Nat → Nat) (vD : Nat → Int32) (zr : Int32) (hok : fX1_countKept vD = some zr) (A : Nat → Prop) (hAe : va_A (wX1_countKept cy aD qD vD) sz = A) : Met l yX1_countKept wsX1_countKept ({ frames := 0, cells := 0, slots := 0, locals := 0 } : Room) (kPre D cy [.ref aD] (wX1_countKept cy aD qD vD) sz) (kQi D cy zr A (wX1_countKept cy aD qD vD)) 0 0 A := by
  refine Met.ofW (cc := cX1_countKept) (maxL := 1) (ret := (some .int)) (by decide) rfl ?_
  intro p e s m args below meth c s₁ B hml hv
  obtain ⟨rfl, hsz, hP, hK, hD0, hN⟩ := hv
  have hx := B.exec
  have hb := B.bytes
  have hr := B.returns
  have ht0 : ∀ w ∈ W0, w.before _ s = true := fun w h => atoms_spec (ws := wsX1_countKept) B.pre w (List.mem_cons_of_mem _ h)
  have hown : s.vm.findClass RX1 = some m.cls := findClass_of_methodNamed B.named
  have hlocks := B.notSynchronized
  subst hsz
  have hD : va_D A (wX1_countKept cy aD qD vD) := by rw [← hAe]; exact hD0.self
  have hA : ∀ q : Nat, s.heap.size ≤ q → A q := fun q h => by rw [← hAe]; exact Or.inr h
  have hS : va_S A s.heap s.heap [] := va_S.rf
  have hl := lv_entry ([.ref aD]) (n := 1) (Nat.le_of_ble_eq_true rfl)
  rw [lg_entry_eq]
  generalize (lg_sl ([.ref aD]) ++ List.replicate (1 - (lg_sl ([.ref aD])).length) Slot.unset).toArray = ls at hl ⊢
  have hl : lv_has ls 1 [(0, .ref aD)] := hl
  unfold fX1_countKept at hok
  obtain ⟨H, hH⟩ : ∃ H, H = s.heap := ⟨_, rfl⟩
  obtain ⟨locs, hlc⟩ : ∃ x : List Loc, x = [] := ⟨_, rfl⟩
  have hP : va_P D vwCl (wX1_countKept cy aD qD vD) H := by rw [hH]; exact hP
  have hS : va_S A s.heap H locs := by rw [hH, hlc]; exact hS
  rw [show W p l e _ s m _ below meth c s.heap [] = W p l e _ s m _ below meth c H locs from by rw [hH, hlc]]
  refine lv_aload_n hx hb dX1_countKept_0 rfl (lv_at hl 0 rfl) ?_
  refine va_get (D := D) (ci := 1) (v := .int (vD 3)) (C := RX1) (T := TX1) (N := 6) hx hb ht0 niX1 hown hK hP 0 rfl rfl 3 (by decide) (ht0 _ wd48) (fun _ h9 => h9) rfl dX1_countKept_1 ?_
  cases hok
  exact W.iret hx hb hr (fun t ht hW => ⟨⟨_, (), rfl, rfl, by rw [ht]; exact hP, va_K.moved hW.alike hK, hD⟩, hS.F ht⟩) hS.2.2 dX1_countKept_4
def wsX1_countImages : List Cond := .code yX1_countImages cX1_countImages 1 (some .int) :: W0
abbrev wX1_countImages (cy : Nat → ClassId) (aD : Nat) (qD : Nat → Nat) (vD : Nat → Int32) : va_W := [(aD, oX1 vD qD)]
set_option maxHeartbeats 4000000 in
set_option maxRecDepth 100000 in
theorem kX1_countImages (l : Launch) (D : va_G) (cy : Nat → ClassId) (sz : Nat) (aD : Nat) (qD : Nat → Nat) (vD : Nat → Int32) (zr : Int32) (hok : fX1_countImages vD = some zr) (A : Nat → Prop) (hAe : va_A (wX1_countImages cy aD qD vD) sz = A) : Met l yX1_countImages wsX1_countImages ({ frames := 0, cells := 0, slots := 0, locals := 0 } : Room) (kPre D cy [.ref aD] (wX1_countImages cy aD qD vD) sz) (kQi D cy zr A (wX1_countImages cy aD qD vD)) 0 0 A := by
  refine Met.ofW (cc := cX1_countImages) (maxL := 1) (ret := (some .int)) (by decide) rfl ?_
  intro p e s m args below meth c s₁ B hml hv
  obtain ⟨rfl, hsz, hP, hK, hD0, hN⟩ := hv
  have hx := B.exec
  have hb := B.bytes
  have hr := B.returns
  have ht0 : ∀ w ∈ W0, w.before _ s = true := fun w h => atoms_spec (ws := wsX1_countImages) B.pre w (List.mem_cons_of_mem _ h)
  have hown : s.vm.findClass RX1 = some m.cls := findClass_of_methodNamed B.named
  have hlocks := B.notSynchronized
  subst hsz
  have hD : va_D A (wX1_countImages cy aD qD vD) := by rw [← hAe]; exact hD0.self
  have hA : ∀ q : Nat, s.heap.size ≤ q → A q := fun q h => by rw [← hAe]; exact Or.inr h
  have hS : va_S A s.heap s.heap [] := va_S.rf
  have hl := lv_entry ([.ref aD]) (n := 1) (Nat.le_of_ble_eq_true rfl)
  rw [lg_entry_eq]
  generalize (lg_sl ([.ref aD]) ++ List.replicate (1 - (lg_sl ([.ref aD])).length) Slot.unset).toArray = ls at hl ⊢
  have hl : lv_has ls 1 [(0, .ref aD)] := hl
  unfold fX1_countImages at hok
  obtain ⟨H, hH⟩ : ∃ H, H = s.heap := ⟨_, rfl⟩
  obtain ⟨locs, hlc⟩ : ∃ x : List Loc, x = [] := ⟨_, rfl⟩
  have hP : va_P D vwCl (wX1_countImages cy aD qD vD) H := by rw [hH]; exact hP
  have hS : va_S A s.heap H locs := by rw [hH, hlc]; exact hS
  rw [show W p l e _ s m _ below meth c s.heap [] = W p l e _ s m _ below meth c H locs from by rw [hH, hlc]]
  refine lv_aload_n hx hb dX1_countImages_0 rfl (lv_at hl 0 rfl) ?_
  refine va_get (D := D) (ci := 1) (v := .int (vD 5)) (C := RX1) (T := TX1) (N := 6) hx hb ht0 niX1 hown hK hP 0 rfl rfl 5 (by decide) (ht0 _ wd49) (fun _ h9 => h9) rfl dX1_countImages_1 ?_
  cases hok
  exact W.iret hx hb hr (fun t ht hW => ⟨⟨_, (), rfl, rfl, by rw [ht]; exact hP, va_K.moved hW.alike hK, hD⟩, hS.F ht⟩) hS.2.2 dX1_countImages_4
def wsX1_thingAt : List Cond := .code yX1_thingAt cX1_thingAt 4 (some .int) :: W0
abbrev wX1_thingAt (cy : Nat → ClassId) (aD : Nat) (qD : Nat → Nat) (vD : Nat → Int32) (vD_now : Nat → Int32) : va_W := [(aD, oX1 vD qD), (qD 0, rI cy 9 vD_now)]
set_option maxHeartbeats 4000000 in
set_option maxRecDepth 100000 in
theorem kX1_thingAt (l : Launch) (D : va_G) (cy : Nat → ClassId) (sz : Nat) (aD : Nat) (qD : Nat → Nat) (vD : Nat → Int32) (vD_now : Nat → Int32) (x1 : Int32) (x2 : Int32) (zr : Int32) (hok : fX1_thingAt vD vD_now x1 x2 = some zr) (A : Nat → Prop) (hAe : va_A (wX1_thingAt cy aD qD vD vD_now) sz = A) : Met l yX1_thingAt wsX1_thingAt ({ frames := 0, cells := 0, slots := 0, locals := 0 } : Room) (kPre D cy [.ref aD, .int x1, .int x2] (wX1_thingAt cy aD qD vD vD_now) sz) (kQi D cy zr A (wX1_thingAt cy aD qD vD vD_now)) 0 0 A := by
  refine Met.ofW (cc := cX1_thingAt) (maxL := 4) (ret := (some .int)) (by decide) rfl ?_
  intro p e s m args below meth c s₁ B hml hv
  obtain ⟨rfl, hsz, hP, hK, hD0, hN⟩ := hv
  have hx := B.exec
  have hb := B.bytes
  have hr := B.returns
  have ht0 : ∀ w ∈ W0, w.before _ s = true := fun w h => atoms_spec (ws := wsX1_thingAt) B.pre w (List.mem_cons_of_mem _ h)
  have hown : s.vm.findClass RX1 = some m.cls := findClass_of_methodNamed B.named
  have hlocks := B.notSynchronized
  subst hsz
  have hD : va_D A (wX1_thingAt cy aD qD vD vD_now) := by rw [← hAe]; exact hD0.self
  have hA : ∀ q : Nat, s.heap.size ≤ q → A q := fun q h => by rw [← hAe]; exact Or.inr h
  have hS : va_S A s.heap s.heap [] := va_S.rf
  have hl := lv_entry ([.ref aD, .int x1, .int x2]) (n := 4) (Nat.le_of_ble_eq_true rfl)
  rw [lg_entry_eq]
  generalize (lg_sl ([.ref aD, .int x1, .int x2]) ++ List.replicate (4 - (lg_sl ([.ref aD, .int x1, .int x2])).length) Slot.unset).toArray = ls at hl ⊢
  have hl : lv_has ls 4 [(0, .ref aD), (1, .int x1), (2, .int x2)] := hl
  generalize hQe : MQ below (kQi D cy zr A (wX1_thingAt cy aD qD vD vD_now)) ([.ref aD, .int x1, .int x2] : List Value).toArray s 0 0 A = Q
  have J31 : ∀ (H : Heap) (locs : List Loc) (ls : Array Slot), va_P D vwCl (wX1_thingAt cy aD qD vD vD_now) H → va_D A (wX1_thingAt cy aD qD vD vD_now) → va_S A s.heap H locs → lv_has ls 4 [] → fX1_thingAt_J31 = some zr → W p l e ({ frames := 0, cells := 0, slots := 0, locals := 0 } : Room) s m ([.ref aD, .int x1, .int x2] : List Value).toArray below meth c H locs 0 0 Q (F0 m 31 ls []) := by
    intro  H locs ls hP hD hS hl hok
    unfold fX1_thingAt_J31 at hok
    refine lv_iconst (v := -1) hx hb dX1_thingAt_31 (by decide) ?_
    cases hok
    subst hQe; exact W.iret hx hb hr (fun t ht hW => ⟨⟨_, (), rfl, rfl, by rw [ht]; exact hP, va_K.moved hW.alike hK, hD⟩, hS.F ht⟩) hS.2.2 dX1_thingAt_32
  have L2 : ∀ (fuel : Nat) (y3_2 : Int32), ∀ (H : Heap) (locs : List Loc) (ls : Array Slot), va_P D vwCl (wX1_thingAt cy aD qD vD vD_now) H → va_D A (wX1_thingAt cy aD qD vD vD_now) → va_S A s.heap H locs → lv_has ls 4 [(0, .ref aD), (1, .int x1), (2, .int x2), (3, .int y3_2)] → lp (fX1_thingAt_B2 vD_now x1 x2) fuel y3_2 = some zr → W p l e ({ frames := 0, cells := 0, slots := 0, locals := 0 } : Room) s m ([.ref aD, .int x1, .int x2] : List Value).toArray below meth c H locs 0 0 Q (F0 m 2 ls []) := by
    intro fuel
    induction fuel with
    | zero => intro y3_2 H locs ls hP hD hS hl hok; exact (lp_0 hok).elim
    | succ fuel ih2 =>
      intro y3_2 H locs ls hP hD hS hl hok
      obtain ⟨y2, hok, hL2, hR2⟩ := lp_step hok
      unfold fX1_thingAt_B2 at hok
      refine lv_iload_n hx hb dX1_thingAt_2 rfl (lv_at hl 3 rfl) ?_
      refine lv_iload_n hx hb dX1_thingAt_3 rfl (lv_at hl 2 rfl) ?_
      refine lv_icmp_ge (tgt := 31) hx hb dX1_thingAt_4 (by decide) (fun c4 => ?_) (fun c4 => ?_)
      · have hok := k_pos c4 hok
        obtain ⟨e2, hok, he2⟩ := ex_some hok
        have hok := hok.trans (congrArg some (hL2 _ he2))
        exact J31  H locs ls hP hD hS (lv_sub hl [] rfl) hok
      · have hok := k_neg c4 hok
        refine lv_iload_n hx hb dX1_thingAt_7 rfl (lv_at hl 3 rfl) ?_
        refine lv_bipush (v := 7) hx hb dX1_thingAt_8 (by decide) ?_
        refine lv_icmp_ge (tgt := 31) hx hb dX1_thingAt_10 (by decide) (fun c10 => ?_) (fun c10 => ?_)
        · have hok := k_pos c10 hok
          obtain ⟨e2, hok, he2⟩ := ex_some hok
          have hok := hok.trans (congrArg some (hL2 _ he2))
          exact J31  H locs ls hP hD hS (lv_sub hl [] rfl) hok
        · have hok := k_neg c10 hok
          refine lv_aload_n hx hb dX1_thingAt_13 rfl (lv_at hl 0 rfl) ?_
          refine va_get (D := D) (ci := 1) (v := .ref (qD 0)) (C := RX1) (T := TX1) (N := 6) hx hb ht0 niX1 hown hK hP 0 rfl rfl 0 (by decide) (ht0 _ wd50) (fun _ h9 => h9) rfl dX1_thingAt_14 ?_
          refine lv_iload_n hx hb dX1_thingAt_17 rfl (lv_at hl 3 rfl) ?_
          obtain ⟨g18, hok⟩ := gd_some hok
          refine va_iald hx hb hK hP 1 0 rfl rfl (okI_in g18) dX1_thingAt_18 ?_
          refine lv_iload_n hx hb dX1_thingAt_19 rfl (lv_at hl 1 rfl) ?_
          refine lv_icmp_ne (tgt := 25) hx hb dX1_thingAt_20 (by decide) (fun c20 => ?_) (fun c20 => ?_)
          · have hok := k_neg c20 hok
            refine lv_iinc (v := (y3_2 + 1)) (lv' := [(3, .int (y3_2 + 1)), (0, .ref aD), (1, .int x1), (2, .int x2)]) hx hb dX1_thingAt_25 hl (k := 3) rfl (by first | rfl | decide) (by decide) rfl (fun ls hl => ?_)
            refine lv_goto (tgt := 2) hx hb dX1_thingAt_28 (by decide) ?_
            exact ih2 (y3_2 + 1) H locs ls hP hD hS (lv_sub hl [1, 2, 3, 0] rfl) (hR2 _ (Option.some.inj hok).symm)
          · have hok := k_pos c20 hok
            obtain ⟨e2, hok, he2⟩ := ex_some hok
            have hok := hok.trans (congrArg some (hL2 _ he2))
            refine lv_iload_n hx hb dX1_thingAt_23 rfl (lv_at hl 3 rfl) ?_
            cases hok
            subst hQe; exact W.iret hx hb hr (fun t ht hW => ⟨⟨_, (), rfl, rfl, by rw [ht]; exact hP, va_K.moved hW.alike hK, hD⟩, hS.F ht⟩) hS.2.2 dX1_thingAt_24
  unfold fX1_thingAt at hok
  obtain ⟨H, hH⟩ : ∃ H, H = s.heap := ⟨_, rfl⟩
  obtain ⟨locs, hlc⟩ : ∃ x : List Loc, x = [] := ⟨_, rfl⟩
  have hP : va_P D vwCl (wX1_thingAt cy aD qD vD vD_now) H := by rw [hH]; exact hP
  have hS : va_S A s.heap H locs := by rw [hH, hlc]; exact hS
  rw [show W p l e _ s m _ below meth c s.heap [] = W p l e _ s m _ below meth c H locs from by rw [hH, hlc]]
  refine lv_iconst (v := 0) hx hb dX1_thingAt_0 (by decide) ?_
  refine lv_istore_n (lv' := [(3, .int 0), (0, .ref aD), (1, .int x1), (2, .int x2)]) hx hb dX1_thingAt_1 rfl hl (by decide) rfl (fun ls hl => ?_)
  exact L2 5000 (0 : Int32) H locs ls hP hD hS (lv_sub hl [1, 2, 3, 0] rfl) hok
def wsX8_ringOfCell : List Cond := .code yX8_ringOfCell cX8_ringOfCell 1 (some .int) :: W0
abbrev wX8_ringOfCell (cy : Nat → ClassId)  : va_W := []
set_option maxHeartbeats 4000000 in
set_option maxRecDepth 100000 in
theorem kX8_ringOfCell (l : Launch) (D : va_G) (cy : Nat → ClassId) (sz : Nat) (x0 : Int32) (zr : Int32) (hok : fX8_ringOfCell x0 = some zr) (A : Nat → Prop) (hAe : va_A (wX8_ringOfCell cy ) sz = A) : Met l yX8_ringOfCell wsX8_ringOfCell ({ frames := 0, cells := 0, slots := 0, locals := 0 } : Room) (kPre D cy [.int x0] (wX8_ringOfCell cy ) sz) (kQi D cy zr A (wX8_ringOfCell cy )) 0 0 A := by
  refine Met.ofW (cc := cX8_ringOfCell) (maxL := 1) (ret := (some .int)) (by decide) rfl ?_
  intro p e s m args below meth c s₁ B hml hv
  obtain ⟨rfl, hsz, hP, hK, hD0, hN⟩ := hv
  have hx := B.exec
  have hb := B.bytes
  have hr := B.returns
  have ht0 : ∀ w ∈ W0, w.before _ s = true := fun w h => atoms_spec (ws := wsX8_ringOfCell) B.pre w (List.mem_cons_of_mem _ h)
  have hown : s.vm.findClass RX8 = some m.cls := findClass_of_methodNamed B.named
  have hlocks := B.notSynchronized
  subst hsz
  have hD : va_D A (wX8_ringOfCell cy ) := by rw [← hAe]; exact hD0.self
  have hA : ∀ q : Nat, s.heap.size ≤ q → A q := fun q h => by rw [← hAe]; exact Or.inr h
  have hS : va_S A s.heap s.heap [] := va_S.rf
  have hl := lv_entry ([.int x0]) (n := 1) (Nat.le_of_ble_eq_true rfl)
  rw [lg_entry_eq]
  generalize (lg_sl ([.int x0]) ++ List.replicate (1 - (lg_sl ([.int x0])).length) Slot.unset).toArray = ls at hl ⊢
  have hl : lv_has ls 1 [(0, .int x0)] := hl
  unfold fX8_ringOfCell at hok
  obtain ⟨H, hH⟩ : ∃ H, H = s.heap := ⟨_, rfl⟩
  obtain ⟨locs, hlc⟩ : ∃ x : List Loc, x = [] := ⟨_, rfl⟩
  have hP : va_P D vwCl (wX8_ringOfCell cy ) H := by rw [hH]; exact hP
  have hS : va_S A s.heap H locs := by rw [hH, hlc]; exact hS
  rw [show W p l e _ s m _ below meth c s.heap [] = W p l e _ s m _ below meth c H locs from by rw [hH, hlc]]
  refine lv_iload_n hx hb dX8_ringOfCell_0 rfl (lv_at hl 0 rfl) ?_
  refine lv_bipush (v := 9) hx hb dX8_ringOfCell_1 (by decide) ?_
  refine lv_idiv hx hb dX8_ringOfCell_3 (by decide) ?_
  cases hok
  exact W.iret hx hb hr (fun t ht hW => ⟨⟨_, (), rfl, rfl, by rw [ht]; exact hP, va_K.moved hW.alike hK, hD⟩, hS.F ht⟩) hS.2.2 dX8_ringOfCell_4
