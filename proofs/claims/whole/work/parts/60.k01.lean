def wsX4_allowsRule : List Cond := .code yX4_allowsRule cX4_allowsRule 6 (some .boolean) :: W0
abbrev wX4_allowsRule (cy : Nat → ClassId) (aH : Nat) (qH : Nat → Nat) (vH : Nat → Int32) (vH_markNights : Nat → Int32) (vH_markPlaces : Nat → Int32) (vH_markFound : Nat → Int32) : va_W := [(aH, oX4 vH qH), (qH 17, rI cy 6 vH_markNights), (qH 18, rI cy 6 vH_markPlaces), (qH 19, rZ cy 6 vH_markFound)]
set_option maxHeartbeats 4000000 in
set_option maxRecDepth 100000 in
theorem kX4_allowsRule (l : Launch) (D : va_G) (cy : Nat → ClassId) (sz : Nat) (aH : Nat) (qH : Nat → Nat) (vH : Nat → Int32) (vH_markNights : Nat → Int32) (vH_markPlaces : Nat → Int32) (vH_markFound : Nat → Int32) (x1 : Int32) (x2 : Int32) (x3 : Int32) (zr : Int32) (hok : fX4_allowsRule vH vH_markNights vH_markPlaces vH_markFound x1 x2 x3 = some zr) (A : Nat → Prop) (hAe : va_A (wX4_allowsRule cy aH qH vH vH_markNights vH_markPlaces vH_markFound) sz = A) : Met l yX4_allowsRule wsX4_allowsRule ({ frames := 0, cells := 0, slots := 0, locals := 0 } : Room) (kPre D cy [.ref aH, .int x1, .int x2, .int x3] (wX4_allowsRule cy aH qH vH vH_markNights vH_markPlaces vH_markFound) sz) (kQi D cy zr A (wX4_allowsRule cy aH qH vH vH_markNights vH_markPlaces vH_markFound)) 0 0 A := by
  refine Met.ofW (cc := cX4_allowsRule) (maxL := 6) (ret := (some .boolean)) (by decide) rfl ?_
  intro p e s m args below meth c s₁ B hml hv
  obtain ⟨rfl, hsz, hP, hK, hD0, hN⟩ := hv
  have hx := B.exec
  have hb := B.bytes
  have hr := B.returns
  have ht0 : ∀ w ∈ W0, w.before _ s = true := fun w h => atoms_spec (ws := wsX4_allowsRule) B.pre w (List.mem_cons_of_mem _ h)
  have hown : s.vm.findClass RX4 = some m.cls := findClass_of_methodNamed B.named
  have hlocks := B.notSynchronized
  subst hsz
  have hD : va_D A (wX4_allowsRule cy aH qH vH vH_markNights vH_markPlaces vH_markFound) := by rw [← hAe]; exact hD0.self
  have hA : ∀ q : Nat, s.heap.size ≤ q → A q := fun q h => by rw [← hAe]; exact Or.inr h
  have hS : va_S A s.heap s.heap [] := va_S.rf
  have hl := lv_entry ([.ref aH, .int x1, .int x2, .int x3]) (n := 6) (Nat.le_of_ble_eq_true rfl)
  rw [lg_entry_eq]
  generalize (lg_sl ([.ref aH, .int x1, .int x2, .int x3]) ++ List.replicate (6 - (lg_sl ([.ref aH, .int x1, .int x2, .int x3])).length) Slot.unset).toArray = ls at hl ⊢
  have hl : lv_has ls 6 [(0, .ref aH), (1, .int x1), (2, .int x2), (3, .int x3)] := hl
  generalize hQe : MQ below (kQi D cy zr A (wX4_allowsRule cy aH qH vH vH_markNights vH_markPlaces vH_markFound)) ([.ref aH, .int x1, .int x2, .int x3] : List Value).toArray s 0 0 A = Q
  have J75 : ∀ (H : Heap) (locs : List Loc) (ls : Array Slot), va_P D vwCl (wX4_allowsRule cy aH qH vH vH_markNights vH_markPlaces vH_markFound) H → va_D A (wX4_allowsRule cy aH qH vH vH_markNights vH_markPlaces vH_markFound) → va_S A s.heap H locs → lv_has ls 6 [] → fX4_allowsRule_J75 = some zr → W p l e ({ frames := 0, cells := 0, slots := 0, locals := 0 } : Room) s m ([.ref aH, .int x1, .int x2, .int x3] : List Value).toArray below meth c H locs 0 0 Q (F0 m 75 ls []) := by
    intro  H locs ls hP hD hS hl hok
    unfold fX4_allowsRule_J75 at hok
    refine lv_iconst (v := 1) hx hb dX4_allowsRule_75 (by decide) ?_
    cases hok
    subst hQe; exact W.zret hx hb hr rfl (fun t ht hW => ⟨⟨_, (), rfl, rfl, by rw [ht]; exact hP, va_K.moved hW.alike hK, hD⟩, hS.F ht⟩) hS.2.2 dX4_allowsRule_76
  have L9 : ∀ (fuel : Nat) (y4_9 : Int32), ∀ (H : Heap) (locs : List Loc) (ls : Array Slot), va_P D vwCl (wX4_allowsRule cy aH qH vH vH_markNights vH_markPlaces vH_markFound) H → va_D A (wX4_allowsRule cy aH qH vH vH_markNights vH_markPlaces vH_markFound) → va_S A s.heap H locs → lv_has ls 6 [(0, .ref aH), (1, .int x1), (2, .int x2), (3, .int x3), (4, .int y4_9)] → lp (fX4_allowsRule_B9 vH vH_markNights vH_markPlaces vH_markFound x1 x2 x3) fuel y4_9 = some zr → W p l e ({ frames := 0, cells := 0, slots := 0, locals := 0 } : Room) s m ([.ref aH, .int x1, .int x2, .int x3] : List Value).toArray below meth c H locs 0 0 Q (F0 m 9 ls []) := by
    intro fuel
    induction fuel with
    | zero => intro y4_9 H locs ls hP hD hS hl hok; exact (lp_0 hok).elim
    | succ fuel ih9 =>
      intro y4_9 H locs ls hP hD hS hl hok
      obtain ⟨y9, hok, hL9, hR9⟩ := lp_step hok
      have J57 : ∀ (t0_57 : Int32), ∀ (H : Heap) (locs : List Loc) (ls : Array Slot), va_P D vwCl (wX4_allowsRule cy aH qH vH vH_markNights vH_markPlaces vH_markFound) H → va_D A (wX4_allowsRule cy aH qH vH vH_markNights vH_markPlaces vH_markFound) → va_S A s.heap H locs → lv_has ls 6 [(0, .ref aH), (1, .int x1), (2, .int x2), (3, .int x3), (4, .int y4_9)] → fX4_allowsRule_J57 vH_markFound y4_9 t0_57 = some y9 → W p l e ({ frames := 0, cells := 0, slots := 0, locals := 0 } : Room) s m ([.ref aH, .int x1, .int x2, .int x3] : List Value).toArray below meth c H locs 0 0 Q (F0 m 57 ls [.int t0_57]) := by
        intro t0_57 H locs ls hP hD hS hl hok
        unfold fX4_allowsRule_J57 at hok
        refine lv_aload_n hx hb dX4_allowsRule_57 rfl (lv_at hl 0 rfl) ?_
        refine va_get (D := D) (ci := 3) (v := .ref (qH 19)) (C := RX4) (T := TX4) (N := 20) hx hb ht0 niX4 hown hK hP 0 rfl rfl 19 (by decide) (ht0 _ wd0) (fun _ h9 => h9) rfl dX4_allowsRule_58 ?_
        refine lv_iload hx hb dX4_allowsRule_61 (lv_at hl 4 rfl) ?_
        obtain ⟨g63, hok⟩ := gd_some hok
        refine va_zald hx hb hK hP 3 3 rfl rfl (okI_in g63) dX4_allowsRule_63 ?_
        refine lv_icmp_eq (tgt := 69) hx hb dX4_allowsRule_64 (by decide) (fun c64 => ?_) (fun c64 => ?_)
        · have hok := k_pos c64 hok
          refine lv_iinc (v := (y4_9 + 1)) (lv' := [(4, .int (y4_9 + 1)), (0, .ref aH), (1, .int x1), (2, .int x2), (3, .int x3)]) hx hb dX4_allowsRule_69 hl (k := 4) rfl (by first | rfl | decide) (by decide) rfl (fun ls hl => ?_)
          refine lv_goto (tgt := 9) hx hb dX4_allowsRule_72 (by decide) ?_
          exact ih9 (y4_9 + 1) H locs ls hP hD hS (lv_sub hl [1, 2, 3, 4, 0] rfl) (hR9 _ (Option.some.inj hok).symm)
        · have hok := k_neg c64 hok
          obtain ⟨e9, hok, he9⟩ := ex_some hok
          have hok := hok.trans (congrArg some (hL9 _ he9))
          refine lv_iconst (v := 0) hx hb dX4_allowsRule_67 (by decide) ?_
          cases hok
          subst hQe; exact W.zret hx hb hr rfl (fun t ht hW => ⟨⟨_, (), rfl, rfl, by rw [ht]; exact hP, va_K.moved hW.alike hK, hD⟩, hS.F ht⟩) hS.2.2 dX4_allowsRule_68
      unfold fX4_allowsRule_B9 at hok
      refine lv_iload hx hb dX4_allowsRule_9 (lv_at hl 4 rfl) ?_
      refine lv_aload_n hx hb dX4_allowsRule_11 rfl (lv_at hl 0 rfl) ?_
      refine va_get (D := D) (ci := 3) (v := .int (vH 6)) (C := RX4) (T := TX4) (N := 20) hx hb ht0 niX4 hown hK hP 0 rfl rfl 6 (by decide) (ht0 _ wd1) (fun _ h9 => h9) rfl dX4_allowsRule_12 ?_
      refine lv_icmp_ge (tgt := 75) hx hb dX4_allowsRule_15 (by decide) (fun c15 => ?_) (fun c15 => ?_)
      · have hok := k_pos c15 hok
        obtain ⟨e9, hok, he9⟩ := ex_some hok
        have hok := hok.trans (congrArg some (hL9 _ he9))
        exact J75  H locs ls hP hD hS (lv_sub hl [] rfl) hok
      · have hok := k_neg c15 hok
        refine lv_iload hx hb dX4_allowsRule_18 (lv_at hl 4 rfl) ?_
        refine lv_bipush (v := 6) hx hb dX4_allowsRule_20 (by decide) ?_
        refine lv_icmp_ge (tgt := 75) hx hb dX4_allowsRule_22 (by decide) (fun c22 => ?_) (fun c22 => ?_)
        · have hok := k_pos c22 hok
          obtain ⟨e9, hok, he9⟩ := ex_some hok
          have hok := hok.trans (congrArg some (hL9 _ he9))
          exact J75  H locs ls hP hD hS (lv_sub hl [] rfl) hok
        · have hok := k_neg c22 hok
          refine lv_iload_n hx hb dX4_allowsRule_25 rfl (lv_at hl 3 rfl) ?_
          refine lv_iload_n hx hb dX4_allowsRule_26 rfl (lv_at hl 2 rfl) ?_
          refine lv_aload_n hx hb dX4_allowsRule_27 rfl (lv_at hl 0 rfl) ?_
          refine va_get (D := D) (ci := 3) (v := .ref (qH 17)) (C := RX4) (T := TX4) (N := 20) hx hb ht0 niX4 hown hK hP 0 rfl rfl 17 (by decide) (ht0 _ wd2) (fun _ h9 => h9) rfl dX4_allowsRule_28 ?_
          refine lv_iload hx hb dX4_allowsRule_31 (lv_at hl 4 rfl) ?_
          obtain ⟨g33, hok⟩ := gd_some hok
          refine va_iald hx hb hK hP 1 0 rfl rfl (okI_in g33) dX4_allowsRule_33 ?_
          refine lv_imul hx hb dX4_allowsRule_34 ?_
          refine lv_iadd hx hb dX4_allowsRule_35 ?_
          refine lv_iload_n hx hb dX4_allowsRule_36 rfl (lv_at hl 1 rfl) ?_
          obtain ⟨g37, hok⟩ := gd_some hok
          refine lv_irem hx hb dX4_allowsRule_37 (nzI_ne g37) ?_
          refine lv_istore (lv' := [(5, .int (irm (x3 + (x2 * (vH_markNights y4_9.toNatClampNeg))) x1)), (0, .ref aH), (1, .int x1), (2, .int x2), (3, .int x3), (4, .int y4_9)]) hx hb dX4_allowsRule_38 hl (by decide) rfl (fun ls hl => ?_)
          refine lv_iload hx hb dX4_allowsRule_40 (lv_at hl 0 rfl) ?_
          refine lv_aload_n hx hb dX4_allowsRule_42 rfl (lv_at hl 1 rfl) ?_
          refine va_get (D := D) (ci := 3) (v := .ref (qH 18)) (C := RX4) (T := TX4) (N := 20) hx hb ht0 niX4 hown hK hP 0 rfl rfl 18 (by decide) (ht0 _ wd3) (fun _ h9 => h9) rfl dX4_allowsRule_43 ?_
          refine lv_iload hx hb dX4_allowsRule_46 (lv_at hl 5 rfl) ?_
          obtain ⟨g48, hok⟩ := gd_some hok
          refine va_iald hx hb hK hP 2 0 rfl rfl (okI_in g48) dX4_allowsRule_48 ?_
          refine lv_icmp_ne (tgt := 56) hx hb dX4_allowsRule_49 (by decide) (fun c49 => ?_) (fun c49 => ?_)
          · have hok := k_neg c49 hok
            refine lv_iconst (v := 0) hx hb dX4_allowsRule_56 (by decide) ?_
            exact J57 (0 : Int32) H locs ls hP hD hS (lv_sub hl [1, 2, 3, 4, 5] rfl) hok
          · have hok := k_pos c49 hok
            refine lv_iconst (v := 1) hx hb dX4_allowsRule_52 (by decide) ?_
            refine lv_goto (tgt := 57) hx hb dX4_allowsRule_53 (by decide) ?_
            exact J57 (1 : Int32) H locs ls hP hD hS (lv_sub hl [1, 2, 3, 4, 5] rfl) hok
  unfold fX4_allowsRule at hok
  obtain ⟨H, hH⟩ : ∃ H, H = s.heap := ⟨_, rfl⟩
  obtain ⟨locs, hlc⟩ : ∃ x : List Loc, x = [] := ⟨_, rfl⟩
  have hP : va_P D vwCl (wX4_allowsRule cy aH qH vH vH_markNights vH_markPlaces vH_markFound) H := by rw [hH]; exact hP
  have hS : va_S A s.heap H locs := by rw [hH, hlc]; exact hS
  rw [show W p l e _ s m _ below meth c s.heap [] = W p l e _ s m _ below meth c H locs from by rw [hH, hlc]]
  refine lv_iload_n hx hb dX4_allowsRule_0 rfl (lv_at hl 1 rfl) ?_
  refine lv_if_gt (tgt := 6) hx hb dX4_allowsRule_1 (by decide) (fun c1 => ?_) (fun c1 => ?_)
  · have hok := k_pos c1 hok
    refine lv_iconst (v := 0) hx hb dX4_allowsRule_6 (by decide) ?_
    refine lv_istore (lv' := [(4, .int 0), (0, .ref aH), (1, .int x1), (2, .int x2), (3, .int x3)]) hx hb dX4_allowsRule_7 hl (by decide) rfl (fun ls hl => ?_)
    exact L9 5000 (0 : Int32) H locs ls hP hD hS (lv_sub hl [1, 2, 3, 4, 0] rfl) hok
  · have hok := k_neg c1 hok
    refine lv_iconst (v := 0) hx hb dX4_allowsRule_4 (by decide) ?_
    cases hok
    subst hQe; exact W.zret hx hb hr rfl (fun t ht hW => ⟨⟨_, (), rfl, rfl, by rw [ht]; exact hP, va_K.moved hW.alike hK, hD⟩, hS.F ht⟩) hS.2.2 dX4_allowsRule_5
def wsX0_add : List Cond := .code yX0_add cX0_add 2 none :: W0
abbrev wX0_add (cy : Nat → ClassId) (aB : Nat) (qB : Nat → Nat) (vB : Nat → Int32) (vB_ruleNumbers : Nat → Int32) : va_W := [(aB, oX0 vB qB), (qB 0, rI cy 572 vB_ruleNumbers)]
set_option maxHeartbeats 4000000 in
set_option maxRecDepth 100000 in
theorem kX0_add (l : Launch) (D : va_G) (cy : Nat → ClassId) (sz : Nat) (aB : Nat) (qB : Nat → Nat) (vB : Nat → Int32) (vB_ruleNumbers : Nat → Int32) (x1 : Int32) (z_vB : Nat → Int32) (z_vB_ruleNumbers : Nat → Int32) (hok : fX0_add vB vB_ruleNumbers x1 = some (z_vB, z_vB_ruleNumbers)) (A : Nat → Prop) (hAe : va_A (wX0_add cy aB qB vB vB_ruleNumbers) sz = A) : Met l yX0_add wsX0_add ({ frames := 0, cells := 0, slots := 0, locals := 0 } : Room) (kPre D cy [.ref aB, .int x1] (wX0_add cy aB qB vB vB_ruleNumbers) sz) (kQv D cy A (wX0_add cy aB qB z_vB z_vB_ruleNumbers)) 0 0 A := by
  refine Met.ofW (cc := cX0_add) (maxL := 2) (ret := none) (by decide) rfl ?_
  intro p e s m args below meth c s₁ B hml hv
  obtain ⟨rfl, hsz, hP, hK, hD0, hN⟩ := hv
  have hx := B.exec
  have hb := B.bytes
  have hr := B.returns
  have ht0 : ∀ w ∈ W0, w.before _ s = true := fun w h => atoms_spec (ws := wsX0_add) B.pre w (List.mem_cons_of_mem _ h)
  have hown : s.vm.findClass RX0 = some m.cls := findClass_of_methodNamed B.named
  have hlocks := B.notSynchronized
  subst hsz
  have hD : va_D A (wX0_add cy aB qB vB vB_ruleNumbers) := by rw [← hAe]; exact hD0.self
  have hA : ∀ q : Nat, s.heap.size ≤ q → A q := fun q h => by rw [← hAe]; exact Or.inr h
  have hS : va_S A s.heap s.heap [] := va_S.rf
  have hl := lv_entry ([.ref aB, .int x1]) (n := 2) (Nat.le_of_ble_eq_true rfl)
  rw [lg_entry_eq]
  generalize (lg_sl ([.ref aB, .int x1]) ++ List.replicate (2 - (lg_sl ([.ref aB, .int x1])).length) Slot.unset).toArray = ls at hl ⊢
  have hl : lv_has ls 2 [(0, .ref aB), (1, .int x1)] := hl
  generalize hQe : MQ below (kQv D cy A (wX0_add cy aB qB z_vB z_vB_ruleNumbers)) ([.ref aB, .int x1] : List Value).toArray s 0 0 A = Q
  have J37 : ∀ (vB_ruleNumbers_37 : Nat → Int32) (vB_37 : Nat → Int32), ∀ (H : Heap) (locs : List Loc) (ls : Array Slot), va_P D vwCl (wX0_add cy aB qB vB_37 vB_ruleNumbers_37) H → va_D A (wX0_add cy aB qB vB_37 vB_ruleNumbers_37) → va_S A s.heap H locs → lv_has ls 2 [] → fX0_add_J37 vB_ruleNumbers_37 vB_37 = some (z_vB, z_vB_ruleNumbers) → W p l e ({ frames := 0, cells := 0, slots := 0, locals := 0 } : Room) s m ([.ref aB, .int x1] : List Value).toArray below meth c H locs 0 0 Q (F0 m 37 ls []) := by
    intro vB_ruleNumbers_37 vB_37 H locs ls hP hD hS hl hok
    unfold fX0_add_J37 at hok
    cases hok
    subst hQe; exact W.vret hx hb hr (fun t ht hW => ⟨⟨(), rfl, trivial, by rw [ht]; exact hP, va_K.moved hW.alike hK, hD⟩, hS.F ht⟩) hS.2.2 dX0_add_37
  unfold fX0_add at hok
  obtain ⟨H, hH⟩ : ∃ H, H = s.heap := ⟨_, rfl⟩
  obtain ⟨locs, hlc⟩ : ∃ x : List Loc, x = [] := ⟨_, rfl⟩
  have hP : va_P D vwCl (wX0_add cy aB qB vB vB_ruleNumbers) H := by rw [hH]; exact hP
  have hS : va_S A s.heap H locs := by rw [hH, hlc]; exact hS
  rw [show W p l e _ s m _ below meth c s.heap [] = W p l e _ s m _ below meth c H locs from by rw [hH, hlc]]
  refine lv_aload_n hx hb dX0_add_0 rfl (lv_at hl 0 rfl) ?_
  refine va_get (D := D) (ci := 0) (v := .int (vB 2)) (C := RX0) (T := TX0) (N := 6) hx hb ht0 niX0 hown hK hP 0 rfl rfl 2 (by decide) (ht0 _ wd4) (fun _ h9 => h9) rfl dX0_add_1 ?_
  refine lv_if_lt (tgt := 37) hx hb dX0_add_4 (by decide) (fun c4 => ?_) (fun c4 => ?_)
  · have hok := k_pos c4 hok
    exact J37 vB_ruleNumbers vB H locs ls hP hD hS (lv_sub hl [] rfl) hok
  · have hok := k_neg c4 hok
    refine lv_aload_n hx hb dX0_add_7 rfl (lv_at hl 0 rfl) ?_
    refine va_get (D := D) (ci := 0) (v := .int (vB 2)) (C := RX0) (T := TX0) (N := 6) hx hb ht0 niX0 hown hK hP 0 rfl rfl 2 (by decide) (ht0 _ wd4) (fun _ h9 => h9) rfl dX0_add_8 ?_
    refine lv_sipush (v := 572) hx hb dX0_add_11 (by decide) ?_
    refine lv_icmp_ge (tgt := 37) hx hb dX0_add_14 (by decide) (fun c14 => ?_) (fun c14 => ?_)
    · have hok := k_pos c14 hok
      exact J37 vB_ruleNumbers vB H locs ls hP hD hS (lv_sub hl [] rfl) hok
    · have hok := k_neg c14 hok
      refine lv_aload_n hx hb dX0_add_17 rfl (lv_at hl 0 rfl) ?_
      refine va_get (D := D) (ci := 0) (v := .ref (qB 0)) (C := RX0) (T := TX0) (N := 6) hx hb ht0 niX0 hown hK hP 0 rfl rfl 0 (by decide) (ht0 _ wd5) (fun _ h9 => h9) rfl dX0_add_18 ?_
      refine lv_aload_n hx hb dX0_add_21 rfl (lv_at hl 0 rfl) ?_
      refine va_get (D := D) (ci := 0) (v := .int (vB 2)) (C := RX0) (T := TX0) (N := 6) hx hb ht0 niX0 hown hK hP 0 rfl rfl 2 (by decide) (ht0 _ wd4) (fun _ h9 => h9) rfl dX0_add_22 ?_
      refine lv_iload_n hx hb dX0_add_25 rfl (lv_at hl 1 rfl) ?_
      obtain ⟨g26, hok⟩ := gd_some hok
      refine va_iast hx hb hK hP hD hS 1 0 rfl rfl (okI_in g26) dX0_add_26 (fun H locs hP hD hS => ?_)
      have hP : va_P D vwCl (wX0_add cy aB qB vB (upd vB_ruleNumbers (vB 2).toNatClampNeg x1)) H := hP
      have hD : va_D A (wX0_add cy aB qB vB (upd vB_ruleNumbers (vB 2).toNatClampNeg x1)) := hD
      refine lv_aload_n hx hb dX0_add_27 rfl (lv_at hl 0 rfl) ?_
      refine lv_dup hx hb dX0_add_28 rfl ?_
      refine va_get (D := D) (ci := 0) (v := .int (vB 2)) (C := RX0) (T := TX0) (N := 6) hx hb ht0 niX0 hown hK hP 0 rfl rfl 2 (by decide) (ht0 _ wd4) (fun _ h9 => h9) rfl dX0_add_29 ?_
      refine lv_iconst (v := 1) hx hb dX0_add_32 (by decide) ?_
      refine lv_iadd hx hb dX0_add_33 ?_
      refine va_put (D := D) (ci := 0) (v := .int ((vB 2) + (1 : Int32))) (ty := .int) (C := RX0) (T := TX0) (N := 6) hx hb ht0 niX0 tyX0 tyX0_ok nmX0 hown hK hP hD hS 0 rfl rfl 2 (by decide) (ht0 _ wd4) (fun _ h9 => h9) rfl (by decide +kernel) rfl rfl (Nat.le_of_ble_eq_true rfl) dX0_add_34 (fun H locs hP hD hS => ?_)
      have hP : va_P D vwCl (wX0_add cy aB qB (upd vB 2 ((vB 2) + (1 : Int32))) (upd vB_ruleNumbers (vB 2).toNatClampNeg x1)) H := hP
      have hD : va_D A (wX0_add cy aB qB (upd vB 2 ((vB 2) + (1 : Int32))) (upd vB_ruleNumbers (vB 2).toNatClampNeg x1)) := hD
      exact J37 (upd vB_ruleNumbers (vB 2).toNatClampNeg x1) (upd vB 2 ((vB 2) + (1 : Int32))) H locs ls hP hD hS (lv_sub hl [] rfl) hok
def wsX0_learn : List Cond := .code yX0_learn cX0_learn 5 none :: W0
abbrev wX0_learn (cy : Nat → ClassId) (aB : Nat) (aH : Nat) (qB : Nat → Nat) (qH : Nat → Nat) (vB : Nat → Int32) (vH : Nat → Int32) (vH_markNights : Nat → Int32) (vH_markPlaces : Nat → Int32) (vH_markFound : Nat → Int32) (vB_ruleNumbers : Nat → Int32) : va_W := [(aB, oX0 vB qB), (aH, oX4 vH qH), (qH 17, rI cy 6 vH_markNights), (qH 18, rI cy 6 vH_markPlaces), (qH 19, rZ cy 6 vH_markFound), (qB 0, rI cy 572 vB_ruleNumbers)]
set_option maxHeartbeats 4000000 in
set_option maxRecDepth 100000 in
theorem kX0_learn (l : Launch) (D : va_G) (cy : Nat → ClassId) (sz : Nat) (aB : Nat) (aH : Nat) (qB : Nat → Nat) (qH : Nat → Nat) (vB : Nat → Int32) (vH : Nat → Int32) (vH_markNights : Nat → Int32) (vH_markPlaces : Nat → Int32) (vH_markFound : Nat → Int32) (vB_ruleNumbers : Nat → Int32) (z_vB : Nat → Int32) (z_vB_ruleNumbers : Nat → Int32) (hok : fX0_learn vB vH vH_markNights vH_markPlaces vH_markFound vB_ruleNumbers = some (z_vB, z_vB_ruleNumbers)) (A : Nat → Prop) (hAe : va_A (wX0_learn cy aB aH qB qH vB vH vH_markNights vH_markPlaces vH_markFound vB_ruleNumbers) sz = A) : Met l yX0_learn wsX0_learn ({ frames := 1, cells := 0, slots := 0, locals := 25 } : Room) (kPre D cy [.ref aB, .ref aH] (wX0_learn cy aB aH qB qH vB vH vH_markNights vH_markPlaces vH_markFound vB_ruleNumbers) sz) (kQv D cy A (wX0_learn cy aB aH qB qH z_vB vH vH_markNights vH_markPlaces vH_markFound z_vB_ruleNumbers)) 0 0 A := by
  refine Met.ofW (cc := cX0_learn) (maxL := 5) (ret := none) (by decide) rfl ?_
  intro p e s m args below meth c s₁ B hml hv
  obtain ⟨rfl, hsz, hP, hK, hD0, hN⟩ := hv
  have hx := B.exec
  have hb := B.bytes
  have hr := B.returns
  have ht0 : ∀ w ∈ W0, w.before _ s = true := fun w h => atoms_spec (ws := wsX0_learn) B.pre w (List.mem_cons_of_mem _ h)
  have hown : s.vm.findClass RX0 = some m.cls := findClass_of_methodNamed B.named
  have hlocks := B.notSynchronized
  subst hsz
  have hD : va_D A (wX0_learn cy aB aH qB qH vB vH vH_markNights vH_markPlaces vH_markFound vB_ruleNumbers) := by rw [← hAe]; exact hD0.self
  have hA : ∀ q : Nat, s.heap.size ≤ q → A q := fun q h => by rw [← hAe]; exact Or.inr h
  have hS : va_S A s.heap s.heap [] := va_S.rf
  have hl := lv_entry ([.ref aB, .ref aH]) (n := 5) (Nat.le_of_ble_eq_true rfl)
  rw [lg_entry_eq]
  generalize (lg_sl ([.ref aB, .ref aH]) ++ List.replicate (5 - (lg_sl ([.ref aB, .ref aH])).length) Slot.unset).toArray = ls at hl ⊢
  have hl : lv_has ls 5 [(0, .ref aB), (1, .ref aH)] := hl
  generalize hQe : MQ below (kQv D cy A (wX0_learn cy aB aH qB qH z_vB vH vH_markNights vH_markPlaces vH_markFound z_vB_ruleNumbers)) ([.ref aB, .ref aH] : List Value).toArray s 0 0 A = Q
  have L12 : ∀ (fuel : Nat) (y2_12 : Int32) (vB_ruleNumbers_12 : Nat → Int32) (vB_12 : Nat → Int32), ∀ (H : Heap) (locs : List Loc) (ls : Array Slot), va_P D vwCl (wX0_learn cy aB aH qB qH vB_12 vH vH_markNights vH_markPlaces vH_markFound vB_ruleNumbers_12) H → va_D A (wX0_learn cy aB aH qB qH vB_12 vH vH_markNights vH_markPlaces vH_markFound vB_ruleNumbers_12) → va_S A s.heap H locs → lv_has ls 5 [(0, .ref aB), (1, .ref aH), (2, .int y2_12)] → lp (fX0_learn_B12 vH vH_markNights vH_markPlaces vH_markFound) fuel (y2_12, vB_ruleNumbers_12, vB_12) = some (z_vB, z_vB_ruleNumbers) → W p l e ({ frames := 1, cells := 0, slots := 0, locals := 25 } : Room) s m ([.ref aB, .ref aH] : List Value).toArray below meth c H locs 0 0 Q (F0 m 12 ls []) := by
    intro fuel
    induction fuel with
    | zero => intro y2_12 vB_ruleNumbers_12 vB_12 H locs ls hP hD hS hl hok; exact (lp_0 hok).elim
    | succ fuel ih12 =>
      intro y2_12 vB_ruleNumbers_12 vB_12 H locs ls hP hD hS hl hok
      obtain ⟨y12, hok, hL12, hR12⟩ := lp_step hok
      have L20 : ∀ (fuel : Nat) (y3_20 : Int32) (vB_ruleNumbers_20 : Nat → Int32) (vB_20 : Nat → Int32), ∀ (H : Heap) (locs : List Loc) (ls : Array Slot), va_P D vwCl (wX0_learn cy aB aH qB qH vB_20 vH vH_markNights vH_markPlaces vH_markFound vB_ruleNumbers_20) H → va_D A (wX0_learn cy aB aH qB qH vB_20 vH vH_markNights vH_markPlaces vH_markFound vB_ruleNumbers_20) → va_S A s.heap H locs → lv_has ls 5 [(0, .ref aB), (1, .ref aH), (2, .int y2_12), (3, .int y3_20)] → lp (fX0_learn_B20 vH vH_markNights vH_markPlaces vH_markFound y2_12) fuel (y3_20, vB_ruleNumbers_20, vB_20) = some y12 → W p l e ({ frames := 1, cells := 0, slots := 0, locals := 25 } : Room) s m ([.ref aB, .ref aH] : List Value).toArray below meth c H locs 0 0 Q (F0 m 20 ls []) := by
        intro fuel
        induction fuel with
        | zero => intro y3_20 vB_ruleNumbers_20 vB_20 H locs ls hP hD hS hl hok; exact (lp_0 hok).elim
        | succ fuel ih20 =>
          intro y3_20 vB_ruleNumbers_20 vB_20 H locs ls hP hD hS hl hok
          obtain ⟨y20, hok, hL20, hR20⟩ := lp_step hok
          have L28 : ∀ (fuel : Nat) (y4_28 : Int32) (vB_ruleNumbers_28 : Nat → Int32) (vB_28 : Nat → Int32), ∀ (H : Heap) (locs : List Loc) (ls : Array Slot), va_P D vwCl (wX0_learn cy aB aH qB qH vB_28 vH vH_markNights vH_markPlaces vH_markFound vB_ruleNumbers_28) H → va_D A (wX0_learn cy aB aH qB qH vB_28 vH vH_markNights vH_markPlaces vH_markFound vB_ruleNumbers_28) → va_S A s.heap H locs → lv_has ls 5 [(0, .ref aB), (1, .ref aH), (2, .int y2_12), (3, .int y3_20), (4, .int y4_28)] → lp (fX0_learn_B28 vH vH_markNights vH_markPlaces vH_markFound y2_12 y3_20) fuel (y4_28, vB_ruleNumbers_28, vB_28) = some y20 → W p l e ({ frames := 1, cells := 0, slots := 0, locals := 25 } : Room) s m ([.ref aB, .ref aH] : List Value).toArray below meth c H locs 0 0 Q (F0 m 28 ls []) := by
            intro fuel
            induction fuel with
            | zero => intro y4_28 vB_ruleNumbers_28 vB_28 H locs ls hP hD hS hl hok; exact (lp_0 hok).elim
            | succ fuel ih28 =>
              intro y4_28 vB_ruleNumbers_28 vB_28 H locs ls hP hD hS hl hok
              obtain ⟨y28, hok, hL28, hR28⟩ := lp_step hok
              have J62 : ∀ (vB_ruleNumbers_62 : Nat → Int32) (vB_62 : Nat → Int32), ∀ (H : Heap) (locs : List Loc) (ls : Array Slot), va_P D vwCl (wX0_learn cy aB aH qB qH vB_62 vH vH_markNights vH_markPlaces vH_markFound vB_ruleNumbers_62) H → va_D A (wX0_learn cy aB aH qB qH vB_62 vH vH_markNights vH_markPlaces vH_markFound vB_ruleNumbers_62) → va_S A s.heap H locs → lv_has ls 5 [(0, .ref aB), (1, .ref aH), (2, .int y2_12), (3, .int y3_20), (4, .int y4_28)] → fX0_learn_J62 y4_28 vB_ruleNumbers_62 vB_62 = some y28 → W p l e ({ frames := 1, cells := 0, slots := 0, locals := 25 } : Room) s m ([.ref aB, .ref aH] : List Value).toArray below meth c H locs 0 0 Q (F0 m 62 ls []) := by
                intro vB_ruleNumbers_62 vB_62 H locs ls hP hD hS hl hok
                unfold fX0_learn_J62 at hok
                refine lv_iinc (v := (y4_28 + 1)) (lv' := [(4, .int (y4_28 + 1)), (0, .ref aB), (1, .ref aH), (2, .int y2_12), (3, .int y3_20)]) hx hb dX0_learn_62 hl (k := 4) rfl (by first | rfl | decide) (by decide) rfl (fun ls hl => ?_)
                refine lv_goto (tgt := 28) hx hb dX0_learn_65 (by decide) ?_
                exact ih28 (y4_28 + 1) vB_ruleNumbers_62 vB_62 H locs ls hP hD hS (lv_sub hl [1, 2, 3, 4, 0] rfl) (hR28 _ (Option.some.inj hok).symm)
              unfold fX0_learn_B28 at hok
              try dsimp only at hok
              refine lv_iload hx hb dX0_learn_28 (lv_at hl 4 rfl) ?_
              refine lv_iload_n hx hb dX0_learn_30 rfl (lv_at hl 2 rfl) ?_
              refine lv_icmp_ge (tgt := 68) hx hb dX0_learn_31 (by decide) (fun c31 => ?_) (fun c31 => ?_)
              · have hok := k_pos c31 hok
                obtain ⟨e28, hok, he28⟩ := ex_some hok
                have hok := hok.trans (congrArg some (hL28 _ he28))
                refine lv_iinc (v := (y3_20 + 1)) (lv' := [(3, .int (y3_20 + 1)), (0, .ref aB), (1, .ref aH), (2, .int y2_12), (4, .int y4_28)]) hx hb dX0_learn_68 hl (k := 3) rfl (by first | rfl | decide) (by decide) rfl (fun ls hl => ?_)
                refine lv_goto (tgt := 20) hx hb dX0_learn_71 (by decide) ?_
                exact ih20 (y3_20 + 1) vB_ruleNumbers_28 vB_28 H locs ls hP hD hS (lv_sub hl [1, 2, 3, 0] rfl) (hR20 _ (Option.some.inj hok).symm)
              · have hok := k_neg c31 hok
                refine lv_aload_n hx hb dX0_learn_34 rfl (lv_at hl 1 rfl) ?_
                refine lv_iload_n hx hb dX0_learn_35 rfl (lv_at hl 2 rfl) ?_
                refine lv_iload_n hx hb dX0_learn_36 rfl (lv_at hl 3 rfl) ?_
                refine lv_iload hx hb dX0_learn_37 (lv_at hl 4 rfl) ?_
                obtain ⟨r39, hc39, hok⟩ := k_bind hok
                refine kCi (wc := (wX4_allowsRule cy aH qH vH vH_markNights vH_markPlaces vH_markFound)) (wc2 := (wX4_allowsRule cy aH qH vH vH_markNights vH_markPlaces vH_markFound)) (wr := [(aB, oX0 vB_28 qB), (qB 0, rI cy 572 vB_ruleNumbers_28)]) (ws2 := (wX0_learn cy aB aH qB qH vB_28 vH vH_markNights vH_markPlaces vH_markFound vB_ruleNumbers_28)) (kRunV (As := [.int y2_12, .int y3_20, .int y4_28]) (rest := []) ⟨hx, hb, hml, hown, ht0⟩ (kX4_allowsRule l D cy _ aH qH vH vH_markNights vH_markPlaces vH_markFound y2_12 y3_20 y4_28 r39 hc39 _ rfl) (cwV 3 ht0 (gV wd6 wd7 wd8 wd9 wd10) rfl rfl rfl (by decide +kernel) ⟨Nat.le_of_ble_eq_true rfl, Nat.le_of_ble_eq_true rfl⟩) hK hN hP hD [1, 2, 3, 4] rfl (by decide) 1 3 rfl rfl rfl hl.1 rfl (Nat.le_of_ble_eq_true rfl) dX0_learn_39 ⟨Nat.zero_le _, Nat.zero_le _⟩) hP hD hS hA [1, 2, 3, 4] [0, 5] rfl rfl (by decide) (by decide) [0, 2, 3, 4, 5, 1] (by decide) rfl rfl (fun H locs hP hD hS => ?_)
                refine lv_if_eq (tgt := 62) hx hb dX0_learn_42 (by decide) (fun c42 => ?_) (fun c42 => ?_)
                · have hok := k_pos c42 hok
                  exact J62 vB_ruleNumbers_28 vB_28 H locs ls hP hD hS (lv_sub hl [0, 1, 2, 3, 4] rfl) hok
                · have hok := k_neg c42 hok
                  refine lv_aload_n hx hb dX0_learn_45 rfl (lv_at hl 0 rfl) ?_
                  refine lv_sipush (v := 10000) hx hb dX0_learn_46 (by decide) ?_
                  refine lv_iload_n hx hb dX0_learn_49 rfl (lv_at hl 2 rfl) ?_
                  refine lv_imul hx hb dX0_learn_50 ?_
                  refine lv_bipush (v := 100) hx hb dX0_learn_51 (by decide) ?_
                  refine lv_iload_n hx hb dX0_learn_53 rfl (lv_at hl 3 rfl) ?_
                  refine lv_imul hx hb dX0_learn_54 ?_
                  refine lv_iadd hx hb dX0_learn_55 ?_
                  refine lv_iload hx hb dX0_learn_56 (lv_at hl 4 rfl) ?_
                  refine lv_iadd hx hb dX0_learn_58 ?_
                  obtain ⟨⟨vB_59, vB_ruleNumbers_59⟩, hc59, hok⟩ := k_bind hok
                  try dsimp only at hok
                  refine kCv (wc := (wX0_add cy aB qB vB_28 vB_ruleNumbers_28)) (wc2 := (wX0_add cy aB qB vB_59 vB_ruleNumbers_59)) (wr := [(aH, oX4 vH qH), (qH 17, rI cy 6 vH_markNights), (qH 18, rI cy 6 vH_markPlaces), (qH 19, rZ cy 6 vH_markFound)]) (ws2 := (wX0_learn cy aB aH qB qH vB_59 vH vH_markNights vH_markPlaces vH_markFound vB_ruleNumbers_59)) (kRunV (As := [.int ((((10000 : Int32) * y2_12) + ((100 : Int32) * y3_20)) + y4_28)]) (rest := []) ⟨hx, hb, hml, hown, ht0⟩ (kX0_add l D cy _ aB qB vB_28 vB_ruleNumbers_28 ((((10000 : Int32) * y2_12) + ((100 : Int32) * y3_20)) + y4_28) vB_59 vB_ruleNumbers_59 hc59 _ rfl) (cwV 1 ht0 (gV wd11 wd12 wd13 wd14 wd15) rfl rfl rfl (by decide +kernel) ⟨Nat.le_of_ble_eq_true rfl, Nat.le_of_ble_eq_true rfl⟩) hK hN hP hD [0, 5] rfl (by decide) 0 0 rfl rfl rfl hl.1 rfl (Nat.le_of_ble_eq_true rfl) dX0_learn_59 ⟨Nat.zero_le _, Nat.zero_le _⟩) hP hD hS hA [0, 5] [1, 2, 3, 4] rfl rfl (by decide) (by decide) [4, 0, 1, 2, 3, 5] (by decide) rfl rfl (fun H locs hP hD hS => ?_)
                  exact J62 vB_ruleNumbers_59 vB_59 H locs ls hP hD hS (lv_sub hl [0, 1, 2, 3, 4] rfl) hok
          unfold fX0_learn_B20 at hok
          try dsimp only at hok
          refine lv_iload_n hx hb dX0_learn_20 rfl (lv_at hl 3 rfl) ?_
          refine lv_iload_n hx hb dX0_learn_21 rfl (lv_at hl 2 rfl) ?_
          refine lv_icmp_ge (tgt := 74) hx hb dX0_learn_22 (by decide) (fun c22 => ?_) (fun c22 => ?_)
          · have hok := k_pos c22 hok
            obtain ⟨e20, hok, he20⟩ := ex_some hok
            have hok := hok.trans (congrArg some (hL20 _ he20))
            refine lv_iinc (v := (y2_12 + 1)) (lv' := [(2, .int (y2_12 + 1)), (0, .ref aB), (1, .ref aH), (3, .int y3_20)]) hx hb dX0_learn_74 hl (k := 2) rfl (by first | rfl | decide) (by decide) rfl (fun ls hl => ?_)
            refine lv_goto (tgt := 12) hx hb dX0_learn_77 (by decide) ?_
            exact ih12 (y2_12 + 1) vB_ruleNumbers_20 vB_20 H locs ls hP hD hS (lv_sub hl [1, 2, 0] rfl) (hR12 _ (Option.some.inj hok).symm)
          · have hok := k_neg c22 hok
            refine lv_iconst (v := 0) hx hb dX0_learn_25 (by decide) ?_
            refine lv_istore (lv' := [(4, .int 0), (0, .ref aB), (1, .ref aH), (2, .int y2_12), (3, .int y3_20)]) hx hb dX0_learn_26 hl (by decide) rfl (fun ls hl => ?_)
            exact L28 5000 (0 : Int32) vB_ruleNumbers_20 vB_20 H locs ls hP hD hS (lv_sub hl [1, 2, 3, 4, 0] rfl) hok
      unfold fX0_learn_B12 at hok
      try dsimp only at hok
      refine lv_iload_n hx hb dX0_learn_12 rfl (lv_at hl 2 rfl) ?_
      refine lv_bipush (v := 12) hx hb dX0_learn_13 (by decide) ?_
      refine lv_icmp_gt (tgt := 80) hx hb dX0_learn_15 (by decide) (fun c15 => ?_) (fun c15 => ?_)
      · have hok := k_pos c15 hok
        obtain ⟨e12, hok, he12⟩ := ex_some hok
        have hok := hok.trans (congrArg some (hL12 _ he12))
        cases hok
        subst hQe; exact W.vret hx hb hr (fun t ht hW => ⟨⟨(), rfl, trivial, by rw [ht]; exact hP, va_K.moved hW.alike hK, hD⟩, hS.F ht⟩) hS.2.2 dX0_learn_80
      · have hok := k_neg c15 hok
        refine lv_iconst (v := 1) hx hb dX0_learn_18 (by decide) ?_
        refine lv_istore_n (lv' := [(3, .int 1), (0, .ref aB), (1, .ref aH), (2, .int y2_12)]) hx hb dX0_learn_19 rfl hl (by decide) rfl (fun ls hl => ?_)
        exact L20 5000 (1 : Int32) vB_ruleNumbers_12 vB_12 H locs ls hP hD hS (lv_sub hl [1, 2, 3, 0] rfl) hok
  unfold fX0_learn at hok
  obtain ⟨H, hH⟩ : ∃ H, H = s.heap := ⟨_, rfl⟩
  obtain ⟨locs, hlc⟩ : ∃ x : List Loc, x = [] := ⟨_, rfl⟩
  have hP : va_P D vwCl (wX0_learn cy aB aH qB qH vB vH vH_markNights vH_markPlaces vH_markFound vB_ruleNumbers) H := by rw [hH]; exact hP
  have hS : va_S A s.heap H locs := by rw [hH, hlc]; exact hS
  rw [show W p l e _ s m _ below meth c s.heap [] = W p l e _ s m _ below meth c H locs from by rw [hH, hlc]]
  refine lv_aload_n hx hb dX0_learn_0 rfl (lv_at hl 0 rfl) ?_
  refine lv_iconst (v := 0) hx hb dX0_learn_1 (by decide) ?_
  refine va_put (D := D) (ci := 0) (v := .int 0) (ty := .int) (C := RX0) (T := TX0) (N := 6) hx hb ht0 niX0 tyX0 tyX0_ok nmX0 hown hK hP hD hS 0 rfl rfl 2 (by decide) (ht0 _ wd4) (fun _ h9 => h9) rfl (by decide +kernel) rfl rfl (Nat.le_of_ble_eq_true rfl) dX0_learn_2 (fun H locs hP hD hS => ?_)
  have hP : va_P D vwCl (wX0_learn cy aB aH qB qH (upd vB 2 (0 : Int32)) vH vH_markNights vH_markPlaces vH_markFound vB_ruleNumbers) H := hP
  have hD : va_D A (wX0_learn cy aB aH qB qH (upd vB 2 (0 : Int32)) vH vH_markNights vH_markPlaces vH_markFound vB_ruleNumbers) := hD
  refine lv_aload_n hx hb dX0_learn_5 rfl (lv_at hl 0 rfl) ?_
  refine lv_iconst (v := 0) hx hb dX0_learn_6 (by decide) ?_
  refine va_put (D := D) (ci := 0) (v := .int 0) (ty := .boolean) (C := RX0) (T := TX0) (N := 6) hx hb ht0 niX0 tyX0 tyX0_ok nmX0 hown hK hP hD hS 0 rfl rfl 3 (by decide) (ht0 _ wd16) (fun _ h9 => h9) rfl (by decide +kernel) rfl rfl (Nat.le_of_ble_eq_true rfl) dX0_learn_7 (fun H locs hP hD hS => ?_)
  have hP : va_P D vwCl (wX0_learn cy aB aH qB qH (upd (upd vB 2 (0 : Int32)) 3 (0 : Int32)) vH vH_markNights vH_markPlaces vH_markFound vB_ruleNumbers) H := hP
  have hD : va_D A (wX0_learn cy aB aH qB qH (upd (upd vB 2 (0 : Int32)) 3 (0 : Int32)) vH vH_markNights vH_markPlaces vH_markFound vB_ruleNumbers) := hD
  refine lv_iconst (v := 2) hx hb dX0_learn_10 (by decide) ?_
  refine lv_istore_n (lv' := [(2, .int 2), (0, .ref aB), (1, .ref aH)]) hx hb dX0_learn_11 rfl hl (by decide) rfl (fun ls hl => ?_)
  exact L12 5000 (2 : Int32) vB_ruleNumbers (upd (upd vB 2 (0 : Int32)) 3 (0 : Int32)) H locs ls hP hD hS (lv_sub hl [1, 2, 0] rfl) hok
def wsX0_count : List Cond := .code yX0_count cX0_count 1 (some .int) :: W0
abbrev wX0_count (cy : Nat → ClassId) (aB : Nat) (qB : Nat → Nat) (vB : Nat → Int32) : va_W := [(aB, oX0 vB qB)]
set_option maxHeartbeats 4000000 in
set_option maxRecDepth 100000 in
theorem kX0_count (l : Launch) (D : va_G) (cy : Nat → ClassId) (sz : Nat) (aB : Nat) (qB : Nat → Nat) (vB : Nat → Int32) (zr : Int32) (hok : fX0_count vB = some zr) (A : Nat → Prop) (hAe : va_A (wX0_count cy aB qB vB) sz = A) : Met l yX0_count wsX0_count ({ frames := 0, cells := 0, slots := 0, locals := 0 } : Room) (kPre D cy [.ref aB] (wX0_count cy aB qB vB) sz) (kQi D cy zr A (wX0_count cy aB qB vB)) 0 0 A := by
  refine Met.ofW (cc := cX0_count) (maxL := 1) (ret := (some .int)) (by decide) rfl ?_
  intro p e s m args below meth c s₁ B hml hv
  obtain ⟨rfl, hsz, hP, hK, hD0, hN⟩ := hv
  have hx := B.exec
  have hb := B.bytes
  have hr := B.returns
  have ht0 : ∀ w ∈ W0, w.before _ s = true := fun w h => atoms_spec (ws := wsX0_count) B.pre w (List.mem_cons_of_mem _ h)
  have hown : s.vm.findClass RX0 = some m.cls := findClass_of_methodNamed B.named
  have hlocks := B.notSynchronized
  subst hsz
  have hD : va_D A (wX0_count cy aB qB vB) := by rw [← hAe]; exact hD0.self
  have hA : ∀ q : Nat, s.heap.size ≤ q → A q := fun q h => by rw [← hAe]; exact Or.inr h
  have hS : va_S A s.heap s.heap [] := va_S.rf
  have hl := lv_entry ([.ref aB]) (n := 1) (Nat.le_of_ble_eq_true rfl)
  rw [lg_entry_eq]
  generalize (lg_sl ([.ref aB]) ++ List.replicate (1 - (lg_sl ([.ref aB])).length) Slot.unset).toArray = ls at hl ⊢
  have hl : lv_has ls 1 [(0, .ref aB)] := hl
  unfold fX0_count at hok
  obtain ⟨H, hH⟩ : ∃ H, H = s.heap := ⟨_, rfl⟩
  obtain ⟨locs, hlc⟩ : ∃ x : List Loc, x = [] := ⟨_, rfl⟩
  have hP : va_P D vwCl (wX0_count cy aB qB vB) H := by rw [hH]; exact hP
  have hS : va_S A s.heap H locs := by rw [hH, hlc]; exact hS
  rw [show W p l e _ s m _ below meth c s.heap [] = W p l e _ s m _ below meth c H locs from by rw [hH, hlc]]
  refine lv_aload_n hx hb dX0_count_0 rfl (lv_at hl 0 rfl) ?_
  refine va_get (D := D) (ci := 0) (v := .int (vB 2)) (C := RX0) (T := TX0) (N := 6) hx hb ht0 niX0 hown hK hP 0 rfl rfl 2 (by decide) (ht0 _ wd4) (fun _ h9 => h9) rfl dX0_count_1 ?_
  cases hok
  exact W.iret hx hb hr (fun t ht hW => ⟨⟨_, (), rfl, rfl, by rw [ht]; exact hP, va_K.moved hW.alike hK, hD⟩, hS.F ht⟩) hS.2.2 dX0_count_4
def wsX0_ruleNumber : List Cond := .code yX0_ruleNumber cX0_ruleNumber 2 (some .int) :: W0
abbrev wX0_ruleNumber (cy : Nat → ClassId) (aB : Nat) (qB : Nat → Nat) (vB : Nat → Int32) (vB_ruleNumbers : Nat → Int32) : va_W := [(aB, oX0 vB qB), (qB 0, rI cy 572 vB_ruleNumbers)]
set_option maxHeartbeats 4000000 in
set_option maxRecDepth 100000 in
theorem kX0_ruleNumber (l : Launch) (D : va_G) (cy : Nat → ClassId) (sz : Nat) (aB : Nat) (qB : Nat → Nat) (vB : Nat → Int32) (vB_ruleNumbers : Nat → Int32) (x1 : Int32) (zr : Int32) (hok : fX0_ruleNumber vB vB_ruleNumbers x1 = some zr) (A : Nat → Prop) (hAe : va_A (wX0_ruleNumber cy aB qB vB vB_ruleNumbers) sz = A) : Met l yX0_ruleNumber wsX0_ruleNumber ({ frames := 0, cells := 0, slots := 0, locals := 0 } : Room) (kPre D cy [.ref aB, .int x1] (wX0_ruleNumber cy aB qB vB vB_ruleNumbers) sz) (kQi D cy zr A (wX0_ruleNumber cy aB qB vB vB_ruleNumbers)) 0 0 A := by
  refine Met.ofW (cc := cX0_ruleNumber) (maxL := 2) (ret := (some .int)) (by decide) rfl ?_
  intro p e s m args below meth c s₁ B hml hv
  obtain ⟨rfl, hsz, hP, hK, hD0, hN⟩ := hv
  have hx := B.exec
  have hb := B.bytes
  have hr := B.returns
  have ht0 : ∀ w ∈ W0, w.before _ s = true := fun w h => atoms_spec (ws := wsX0_ruleNumber) B.pre w (List.mem_cons_of_mem _ h)
  have hown : s.vm.findClass RX0 = some m.cls := findClass_of_methodNamed B.named
  have hlocks := B.notSynchronized
  subst hsz
  have hD : va_D A (wX0_ruleNumber cy aB qB vB vB_ruleNumbers) := by rw [← hAe]; exact hD0.self
  have hA : ∀ q : Nat, s.heap.size ≤ q → A q := fun q h => by rw [← hAe]; exact Or.inr h
  have hS : va_S A s.heap s.heap [] := va_S.rf
  have hl := lv_entry ([.ref aB, .int x1]) (n := 2) (Nat.le_of_ble_eq_true rfl)
  rw [lg_entry_eq]
  generalize (lg_sl ([.ref aB, .int x1]) ++ List.replicate (2 - (lg_sl ([.ref aB, .int x1])).length) Slot.unset).toArray = ls at hl ⊢
  have hl : lv_has ls 2 [(0, .ref aB), (1, .int x1)] := hl
  generalize hQe : MQ below (kQi D cy zr A (wX0_ruleNumber cy aB qB vB vB_ruleNumbers)) ([.ref aB, .int x1] : List Value).toArray s 0 0 A = Q
  have J29 : ∀ (t0_29 : Int32), ∀ (H : Heap) (locs : List Loc) (ls : Array Slot), va_P D vwCl (wX0_ruleNumber cy aB qB vB vB_ruleNumbers) H → va_D A (wX0_ruleNumber cy aB qB vB vB_ruleNumbers) → va_S A s.heap H locs → lv_has ls 2 [] → fX0_ruleNumber_J29 t0_29 = some zr → W p l e ({ frames := 0, cells := 0, slots := 0, locals := 0 } : Room) s m ([.ref aB, .int x1] : List Value).toArray below meth c H locs 0 0 Q (F0 m 29 ls [.int t0_29]) := by
    intro t0_29 H locs ls hP hD hS hl hok
    unfold fX0_ruleNumber_J29 at hok
    cases hok
    subst hQe; exact W.iret hx hb hr (fun t ht hW => ⟨⟨_, (), rfl, rfl, by rw [ht]; exact hP, va_K.moved hW.alike hK, hD⟩, hS.F ht⟩) hS.2.2 dX0_ruleNumber_29
  have J28 : ∀ (H : Heap) (locs : List Loc) (ls : Array Slot), va_P D vwCl (wX0_ruleNumber cy aB qB vB vB_ruleNumbers) H → va_D A (wX0_ruleNumber cy aB qB vB vB_ruleNumbers) → va_S A s.heap H locs → lv_has ls 2 [] → fX0_ruleNumber_J28 = some zr → W p l e ({ frames := 0, cells := 0, slots := 0, locals := 0 } : Room) s m ([.ref aB, .int x1] : List Value).toArray below meth c H locs 0 0 Q (F0 m 28 ls []) := by
    intro  H locs ls hP hD hS hl hok
    unfold fX0_ruleNumber_J28 at hok
    refine lv_iconst (v := 0) hx hb dX0_ruleNumber_28 (by decide) ?_
    exact J29 (0 : Int32) H locs ls hP hD hS (lv_sub hl [] rfl) hok
  unfold fX0_ruleNumber at hok
  obtain ⟨H, hH⟩ : ∃ H, H = s.heap := ⟨_, rfl⟩
  obtain ⟨locs, hlc⟩ : ∃ x : List Loc, x = [] := ⟨_, rfl⟩
  have hP : va_P D vwCl (wX0_ruleNumber cy aB qB vB vB_ruleNumbers) H := by rw [hH]; exact hP
  have hS : va_S A s.heap H locs := by rw [hH, hlc]; exact hS
  rw [show W p l e _ s m _ below meth c s.heap [] = W p l e _ s m _ below meth c H locs from by rw [hH, hlc]]
  refine lv_iload_n hx hb dX0_ruleNumber_0 rfl (lv_at hl 1 rfl) ?_
  refine lv_if_lt (tgt := 28) hx hb dX0_ruleNumber_1 (by decide) (fun c1 => ?_) (fun c1 => ?_)
  · have hok := k_pos c1 hok
    exact J28  H locs ls hP hD hS (lv_sub hl [] rfl) hok
  · have hok := k_neg c1 hok
    refine lv_iload_n hx hb dX0_ruleNumber_4 rfl (lv_at hl 1 rfl) ?_
    refine lv_aload_n hx hb dX0_ruleNumber_5 rfl (lv_at hl 0 rfl) ?_
    refine va_get (D := D) (ci := 0) (v := .int (vB 2)) (C := RX0) (T := TX0) (N := 6) hx hb ht0 niX0 hown hK hP 0 rfl rfl 2 (by decide) (ht0 _ wd4) (fun _ h9 => h9) rfl dX0_ruleNumber_6 ?_
    refine lv_icmp_ge (tgt := 28) hx hb dX0_ruleNumber_9 (by decide) (fun c9 => ?_) (fun c9 => ?_)
    · have hok := k_pos c9 hok
      exact J28  H locs ls hP hD hS (lv_sub hl [] rfl) hok
    · have hok := k_neg c9 hok
      refine lv_iload_n hx hb dX0_ruleNumber_12 rfl (lv_at hl 1 rfl) ?_
      refine lv_sipush (v := 572) hx hb dX0_ruleNumber_13 (by decide) ?_
      refine lv_icmp_ge (tgt := 28) hx hb dX0_ruleNumber_16 (by decide) (fun c16 => ?_) (fun c16 => ?_)
      · have hok := k_pos c16 hok
        exact J28  H locs ls hP hD hS (lv_sub hl [] rfl) hok
      · have hok := k_neg c16 hok
        refine lv_aload_n hx hb dX0_ruleNumber_19 rfl (lv_at hl 0 rfl) ?_
        refine va_get (D := D) (ci := 0) (v := .ref (qB 0)) (C := RX0) (T := TX0) (N := 6) hx hb ht0 niX0 hown hK hP 0 rfl rfl 0 (by decide) (ht0 _ wd5) (fun _ h9 => h9) rfl dX0_ruleNumber_20 ?_
        refine lv_iload_n hx hb dX0_ruleNumber_23 rfl (lv_at hl 1 rfl) ?_
        obtain ⟨g24, hok⟩ := gd_some hok
        refine va_iald hx hb hK hP 1 0 rfl rfl (okI_in g24) dX0_ruleNumber_24 ?_
        refine lv_goto (tgt := 29) hx hb dX0_ruleNumber_25 (by decide) ?_
        exact J29 (vB_ruleNumbers x1.toNatClampNeg) H locs ls hP hD hS (lv_sub hl [] rfl) hok
def wsX0_placeBy : List Cond := .code yX0_placeBy cX0_placeBy 3 (some .int) :: W0
abbrev wX0_placeBy (cy : Nat → ClassId)  : va_W := []
set_option maxHeartbeats 4000000 in
set_option maxRecDepth 100000 in
theorem kX0_placeBy (l : Launch) (D : va_G) (cy : Nat → ClassId) (sz : Nat) (x0 : Int32) (x1 : Int32) (zr : Int32) (hok : fX0_placeBy x0 x1 = some zr) (A : Nat → Prop) (hAe : va_A (wX0_placeBy cy ) sz = A) : Met l yX0_placeBy wsX0_placeBy ({ frames := 0, cells := 0, slots := 0, locals := 0 } : Room) (kPre D cy [.int x0, .int x1] (wX0_placeBy cy ) sz) (kQi D cy zr A (wX0_placeBy cy )) 0 0 A := by
  refine Met.ofW (cc := cX0_placeBy) (maxL := 3) (ret := (some .int)) (by decide) rfl ?_
  intro p e s m args below meth c s₁ B hml hv
  obtain ⟨rfl, hsz, hP, hK, hD0, hN⟩ := hv
  have hx := B.exec
  have hb := B.bytes
  have hr := B.returns
  have ht0 : ∀ w ∈ W0, w.before _ s = true := fun w h => atoms_spec (ws := wsX0_placeBy) B.pre w (List.mem_cons_of_mem _ h)
  have hown : s.vm.findClass RX0 = some m.cls := findClass_of_methodNamed B.named
  have hlocks := B.notSynchronized
  subst hsz
  have hD : va_D A (wX0_placeBy cy ) := by rw [← hAe]; exact hD0.self
  have hA : ∀ q : Nat, s.heap.size ≤ q → A q := fun q h => by rw [← hAe]; exact Or.inr h
  have hS : va_S A s.heap s.heap [] := va_S.rf
  have hl := lv_entry ([.int x0, .int x1]) (n := 3) (Nat.le_of_ble_eq_true rfl)
  rw [lg_entry_eq]
  generalize (lg_sl ([.int x0, .int x1]) ++ List.replicate (3 - (lg_sl ([.int x0, .int x1])).length) Slot.unset).toArray = ls at hl ⊢
  have hl : lv_has ls 3 [(0, .int x0), (1, .int x1)] := hl
  unfold fX0_placeBy at hok
  obtain ⟨H, hH⟩ : ∃ H, H = s.heap := ⟨_, rfl⟩
  obtain ⟨locs, hlc⟩ : ∃ x : List Loc, x = [] := ⟨_, rfl⟩
  have hP : va_P D vwCl (wX0_placeBy cy ) H := by rw [hH]; exact hP
  have hS : va_S A s.heap H locs := by rw [hH, hlc]; exact hS
  rw [show W p l e _ s m _ below meth c s.heap [] = W p l e _ s m _ below meth c H locs from by rw [hH, hlc]]
  refine lv_iload_n hx hb dX0_placeBy_0 rfl (lv_at hl 0 rfl) ?_
  refine lv_sipush (v := 10000) hx hb dX0_placeBy_1 (by decide) ?_
  refine lv_idiv hx hb dX0_placeBy_4 (by decide) ?_
  refine lv_istore_n (lv' := [(2, .int (x0 / (10000 : Int32))), (0, .int x0), (1, .int x1)]) hx hb dX0_placeBy_5 rfl hl (by decide) rfl (fun ls hl => ?_)
  refine lv_iload_n hx hb dX0_placeBy_6 rfl (lv_at hl 0 rfl) ?_
  refine lv_if_gt (tgt := 12) hx hb dX0_placeBy_7 (by decide) (fun c7 => ?_) (fun c7 => ?_)
  · have hok := k_pos c7 hok
    refine lv_iload_n hx hb dX0_placeBy_12 rfl (lv_at hl 1 rfl) ?_
    refine lv_bipush (v := 100) hx hb dX0_placeBy_13 (by decide) ?_
    refine lv_irem hx hb dX0_placeBy_15 (by decide) ?_
    refine lv_iload_n hx hb dX0_placeBy_16 rfl (lv_at hl 1 rfl) ?_
    refine lv_bipush (v := 100) hx hb dX0_placeBy_17 (by decide) ?_
    refine lv_idiv hx hb dX0_placeBy_19 (by decide) ?_
    refine lv_bipush (v := 100) hx hb dX0_placeBy_20 (by decide) ?_
    refine lv_irem hx hb dX0_placeBy_22 (by decide) ?_
    refine lv_iload_n hx hb dX0_placeBy_23 rfl (lv_at hl 2 rfl) ?_
    refine lv_imul hx hb dX0_placeBy_24 ?_
    refine lv_iadd hx hb dX0_placeBy_25 ?_
    refine lv_iload_n hx hb dX0_placeBy_26 rfl (lv_at hl 0 rfl) ?_
    obtain ⟨g27, hok⟩ := gd_some hok
    refine lv_irem hx hb dX0_placeBy_27 (nzI_ne g27) ?_
    cases hok
    exact W.iret hx hb hr (fun t ht hW => ⟨⟨_, (), rfl, rfl, by rw [ht]; exact hP, va_K.moved hW.alike hK, hD⟩, hS.F ht⟩) hS.2.2 dX0_placeBy_28
  · have hok := k_neg c7 hok
    refine lv_iconst (v := 0) hx hb dX0_placeBy_10 (by decide) ?_
    cases hok
    exact W.iret hx hb hr (fun t ht hW => ⟨⟨_, (), rfl, rfl, by rw [ht]; exact hP, va_K.moved hW.alike hK, hD⟩, hS.F ht⟩) hS.2.2 dX0_placeBy_11
def wsX0_countAt : List Cond := .code yX0_countAt cX0_countAt 5 (some .int) :: W0
abbrev wX0_countAt (cy : Nat → ClassId) (aB : Nat) (qB : Nat → Nat) (vB : Nat → Int32) (vB_ruleNumbers : Nat → Int32) : va_W := [(aB, oX0 vB qB), (qB 0, rI cy 572 vB_ruleNumbers)]
set_option maxHeartbeats 4000000 in
set_option maxRecDepth 100000 in
theorem kX0_countAt (l : Launch) (D : va_G) (cy : Nat → ClassId) (sz : Nat) (aB : Nat) (qB : Nat → Nat) (vB : Nat → Int32) (vB_ruleNumbers : Nat → Int32) (x1 : Int32) (x2 : Int32) (zr : Int32) (hok : fX0_countAt vB vB_ruleNumbers x1 x2 = some zr) (A : Nat → Prop) (hAe : va_A (wX0_countAt cy aB qB vB vB_ruleNumbers) sz = A) : Met l yX0_countAt wsX0_countAt ({ frames := 1, cells := 0, slots := 0, locals := 22 } : Room) (kPre D cy [.ref aB, .int x1, .int x2] (wX0_countAt cy aB qB vB vB_ruleNumbers) sz) (kQi D cy zr A (wX0_countAt cy aB qB vB vB_ruleNumbers)) 0 0 A := by
  refine Met.ofW (cc := cX0_countAt) (maxL := 5) (ret := (some .int)) (by decide) rfl ?_
  intro p e s m args below meth c s₁ B hml hv
  obtain ⟨rfl, hsz, hP, hK, hD0, hN⟩ := hv
  have hx := B.exec
  have hb := B.bytes
  have hr := B.returns
  have ht0 : ∀ w ∈ W0, w.before _ s = true := fun w h => atoms_spec (ws := wsX0_countAt) B.pre w (List.mem_cons_of_mem _ h)
  have hown : s.vm.findClass RX0 = some m.cls := findClass_of_methodNamed B.named
  have hlocks := B.notSynchronized
  subst hsz
  have hD : va_D A (wX0_countAt cy aB qB vB vB_ruleNumbers) := by rw [← hAe]; exact hD0.self
  have hA : ∀ q : Nat, s.heap.size ≤ q → A q := fun q h => by rw [← hAe]; exact Or.inr h
  have hS : va_S A s.heap s.heap [] := va_S.rf
  have hl := lv_entry ([.ref aB, .int x1, .int x2]) (n := 5) (Nat.le_of_ble_eq_true rfl)
  rw [lg_entry_eq]
  generalize (lg_sl ([.ref aB, .int x1, .int x2]) ++ List.replicate (5 - (lg_sl ([.ref aB, .int x1, .int x2])).length) Slot.unset).toArray = ls at hl ⊢
  have hl : lv_has ls 5 [(0, .ref aB), (1, .int x1), (2, .int x2)] := hl
  generalize hQe : MQ below (kQi D cy zr A (wX0_countAt cy aB qB vB vB_ruleNumbers)) ([.ref aB, .int x1, .int x2] : List Value).toArray s 0 0 A = Q
  have L5 : ∀ (fuel : Nat) (y3_5 : Int32) (y4_5 : Int32), ∀ (H : Heap) (locs : List Loc) (ls : Array Slot), va_P D vwCl (wX0_countAt cy aB qB vB vB_ruleNumbers) H → va_D A (wX0_countAt cy aB qB vB vB_ruleNumbers) → va_S A s.heap H locs → lv_has ls 5 [(0, .ref aB), (1, .int x1), (2, .int x2), (3, .int y3_5), (4, .int y4_5)] → lp (fX0_countAt_B5 vB vB_ruleNumbers x1 x2) fuel (y3_5, y4_5) = some zr → W p l e ({ frames := 1, cells := 0, slots := 0, locals := 22 } : Room) s m ([.ref aB, .int x1, .int x2] : List Value).toArray below meth c H locs 0 0 Q (F0 m 5 ls []) := by
    intro fuel
    induction fuel with
    | zero => intro y3_5 y4_5 H locs ls hP hD hS hl hok; exact (lp_0 hok).elim
    | succ fuel ih5 =>
      intro y3_5 y4_5 H locs ls hP hD hS hl hok
      obtain ⟨y5, hok, hL5, hR5⟩ := lp_step hok
      have J34 : ∀ (t0_34 : Int32), ∀ (H : Heap) (locs : List Loc) (ls : Array Slot), va_P D vwCl (wX0_countAt cy aB qB vB vB_ruleNumbers) H → va_D A (wX0_countAt cy aB qB vB vB_ruleNumbers) → va_S A s.heap H locs → lv_has ls 5 [(0, .ref aB), (1, .int x1), (2, .int x2), (4, .int y4_5)] → fX0_countAt_J34 y3_5 y4_5 t0_34 = some y5 → W p l e ({ frames := 1, cells := 0, slots := 0, locals := 22 } : Room) s m ([.ref aB, .int x1, .int x2] : List Value).toArray below meth c H locs 0 0 Q (F0 m 34 ls [.int t0_34, .int y3_5]) := by
        intro t0_34 H locs ls hP hD hS hl hok
        unfold fX0_countAt_J34 at hok
        refine lv_iadd hx hb dX0_countAt_34 ?_
        refine lv_istore_n (lv' := [(3, .int (y3_5 + t0_34)), (0, .ref aB), (1, .int x1), (2, .int x2), (4, .int y4_5)]) hx hb dX0_countAt_35 rfl hl (by decide) rfl (fun ls hl => ?_)
        refine lv_iinc (v := (y4_5 + 1)) (lv' := [(4, .int (y4_5 + 1)), (3, .int (y3_5 + t0_34)), (0, .ref aB), (1, .int x1), (2, .int x2)]) hx hb dX0_countAt_36 hl (k := 4) rfl (by first | rfl | decide) (by decide) rfl (fun ls hl => ?_)
        refine lv_goto (tgt := 5) hx hb dX0_countAt_39 (by decide) ?_
        exact ih5 (y3_5 + t0_34) (y4_5 + 1) H locs ls hP hD hS (lv_sub hl [2, 3, 4, 1, 0] rfl) (hR5 _ (Option.some.inj hok).symm)
      unfold fX0_countAt_B5 at hok
      try dsimp only at hok
      refine lv_iload hx hb dX0_countAt_5 (lv_at hl 4 rfl) ?_
      refine lv_aload_n hx hb dX0_countAt_7 rfl (lv_at hl 0 rfl) ?_
      refine va_get (D := D) (ci := 0) (v := .int (vB 2)) (C := RX0) (T := TX0) (N := 6) hx hb ht0 niX0 hown hK hP 0 rfl rfl 2 (by decide) (ht0 _ wd4) (fun _ h9 => h9) rfl dX0_countAt_8 ?_
      refine lv_icmp_ge (tgt := 42) hx hb dX0_countAt_11 (by decide) (fun c11 => ?_) (fun c11 => ?_)
      · have hok := k_pos c11 hok
        obtain ⟨e5, hok, he5⟩ := ex_some hok
        have hok := hok.trans (congrArg some (hL5 _ he5))
        refine lv_iload_n hx hb dX0_countAt_42 rfl (lv_at hl 3 rfl) ?_
        cases hok
        subst hQe; exact W.iret hx hb hr (fun t ht hW => ⟨⟨_, (), rfl, rfl, by rw [ht]; exact hP, va_K.moved hW.alike hK, hD⟩, hS.F ht⟩) hS.2.2 dX0_countAt_43
      · have hok := k_neg c11 hok
        refine lv_iload_n hx hb dX0_countAt_14 rfl (lv_at hl 3 rfl) ?_
        refine lv_aload_n hx hb dX0_countAt_15 rfl (lv_at hl 0 rfl) ?_
        refine lv_iload hx hb dX0_countAt_16 (lv_at hl 4 rfl) ?_
        obtain ⟨r18, hc18, hok⟩ := k_bind hok
        refine kCi (wc := (wX0_ruleNumber cy aB qB vB vB_ruleNumbers)) (wc2 := (wX0_ruleNumber cy aB qB vB vB_ruleNumbers)) (wr := []) (ws2 := (wX0_countAt cy aB qB vB vB_ruleNumbers)) (kRunV (As := [.int y4_5]) (rest := [.int y3_5]) ⟨hx, hb, hml, hown, ht0⟩ (kX0_ruleNumber l D cy _ aB qB vB vB_ruleNumbers y4_5 r18 hc18 _ rfl) (cwV 1 ht0 (gV wd17 wd18 wd19 wd14 wd20) rfl rfl rfl (by decide +kernel) ⟨Nat.le_of_ble_eq_true rfl, Nat.le_of_ble_eq_true rfl⟩) hK hN hP hD [0, 1] rfl (by decide) 0 0 rfl rfl rfl hl.1 rfl (Nat.le_of_ble_eq_true rfl) dX0_countAt_18 ⟨Nat.zero_le _, Nat.zero_le _⟩) hP hD hS hA [0, 1] [] rfl rfl (by decide) (by decide) [0, 1] (by decide) rfl rfl (fun H locs hP hD hS => ?_)
        refine lv_iload_n hx hb dX0_countAt_21 rfl (lv_at hl 1 rfl) ?_
        obtain ⟨r22, hc22, hok⟩ := k_bind hok
        refine kCi (wc := (wX0_placeBy cy )) (wc2 := (wX0_placeBy cy )) (wr := [(aB, oX0 vB qB), (qB 0, rI cy 572 vB_ruleNumbers)]) (ws2 := (wX0_countAt cy aB qB vB vB_ruleNumbers)) (kRunS (As := [.int r18, .int x1]) (rest := [.int y3_5]) ⟨hx, hb, hml, hown, ht0⟩ (kX0_placeBy l D cy _ r18 x1 r22 hc22 _ rfl) (va_cwS 2 ht0 (gS wd21 wd22 wd14 wd23) rfl rfl rfl (by decide +kernel) ⟨Nat.le_of_ble_eq_true rfl, Nat.le_of_ble_eq_true rfl⟩) hK hN hP hD [] rfl (by decide) rfl hl.1 rfl (Nat.le_of_ble_eq_true rfl) dX0_countAt_22 ⟨Nat.zero_le _, Nat.zero_le _⟩) hP hD hS hA [] [0, 1] rfl rfl (by decide) (by decide) [0, 1] (by decide) rfl rfl (fun H locs hP hD hS => ?_)
        refine lv_iload_n hx hb dX0_countAt_25 rfl (lv_at hl 2 rfl) ?_
        refine lv_icmp_ne (tgt := 33) hx hb dX0_countAt_26 (by decide) (fun c26 => ?_) (fun c26 => ?_)
        · have hok := k_neg c26 hok
          refine lv_iconst (v := 0) hx hb dX0_countAt_33 (by decide) ?_
          exact J34 (0 : Int32) H locs ls hP hD hS (lv_sub hl [0, 1, 2, 4] rfl) hok
        · have hok := k_pos c26 hok
          refine lv_iconst (v := 1) hx hb dX0_countAt_29 (by decide) ?_
          refine lv_goto (tgt := 34) hx hb dX0_countAt_30 (by decide) ?_
          exact J34 (1 : Int32) H locs ls hP hD hS (lv_sub hl [0, 1, 2, 4] rfl) hok
  unfold fX0_countAt at hok
  obtain ⟨H, hH⟩ : ∃ H, H = s.heap := ⟨_, rfl⟩
  obtain ⟨locs, hlc⟩ : ∃ x : List Loc, x = [] := ⟨_, rfl⟩
  have hP : va_P D vwCl (wX0_countAt cy aB qB vB vB_ruleNumbers) H := by rw [hH]; exact hP
  have hS : va_S A s.heap H locs := by rw [hH, hlc]; exact hS
  rw [show W p l e _ s m _ below meth c s.heap [] = W p l e _ s m _ below meth c H locs from by rw [hH, hlc]]
  refine lv_iconst (v := 0) hx hb dX0_countAt_0 (by decide) ?_
  refine lv_istore_n (lv' := [(3, .int 0), (0, .ref aB), (1, .int x1), (2, .int x2)]) hx hb dX0_countAt_1 rfl hl (by decide) rfl (fun ls hl => ?_)
  refine lv_iconst (v := 0) hx hb dX0_countAt_2 (by decide) ?_
  refine lv_istore (lv' := [(4, .int 0), (3, .int 0), (0, .ref aB), (1, .int x1), (2, .int x2)]) hx hb dX0_countAt_3 hl (by decide) rfl (fun ls hl => ?_)
  exact L5 5000 (0 : Int32) (0 : Int32) H locs ls hP hD hS (lv_sub hl [2, 3, 4, 1, 0] rfl) hok
def wsX0_isSure : List Cond := .code yX0_isSure cX0_isSure 3 (some .boolean) :: W0
abbrev wX0_isSure (cy : Nat → ClassId) (aB : Nat) (qB : Nat → Nat) (vB : Nat → Int32) (vB_ruleNumbers : Nat → Int32) : va_W := [(aB, oX0 vB qB), (qB 0, rI cy 572 vB_ruleNumbers)]
set_option maxHeartbeats 4000000 in
set_option maxRecDepth 100000 in
theorem kX0_isSure (l : Launch) (D : va_G) (cy : Nat → ClassId) (sz : Nat) (aB : Nat) (qB : Nat → Nat) (vB : Nat → Int32) (vB_ruleNumbers : Nat → Int32) (x1 : Int32) (zr : Int32) (hok : fX0_isSure vB vB_ruleNumbers x1 = some zr) (A : Nat → Prop) (hAe : va_A (wX0_isSure cy aB qB vB vB_ruleNumbers) sz = A) : Met l yX0_isSure wsX0_isSure ({ frames := 1, cells := 0, slots := 0, locals := 22 } : Room) (kPre D cy [.ref aB, .int x1] (wX0_isSure cy aB qB vB vB_ruleNumbers) sz) (kQi D cy zr A (wX0_isSure cy aB qB vB vB_ruleNumbers)) 0 0 A := by
  refine Met.ofW (cc := cX0_isSure) (maxL := 3) (ret := (some .boolean)) (by decide) rfl ?_
  intro p e s m args below meth c s₁ B hml hv
  obtain ⟨rfl, hsz, hP, hK, hD0, hN⟩ := hv
  have hx := B.exec
  have hb := B.bytes
  have hr := B.returns
  have ht0 : ∀ w ∈ W0, w.before _ s = true := fun w h => atoms_spec (ws := wsX0_isSure) B.pre w (List.mem_cons_of_mem _ h)
  have hown : s.vm.findClass RX0 = some m.cls := findClass_of_methodNamed B.named
  have hlocks := B.notSynchronized
  subst hsz
  have hD : va_D A (wX0_isSure cy aB qB vB vB_ruleNumbers) := by rw [← hAe]; exact hD0.self
  have hA : ∀ q : Nat, s.heap.size ≤ q → A q := fun q h => by rw [← hAe]; exact Or.inr h
  have hS : va_S A s.heap s.heap [] := va_S.rf
  have hl := lv_entry ([.ref aB, .int x1]) (n := 3) (Nat.le_of_ble_eq_true rfl)
  rw [lg_entry_eq]
  generalize (lg_sl ([.ref aB, .int x1]) ++ List.replicate (3 - (lg_sl ([.ref aB, .int x1])).length) Slot.unset).toArray = ls at hl ⊢
  have hl : lv_has ls 3 [(0, .ref aB), (1, .int x1)] := hl
  generalize hQe : MQ below (kQi D cy zr A (wX0_isSure cy aB qB vB vB_ruleNumbers)) ([.ref aB, .int x1] : List Value).toArray s 0 0 A = Q
  have L2 : ∀ (fuel : Nat) (y2_2 : Int32), ∀ (H : Heap) (locs : List Loc) (ls : Array Slot), va_P D vwCl (wX0_isSure cy aB qB vB vB_ruleNumbers) H → va_D A (wX0_isSure cy aB qB vB vB_ruleNumbers) → va_S A s.heap H locs → lv_has ls 3 [(0, .ref aB), (1, .int x1), (2, .int y2_2)] → lp (fX0_isSure_B2 vB vB_ruleNumbers x1) fuel y2_2 = some zr → W p l e ({ frames := 1, cells := 0, slots := 0, locals := 22 } : Room) s m ([.ref aB, .int x1] : List Value).toArray below meth c H locs 0 0 Q (F0 m 2 ls []) := by
    intro fuel
    induction fuel with
    | zero => intro y2_2 H locs ls hP hD hS hl hok; exact (lp_0 hok).elim
    | succ fuel ih2 =>
      intro y2_2 H locs ls hP hD hS hl hok
      obtain ⟨y2, hok, hL2, hR2⟩ := lp_step hok
      unfold fX0_isSure_B2 at hok
      refine lv_iload_n hx hb dX0_isSure_2 rfl (lv_at hl 2 rfl) ?_
      refine lv_aload_n hx hb dX0_isSure_3 rfl (lv_at hl 0 rfl) ?_
      refine va_get (D := D) (ci := 0) (v := .int (vB 2)) (C := RX0) (T := TX0) (N := 6) hx hb ht0 niX0 hown hK hP 0 rfl rfl 2 (by decide) (ht0 _ wd4) (fun _ h9 => h9) rfl dX0_isSure_4 ?_
      refine lv_icmp_ge (tgt := 30) hx hb dX0_isSure_7 (by decide) (fun c7 => ?_) (fun c7 => ?_)
      · have hok := k_pos c7 hok
        obtain ⟨e2, hok, he2⟩ := ex_some hok
        have hok := hok.trans (congrArg some (hL2 _ he2))
        refine lv_iconst (v := 1) hx hb dX0_isSure_30 (by decide) ?_
        cases hok
        subst hQe; exact W.zret hx hb hr rfl (fun t ht hW => ⟨⟨_, (), rfl, rfl, by rw [ht]; exact hP, va_K.moved hW.alike hK, hD⟩, hS.F ht⟩) hS.2.2 dX0_isSure_31
      · have hok := k_neg c7 hok
        refine lv_aload_n hx hb dX0_isSure_10 rfl (lv_at hl 0 rfl) ?_
        refine lv_iload_n hx hb dX0_isSure_11 rfl (lv_at hl 2 rfl) ?_
        obtain ⟨r12, hc12, hok⟩ := k_bind hok
        refine kCi (wc := (wX0_ruleNumber cy aB qB vB vB_ruleNumbers)) (wc2 := (wX0_ruleNumber cy aB qB vB vB_ruleNumbers)) (wr := []) (ws2 := (wX0_isSure cy aB qB vB vB_ruleNumbers)) (kRunV (As := [.int y2_2]) (rest := []) ⟨hx, hb, hml, hown, ht0⟩ (kX0_ruleNumber l D cy _ aB qB vB vB_ruleNumbers y2_2 r12 hc12 _ rfl) (cwV 1 ht0 (gV wd17 wd18 wd19 wd14 wd20) rfl rfl rfl (by decide +kernel) ⟨Nat.le_of_ble_eq_true rfl, Nat.le_of_ble_eq_true rfl⟩) hK hN hP hD [0, 1] rfl (by decide) 0 0 rfl rfl rfl hl.1 rfl (Nat.le_of_ble_eq_true rfl) dX0_isSure_12 ⟨Nat.zero_le _, Nat.zero_le _⟩) hP hD hS hA [0, 1] [] rfl rfl (by decide) (by decide) [0, 1] (by decide) rfl rfl (fun H locs hP hD hS => ?_)
        refine lv_iload_n hx hb dX0_isSure_15 rfl (lv_at hl 1 rfl) ?_
        obtain ⟨r16, hc16, hok⟩ := k_bind hok
        refine kCi (wc := (wX0_placeBy cy )) (wc2 := (wX0_placeBy cy )) (wr := [(aB, oX0 vB qB), (qB 0, rI cy 572 vB_ruleNumbers)]) (ws2 := (wX0_isSure cy aB qB vB vB_ruleNumbers)) (kRunS (As := [.int r12, .int x1]) (rest := []) ⟨hx, hb, hml, hown, ht0⟩ (kX0_placeBy l D cy _ r12 x1 r16 hc16 _ rfl) (va_cwS 2 ht0 (gS wd21 wd22 wd14 wd23) rfl rfl rfl (by decide +kernel) ⟨Nat.le_of_ble_eq_true rfl, Nat.le_of_ble_eq_true rfl⟩) hK hN hP hD [] rfl (by decide) rfl hl.1 rfl (Nat.le_of_ble_eq_true rfl) dX0_isSure_16 ⟨Nat.zero_le _, Nat.zero_le _⟩) hP hD hS hA [] [0, 1] rfl rfl (by decide) (by decide) [0, 1] (by decide) rfl rfl (fun H locs hP hD hS => ?_)
        refine lv_if_eq (tgt := 24) hx hb dX0_isSure_19 (by decide) (fun c19 => ?_) (fun c19 => ?_)
        · have hok := k_pos c19 hok
          refine lv_iinc (v := (y2_2 + 1)) (lv' := [(2, .int (y2_2 + 1)), (0, .ref aB), (1, .int x1)]) hx hb dX0_isSure_24 hl (k := 2) rfl (by first | rfl | decide) (by decide) rfl (fun ls hl => ?_)
          refine lv_goto (tgt := 2) hx hb dX0_isSure_27 (by decide) ?_
          exact ih2 (y2_2 + 1) H locs ls hP hD hS (lv_sub hl [1, 2, 0] rfl) (hR2 _ (Option.some.inj hok).symm)
        · have hok := k_neg c19 hok
          obtain ⟨e2, hok, he2⟩ := ex_some hok
          have hok := hok.trans (congrArg some (hL2 _ he2))
          refine lv_iconst (v := 0) hx hb dX0_isSure_22 (by decide) ?_
          cases hok
          subst hQe; exact W.zret hx hb hr rfl (fun t ht hW => ⟨⟨_, (), rfl, rfl, by rw [ht]; exact hP, va_K.moved hW.alike hK, hD⟩, hS.F ht⟩) hS.2.2 dX0_isSure_23
  unfold fX0_isSure at hok
  obtain ⟨H, hH⟩ : ∃ H, H = s.heap := ⟨_, rfl⟩
  obtain ⟨locs, hlc⟩ : ∃ x : List Loc, x = [] := ⟨_, rfl⟩
  have hP : va_P D vwCl (wX0_isSure cy aB qB vB vB_ruleNumbers) H := by rw [hH]; exact hP
  have hS : va_S A s.heap H locs := by rw [hH, hlc]; exact hS
  rw [show W p l e _ s m _ below meth c s.heap [] = W p l e _ s m _ below meth c H locs from by rw [hH, hlc]]
  refine lv_iconst (v := 0) hx hb dX0_isSure_0 (by decide) ?_
  refine lv_istore_n (lv' := [(2, .int 0), (0, .ref aB), (1, .int x1)]) hx hb dX0_isSure_1 rfl hl (by decide) rfl (fun ls hl => ?_)
  exact L2 5000 (0 : Int32) H locs ls hP hD hS (lv_sub hl [1, 2, 0] rfl) hok
def wsX0_firstSure : List Cond := .code yX0_firstSure cX0_firstSure 3 (some .int) :: W0
abbrev wX0_firstSure (cy : Nat → ClassId) (aB : Nat) (qB : Nat → Nat) (vB : Nat → Int32) (vB_ruleNumbers : Nat → Int32) : va_W := [(aB, oX0 vB qB), (qB 0, rI cy 572 vB_ruleNumbers)]
set_option maxHeartbeats 4000000 in
set_option maxRecDepth 100000 in
theorem kX0_firstSure (l : Launch) (D : va_G) (cy : Nat → ClassId) (sz : Nat) (aB : Nat) (qB : Nat → Nat) (vB : Nat → Int32) (vB_ruleNumbers : Nat → Int32) (x1 : Int32) (zr : Int32) (hok : fX0_firstSure vB vB_ruleNumbers x1 = some zr) (A : Nat → Prop) (hAe : va_A (wX0_firstSure cy aB qB vB vB_ruleNumbers) sz = A) : Met l yX0_firstSure wsX0_firstSure ({ frames := 2, cells := 0, slots := 0, locals := 44 } : Room) (kPre D cy [.ref aB, .int x1] (wX0_firstSure cy aB qB vB vB_ruleNumbers) sz) (kQi D cy zr A (wX0_firstSure cy aB qB vB vB_ruleNumbers)) 0 0 A := by
  refine Met.ofW (cc := cX0_firstSure) (maxL := 3) (ret := (some .int)) (by decide) rfl ?_
  intro p e s m args below meth c s₁ B hml hv
  obtain ⟨rfl, hsz, hP, hK, hD0, hN⟩ := hv
  have hx := B.exec
  have hb := B.bytes
  have hr := B.returns
  have ht0 : ∀ w ∈ W0, w.before _ s = true := fun w h => atoms_spec (ws := wsX0_firstSure) B.pre w (List.mem_cons_of_mem _ h)
  have hown : s.vm.findClass RX0 = some m.cls := findClass_of_methodNamed B.named
  have hlocks := B.notSynchronized
  subst hsz
  have hD : va_D A (wX0_firstSure cy aB qB vB vB_ruleNumbers) := by rw [← hAe]; exact hD0.self
  have hA : ∀ q : Nat, s.heap.size ≤ q → A q := fun q h => by rw [← hAe]; exact Or.inr h
  have hS : va_S A s.heap s.heap [] := va_S.rf
  have hl := lv_entry ([.ref aB, .int x1]) (n := 3) (Nat.le_of_ble_eq_true rfl)
  rw [lg_entry_eq]
  generalize (lg_sl ([.ref aB, .int x1]) ++ List.replicate (3 - (lg_sl ([.ref aB, .int x1])).length) Slot.unset).toArray = ls at hl ⊢
  have hl : lv_has ls 3 [(0, .ref aB), (1, .int x1)] := hl
  generalize hQe : MQ below (kQi D cy zr A (wX0_firstSure cy aB qB vB vB_ruleNumbers)) ([.ref aB, .int x1] : List Value).toArray s 0 0 A = Q
  have J31 : ∀ (H : Heap) (locs : List Loc) (ls : Array Slot), va_P D vwCl (wX0_firstSure cy aB qB vB vB_ruleNumbers) H → va_D A (wX0_firstSure cy aB qB vB vB_ruleNumbers) → va_S A s.heap H locs → lv_has ls 3 [] → fX0_firstSure_J31 = some zr → W p l e ({ frames := 2, cells := 0, slots := 0, locals := 44 } : Room) s m ([.ref aB, .int x1] : List Value).toArray below meth c H locs 0 0 Q (F0 m 31 ls []) := by
    intro  H locs ls hP hD hS hl hok
    unfold fX0_firstSure_J31 at hok
    refine lv_bipush (v := -2) hx hb dX0_firstSure_31 (by decide) ?_
    cases hok
    subst hQe; exact W.iret hx hb hr (fun t ht hW => ⟨⟨_, (), rfl, rfl, by rw [ht]; exact hP, va_K.moved hW.alike hK, hD⟩, hS.F ht⟩) hS.2.2 dX0_firstSure_33
  have L2 : ∀ (fuel : Nat) (y2_2 : Int32), ∀ (H : Heap) (locs : List Loc) (ls : Array Slot), va_P D vwCl (wX0_firstSure cy aB qB vB vB_ruleNumbers) H → va_D A (wX0_firstSure cy aB qB vB vB_ruleNumbers) → va_S A s.heap H locs → lv_has ls 3 [(0, .ref aB), (2, .int y2_2)] → lp (fX0_firstSure_B2 vB vB_ruleNumbers) fuel y2_2 = some zr → W p l e ({ frames := 2, cells := 0, slots := 0, locals := 44 } : Room) s m ([.ref aB, .int x1] : List Value).toArray below meth c H locs 0 0 Q (F0 m 2 ls []) := by
    intro fuel
    induction fuel with
    | zero => intro y2_2 H locs ls hP hD hS hl hok; exact (lp_0 hok).elim
    | succ fuel ih2 =>
      intro y2_2 H locs ls hP hD hS hl hok
      obtain ⟨y2, hok, hL2, hR2⟩ := lp_step hok
      unfold fX0_firstSure_B2 at hok
      refine lv_iload_n hx hb dX0_firstSure_2 rfl (lv_at hl 1 rfl) ?_
      refine lv_bipush (v := 100) hx hb dX0_firstSure_3 (by decide) ?_
      refine lv_icmp_ge (tgt := 31) hx hb dX0_firstSure_5 (by decide) (fun c5 => ?_) (fun c5 => ?_)
      · have hok := k_pos c5 hok
        obtain ⟨e2, hok, he2⟩ := ex_some hok
        have hok := hok.trans (congrArg some (hL2 _ he2))
        exact J31  H locs ls hP hD hS (lv_sub hl [] rfl) hok
      · have hok := k_neg c5 hok
        refine lv_aload_n hx hb dX0_firstSure_8 rfl (lv_at hl 0 rfl) ?_
        refine va_get (D := D) (ci := 0) (v := .int (vB 2)) (C := RX0) (T := TX0) (N := 6) hx hb ht0 niX0 hown hK hP 0 rfl rfl 2 (by decide) (ht0 _ wd4) (fun _ h9 => h9) rfl dX0_firstSure_9 ?_
        refine lv_if_le (tgt := 31) hx hb dX0_firstSure_12 (by decide) (fun c12 => ?_) (fun c12 => ?_)
        · have hok := k_pos c12 hok
          obtain ⟨e2, hok, he2⟩ := ex_some hok
          have hok := hok.trans (congrArg some (hL2 _ he2))
          exact J31  H locs ls hP hD hS (lv_sub hl [] rfl) hok
        · have hok := k_neg c12 hok
          refine lv_aload_n hx hb dX0_firstSure_15 rfl (lv_at hl 0 rfl) ?_
          refine lv_iload_n hx hb dX0_firstSure_16 rfl (lv_at hl 1 rfl) ?_
          obtain ⟨r17, hc17, hok⟩ := k_bind hok
          refine kCi (wc := (wX0_isSure cy aB qB vB vB_ruleNumbers)) (wc2 := (wX0_isSure cy aB qB vB vB_ruleNumbers)) (wr := []) (ws2 := (wX0_firstSure cy aB qB vB vB_ruleNumbers)) (kRunV (As := [.int y2_2]) (rest := []) ⟨hx, hb, hml, hown, ht0⟩ (kX0_isSure l D cy _ aB qB vB vB_ruleNumbers y2_2 r17 hc17 _ rfl) (cwV 1 ht0 (gV wd24 wd25 wd26 wd14 wd27) rfl rfl rfl (by decide +kernel) ⟨Nat.le_of_ble_eq_true rfl, Nat.le_of_ble_eq_true rfl⟩) hK hN hP hD [0, 1] rfl (by decide) 0 0 rfl rfl rfl hl.1 rfl (Nat.le_of_ble_eq_true rfl) dX0_firstSure_17 ⟨Nat.zero_le _, Nat.zero_le _⟩) hP hD hS hA [0, 1] [] rfl rfl (by decide) (by decide) [0, 1] (by decide) rfl rfl (fun H locs hP hD hS => ?_)
          refine lv_if_eq (tgt := 25) hx hb dX0_firstSure_20 (by decide) (fun c20 => ?_) (fun c20 => ?_)
          · have hok := k_pos c20 hok
            refine lv_iinc (v := (y2_2 + 1)) (lv' := [(2, .int (y2_2 + 1)), (0, .ref aB)]) hx hb dX0_firstSure_25 hl (k := 1) rfl (by first | rfl | decide) (by decide) rfl (fun ls hl => ?_)
            refine lv_goto (tgt := 2) hx hb dX0_firstSure_28 (by decide) ?_
            exact ih2 (y2_2 + 1) H locs ls hP hD hS (lv_sub hl [1, 0] rfl) (hR2 _ (Option.some.inj hok).symm)
          · have hok := k_neg c20 hok
            obtain ⟨e2, hok, he2⟩ := ex_some hok
            have hok := hok.trans (congrArg some (hL2 _ he2))
            refine lv_iload_n hx hb dX0_firstSure_23 rfl (lv_at hl 1 rfl) ?_
            cases hok
            subst hQe; exact W.iret hx hb hr (fun t ht hW => ⟨⟨_, (), rfl, rfl, by rw [ht]; exact hP, va_K.moved hW.alike hK, hD⟩, hS.F ht⟩) hS.2.2 dX0_firstSure_24
  unfold fX0_firstSure at hok
  obtain ⟨H, hH⟩ : ∃ H, H = s.heap := ⟨_, rfl⟩
  obtain ⟨locs, hlc⟩ : ∃ x : List Loc, x = [] := ⟨_, rfl⟩
  have hP : va_P D vwCl (wX0_firstSure cy aB qB vB vB_ruleNumbers) H := by rw [hH]; exact hP
  have hS : va_S A s.heap H locs := by rw [hH, hlc]; exact hS
  rw [show W p l e _ s m _ below meth c s.heap [] = W p l e _ s m _ below meth c H locs from by rw [hH, hlc]]
  refine lv_iload_n hx hb dX0_firstSure_0 rfl (lv_at hl 1 rfl) ?_
  refine lv_istore_n (lv' := [(2, .int x1), (0, .ref aB), (1, .int x1)]) hx hb dX0_firstSure_1 rfl hl (by decide) rfl (fun ls hl => ?_)
  exact L2 5000 x1 H locs ls hP hD hS (lv_sub hl [1, 0] rfl) hok
def wsJ7_fill_53178 : List Cond := .code yJ7_fill_53178 cJ7_fill_53178 4 none :: W0
abbrev wJ7_fill_53178 (cy : Nat → ClassId) (ap0 : Nat) (n0 : Nat) (p0 : Nat → Int32) : va_W := [(ap0, rI cy n0 p0)]
set_option maxHeartbeats 4000000 in
set_option maxRecDepth 100000 in
theorem kJ7_fill_53178 (l : Launch) (D : va_G) (cy : Nat → ClassId) (sz : Nat) (ap0 : Nat) (n0 : Nat) (p0 : Nat → Int32) (x1 : Int32) (z_p0 : Nat → Int32) (hok : fJ7_fill_53178 n0 p0 x1 = some z_p0) (A : Nat → Prop) (hAe : va_A (wJ7_fill_53178 cy ap0 n0 p0) sz = A) : Met l yJ7_fill_53178 wsJ7_fill_53178 ({ frames := 0, cells := 0, slots := 0, locals := 0 } : Room) (kPre D cy [.ref ap0, .int x1] (wJ7_fill_53178 cy ap0 n0 p0) sz) (kQv D cy A (wJ7_fill_53178 cy ap0 n0 z_p0)) 0 0 A := by
  refine Met.ofW (cc := cJ7_fill_53178) (maxL := 4) (ret := none) (by decide) rfl ?_
  intro p e s m args below meth c s₁ B hml hv
  obtain ⟨rfl, hsz, hP, hK, hD0, hN⟩ := hv
  have hx := B.exec
  have hb := B.bytes
  have hr := B.returns
  have ht0 : ∀ w ∈ W0, w.before _ s = true := fun w h => atoms_spec (ws := wsJ7_fill_53178) B.pre w (List.mem_cons_of_mem _ h)
  have hown : s.vm.findClass RJ7 = some m.cls := findClass_of_methodNamed B.named
  have hlocks := B.notSynchronized
  subst hsz
  have hD : va_D A (wJ7_fill_53178 cy ap0 n0 p0) := by rw [← hAe]; exact hD0.self
  have hA : ∀ q : Nat, s.heap.size ≤ q → A q := fun q h => by rw [← hAe]; exact Or.inr h
  have hS : va_S A s.heap s.heap [] := va_S.rf
  have hl := lv_entry ([.ref ap0, .int x1]) (n := 4) (Nat.le_of_ble_eq_true rfl)
  rw [lg_entry_eq]
  generalize (lg_sl ([.ref ap0, .int x1]) ++ List.replicate (4 - (lg_sl ([.ref ap0, .int x1])).length) Slot.unset).toArray = ls at hl ⊢
  have hl : lv_has ls 4 [(0, .ref ap0), (1, .int x1)] := hl
  generalize hQe : MQ below (kQv D cy A (wJ7_fill_53178 cy ap0 n0 z_p0)) ([.ref ap0, .int x1] : List Value).toArray s 0 0 A = Q
  have L5 : ∀ (fuel : Nat) (y2_5 : Int32) (p0_5 : Nat → Int32), ∀ (H : Heap) (locs : List Loc) (ls : Array Slot), va_P D vwCl (wJ7_fill_53178 cy ap0 n0 p0_5) H → va_D A (wJ7_fill_53178 cy ap0 n0 p0_5) → va_S A s.heap H locs → lv_has ls 4 [(0, .ref ap0), (1, .int x1), (2, .int y2_5), (3, .int (nI n0))] → lp (fJ7_fill_53178_B5 n0 x1) fuel (y2_5, p0_5) = some z_p0 → W p l e ({ frames := 0, cells := 0, slots := 0, locals := 0 } : Room) s m ([.ref ap0, .int x1] : List Value).toArray below meth c H locs 0 0 Q (F0 m 5 ls []) := by
    intro fuel
    induction fuel with
    | zero => intro y2_5 p0_5 H locs ls hP hD hS hl hok; exact (lp_0 hok).elim
    | succ fuel ih5 =>
      intro y2_5 p0_5 H locs ls hP hD hS hl hok
      obtain ⟨y5, hok, hL5, hR5⟩ := lp_step hok
      unfold fJ7_fill_53178_B5 at hok
      try dsimp only at hok
      refine lv_iload_n hx hb dJ7_fill_53178_5 rfl (lv_at hl 2 rfl) ?_
      refine lv_iload_n hx hb dJ7_fill_53178_6 rfl (lv_at hl 3 rfl) ?_
      refine lv_icmp_ge (tgt := 20) hx hb dJ7_fill_53178_7 (by decide) (fun c7 => ?_) (fun c7 => ?_)
      · have hok := k_pos c7 hok
        obtain ⟨e5, hok, he5⟩ := ex_some hok
        have hok := hok.trans (congrArg some (hL5 _ he5))
        cases hok
        subst hQe; exact W.vret hx hb hr (fun t ht hW => ⟨⟨(), rfl, trivial, by rw [ht]; exact hP, va_K.moved hW.alike hK, hD⟩, hS.F ht⟩) hS.2.2 dJ7_fill_53178_20
      · have hok := k_neg c7 hok
        refine lv_aload_n hx hb dJ7_fill_53178_10 rfl (lv_at hl 0 rfl) ?_
        refine lv_iload_n hx hb dJ7_fill_53178_11 rfl (lv_at hl 2 rfl) ?_
        refine lv_iload_n hx hb dJ7_fill_53178_12 rfl (lv_at hl 1 rfl) ?_
        obtain ⟨g13, hok⟩ := gd_some hok
        refine va_iast hx hb hK hP hD hS 0 0 rfl rfl (okI_in g13) dJ7_fill_53178_13 (fun H locs hP hD hS => ?_)
        have hP : va_P D vwCl (wJ7_fill_53178 cy ap0 n0 (upd p0_5 y2_5.toNatClampNeg x1)) H := hP
        have hD : va_D A (wJ7_fill_53178 cy ap0 n0 (upd p0_5 y2_5.toNatClampNeg x1)) := hD
        refine lv_iinc (v := (y2_5 + 1)) (lv' := [(2, .int (y2_5 + 1)), (0, .ref ap0), (1, .int x1), (3, .int (nI n0))]) hx hb dJ7_fill_53178_14 hl (k := 2) rfl (by first | rfl | decide) (by decide) rfl (fun ls hl => ?_)
        refine lv_goto (tgt := 5) hx hb dJ7_fill_53178_17 (by decide) ?_
        exact ih5 (y2_5 + 1) (upd p0_5 y2_5.toNatClampNeg x1) H locs ls hP hD hS (lv_sub hl [1, 2, 0, 3] rfl) (hR5 _ (Option.some.inj hok).symm)
  unfold fJ7_fill_53178 at hok
  obtain ⟨H, hH⟩ : ∃ H, H = s.heap := ⟨_, rfl⟩
  obtain ⟨locs, hlc⟩ : ∃ x : List Loc, x = [] := ⟨_, rfl⟩
  have hP : va_P D vwCl (wJ7_fill_53178 cy ap0 n0 p0) H := by rw [hH]; exact hP
  have hS : va_S A s.heap H locs := by rw [hH, hlc]; exact hS
  rw [show W p l e _ s m _ below meth c s.heap [] = W p l e _ s m _ below meth c H locs from by rw [hH, hlc]]
  refine lv_iconst (v := 0) hx hb dJ7_fill_53178_0 (by decide) ?_
  refine lv_istore_n (lv' := [(2, .int 0), (0, .ref ap0), (1, .int x1)]) hx hb dJ7_fill_53178_1 rfl hl (by decide) rfl (fun ls hl => ?_)
  refine lv_aload_n hx hb dJ7_fill_53178_2 rfl (lv_at hl 1 rfl) ?_
  refine va_alen hx hb hK hP 0 0 rfl rfl (v := (nI n0)) rfl dJ7_fill_53178_3 ?_
  refine lv_istore_n (lv' := [(3, .int (nI n0)), (2, .int 0), (0, .ref ap0), (1, .int x1)]) hx hb dJ7_fill_53178_4 rfl hl (by decide) rfl (fun ls hl => ?_)
  exact L5 5000 (0 : Int32) p0 H locs ls hP hD hS (lv_sub hl [2, 3, 1, 0] rfl) hok
def wsX0_countSeen : List Cond := .code yX0_countSeen cX0_countSeen 4 none :: W0
abbrev wX0_countSeen (cy : Nat → ClassId) (aB : Nat) (qB : Nat → Nat) (vB : Nat → Int32) (vB_seen : Nat → Int32) (vB_ruleNumbers : Nat → Int32) : va_W := [(aB, oX0 vB qB), (qB 1, rI cy 12 vB_seen), (qB 0, rI cy 572 vB_ruleNumbers)]
set_option maxHeartbeats 4000000 in
set_option maxRecDepth 100000 in
theorem kX0_countSeen (l : Launch) (D : va_G) (cy : Nat → ClassId) (sz : Nat) (aB : Nat) (qB : Nat → Nat) (vB : Nat → Int32) (vB_seen : Nat → Int32) (vB_ruleNumbers : Nat → Int32) (x1 : Int32) (z_vB_seen : Nat → Int32) (hok : fX0_countSeen vB vB_seen vB_ruleNumbers x1 = some z_vB_seen) (A : Nat → Prop) (hAe : va_A (wX0_countSeen cy aB qB vB vB_seen vB_ruleNumbers) sz = A) : Met l yX0_countSeen wsX0_countSeen ({ frames := 1, cells := 0, slots := 0, locals := 23 } : Room) (kPre D cy [.ref aB, .int x1] (wX0_countSeen cy aB qB vB vB_seen vB_ruleNumbers) sz) (kQv D cy A (wX0_countSeen cy aB qB vB z_vB_seen vB_ruleNumbers)) 0 0 A := by
  refine Met.ofW (cc := cX0_countSeen) (maxL := 4) (ret := none) (by decide) rfl ?_
  intro p e s m args below meth c s₁ B hml hv
  obtain ⟨rfl, hsz, hP, hK, hD0, hN⟩ := hv
  have hx := B.exec
  have hb := B.bytes
  have hr := B.returns
  have ht0 : ∀ w ∈ W0, w.before _ s = true := fun w h => atoms_spec (ws := wsX0_countSeen) B.pre w (List.mem_cons_of_mem _ h)
  have hown : s.vm.findClass RX0 = some m.cls := findClass_of_methodNamed B.named
  have hlocks := B.notSynchronized
  subst hsz
  have hD : va_D A (wX0_countSeen cy aB qB vB vB_seen vB_ruleNumbers) := by rw [← hAe]; exact hD0.self
  have hA : ∀ q : Nat, s.heap.size ≤ q → A q := fun q h => by rw [← hAe]; exact Or.inr h
  have hS : va_S A s.heap s.heap [] := va_S.rf
  have hl := lv_entry ([.ref aB, .int x1]) (n := 4) (Nat.le_of_ble_eq_true rfl)
  rw [lg_entry_eq]
  generalize (lg_sl ([.ref aB, .int x1]) ++ List.replicate (4 - (lg_sl ([.ref aB, .int x1])).length) Slot.unset).toArray = ls at hl ⊢
  have hl : lv_has ls 4 [(0, .ref aB), (1, .int x1)] := hl
  generalize hQe : MQ below (kQv D cy A (wX0_countSeen cy aB qB vB z_vB_seen vB_ruleNumbers)) ([.ref aB, .int x1] : List Value).toArray s 0 0 A = Q
  have L10 : ∀ (fuel : Nat) (y2_10 : Int32) (vB_seen_10 : Nat → Int32), ∀ (H : Heap) (locs : List Loc) (ls : Array Slot), va_P D vwCl (wX0_countSeen cy aB qB vB vB_seen_10 vB_ruleNumbers) H → va_D A (wX0_countSeen cy aB qB vB vB_seen_10 vB_ruleNumbers) → va_S A s.heap H locs → lv_has ls 4 [(0, .ref aB), (1, .int x1), (2, .int y2_10)] → lp (fX0_countSeen_B10 vB vB_ruleNumbers x1) fuel (y2_10, vB_seen_10) = some z_vB_seen → W p l e ({ frames := 1, cells := 0, slots := 0, locals := 23 } : Room) s m ([.ref aB, .int x1] : List Value).toArray below meth c H locs 0 0 Q (F0 m 10 ls []) := by
    intro fuel
    induction fuel with
    | zero => intro y2_10 vB_seen_10 H locs ls hP hD hS hl hok; exact (lp_0 hok).elim
    | succ fuel ih10 =>
      intro y2_10 vB_seen_10 H locs ls hP hD hS hl hok
      obtain ⟨y10, hok, hL10, hR10⟩ := lp_step hok
      have J48 : ∀ (vB_seen_48 : Nat → Int32), ∀ (H : Heap) (locs : List Loc) (ls : Array Slot), va_P D vwCl (wX0_countSeen cy aB qB vB vB_seen_48 vB_ruleNumbers) H → va_D A (wX0_countSeen cy aB qB vB vB_seen_48 vB_ruleNumbers) → va_S A s.heap H locs → lv_has ls 4 [(0, .ref aB), (1, .int x1), (2, .int y2_10)] → fX0_countSeen_J48 y2_10 vB_seen_48 = some y10 → W p l e ({ frames := 1, cells := 0, slots := 0, locals := 23 } : Room) s m ([.ref aB, .int x1] : List Value).toArray below meth c H locs 0 0 Q (F0 m 48 ls []) := by
        intro vB_seen_48 H locs ls hP hD hS hl hok
        unfold fX0_countSeen_J48 at hok
        refine lv_iinc (v := (y2_10 + 1)) (lv' := [(2, .int (y2_10 + 1)), (0, .ref aB), (1, .int x1)]) hx hb dX0_countSeen_48 hl (k := 2) rfl (by first | rfl | decide) (by decide) rfl (fun ls hl => ?_)
        refine lv_goto (tgt := 10) hx hb dX0_countSeen_51 (by decide) ?_
        exact ih10 (y2_10 + 1) vB_seen_48 H locs ls hP hD hS (lv_sub hl [1, 2, 0] rfl) (hR10 _ (Option.some.inj hok).symm)
      unfold fX0_countSeen_B10 at hok
      try dsimp only at hok
      refine lv_iload_n hx hb dX0_countSeen_10 rfl (lv_at hl 2 rfl) ?_
      refine lv_aload_n hx hb dX0_countSeen_11 rfl (lv_at hl 0 rfl) ?_
      refine va_get (D := D) (ci := 0) (v := .int (vB 2)) (C := RX0) (T := TX0) (N := 6) hx hb ht0 niX0 hown hK hP 0 rfl rfl 2 (by decide) (ht0 _ wd4) (fun _ h9 => h9) rfl dX0_countSeen_12 ?_
      refine lv_icmp_ge (tgt := 54) hx hb dX0_countSeen_15 (by decide) (fun c15 => ?_) (fun c15 => ?_)
      · have hok := k_pos c15 hok
        obtain ⟨e10, hok, he10⟩ := ex_some hok
        have hok := hok.trans (congrArg some (hL10 _ he10))
        cases hok
        subst hQe; exact W.vret hx hb hr (fun t ht hW => ⟨⟨(), rfl, trivial, by rw [ht]; exact hP, va_K.moved hW.alike hK, hD⟩, hS.F ht⟩) hS.2.2 dX0_countSeen_54
      · have hok := k_neg c15 hok
        refine lv_aload_n hx hb dX0_countSeen_18 rfl (lv_at hl 0 rfl) ?_
        refine lv_iload_n hx hb dX0_countSeen_19 rfl (lv_at hl 2 rfl) ?_
        obtain ⟨r20, hc20, hok⟩ := k_bind hok
        refine kCi (wc := (wX0_ruleNumber cy aB qB vB vB_ruleNumbers)) (wc2 := (wX0_ruleNumber cy aB qB vB vB_ruleNumbers)) (wr := [(qB 1, rI cy 12 vB_seen_10)]) (ws2 := (wX0_countSeen cy aB qB vB vB_seen_10 vB_ruleNumbers)) (kRunV (As := [.int y2_10]) (rest := []) ⟨hx, hb, hml, hown, ht0⟩ (kX0_ruleNumber l D cy _ aB qB vB vB_ruleNumbers y2_10 r20 hc20 _ rfl) (cwV 1 ht0 (gV wd17 wd18 wd19 wd14 wd20) rfl rfl rfl (by decide +kernel) ⟨Nat.le_of_ble_eq_true rfl, Nat.le_of_ble_eq_true rfl⟩) hK hN hP hD [0, 2] rfl (by decide) 0 0 rfl rfl rfl hl.1 rfl (Nat.le_of_ble_eq_true rfl) dX0_countSeen_20 ⟨Nat.zero_le _, Nat.zero_le _⟩) hP hD hS hA [0, 2] [1] rfl rfl (by decide) (by decide) [1, 0, 2] (by decide) rfl rfl (fun H locs hP hD hS => ?_)
        refine lv_iload_n hx hb dX0_countSeen_23 rfl (lv_at hl 1 rfl) ?_
        obtain ⟨r24, hc24, hok⟩ := k_bind hok
        refine kCi (wc := (wX0_placeBy cy )) (wc2 := (wX0_placeBy cy )) (wr := [(aB, oX0 vB qB), (qB 1, rI cy 12 vB_seen_10), (qB 0, rI cy 572 vB_ruleNumbers)]) (ws2 := (wX0_countSeen cy aB qB vB vB_seen_10 vB_ruleNumbers)) (kRunS (As := [.int r20, .int x1]) (rest := []) ⟨hx, hb, hml, hown, ht0⟩ (kX0_placeBy l D cy _ r20 x1 r24 hc24 _ rfl) (va_cwS 2 ht0 (gS wd21 wd22 wd14 wd23) rfl rfl rfl (by decide +kernel) ⟨Nat.le_of_ble_eq_true rfl, Nat.le_of_ble_eq_true rfl⟩) hK hN hP hD [] rfl (by decide) rfl hl.1 rfl (Nat.le_of_ble_eq_true rfl) dX0_countSeen_24 ⟨Nat.zero_le _, Nat.zero_le _⟩) hP hD hS hA [] [0, 1, 2] rfl rfl (by decide) (by decide) [0, 1, 2] (by decide) rfl rfl (fun H locs hP hD hS => ?_)
        refine lv_istore_n (lv' := [(3, .int r24), (0, .ref aB), (1, .int x1), (2, .int y2_10)]) hx hb dX0_countSeen_27 rfl hl (by decide) rfl (fun ls hl => ?_)
        refine lv_iload_n hx hb dX0_countSeen_28 rfl (lv_at hl 0 rfl) ?_
        refine lv_if_lt (tgt := 48) hx hb dX0_countSeen_29 (by decide) (fun c29 => ?_) (fun c29 => ?_)
        · have hok := k_pos c29 hok
          exact J48 vB_seen_10 H locs ls hP hD hS (lv_sub hl [1, 2, 3] rfl) hok
        · have hok := k_neg c29 hok
          refine lv_iload_n hx hb dX0_countSeen_32 rfl (lv_at hl 0 rfl) ?_
          refine lv_bipush (v := 12) hx hb dX0_countSeen_33 (by decide) ?_
          refine lv_icmp_ge (tgt := 48) hx hb dX0_countSeen_35 (by decide) (fun c35 => ?_) (fun c35 => ?_)
          · have hok := k_pos c35 hok
            exact J48 vB_seen_10 H locs ls hP hD hS (lv_sub hl [1, 2, 3] rfl) hok
          · have hok := k_neg c35 hok
            refine lv_aload_n hx hb dX0_countSeen_38 rfl (lv_at hl 1 rfl) ?_
            refine va_get (D := D) (ci := 0) (v := .ref (qB 1)) (C := RX0) (T := TX0) (N := 6) hx hb ht0 niX0 hown hK hP 0 rfl rfl 1 (by decide) (ht0 _ wd28) (fun _ h9 => h9) rfl dX0_countSeen_39 ?_
            refine lv_iload_n hx hb dX0_countSeen_42 rfl (lv_at hl 0 rfl) ?_
            refine lv_dup2_11 hx hb dX0_countSeen_43 rfl rfl ?_
            obtain ⟨g44, hok⟩ := gd_some hok
            refine va_iald hx hb hK hP 1 0 rfl rfl (okI_in g44) dX0_countSeen_44 ?_
            refine lv_iconst (v := 1) hx hb dX0_countSeen_45 (by decide) ?_
            refine lv_iadd hx hb dX0_countSeen_46 ?_
            obtain ⟨g47, hok⟩ := gd_some hok
            refine va_iast hx hb hK hP hD hS 1 0 rfl rfl (okI_in g47) dX0_countSeen_47 (fun H locs hP hD hS => ?_)
            have hP : va_P D vwCl (wX0_countSeen cy aB qB vB (upd vB_seen_10 r24.toNatClampNeg ((vB_seen_10 r24.toNatClampNeg) + (1 : Int32))) vB_ruleNumbers) H := hP
            have hD : va_D A (wX0_countSeen cy aB qB vB (upd vB_seen_10 r24.toNatClampNeg ((vB_seen_10 r24.toNatClampNeg) + (1 : Int32))) vB_ruleNumbers) := hD
            exact J48 (upd vB_seen_10 r24.toNatClampNeg ((vB_seen_10 r24.toNatClampNeg) + (1 : Int32))) H locs ls hP hD hS (lv_sub hl [1, 2, 3] rfl) hok
  unfold fX0_countSeen at hok
  obtain ⟨H, hH⟩ : ∃ H, H = s.heap := ⟨_, rfl⟩
  obtain ⟨locs, hlc⟩ : ∃ x : List Loc, x = [] := ⟨_, rfl⟩
  have hP : va_P D vwCl (wX0_countSeen cy aB qB vB vB_seen vB_ruleNumbers) H := by rw [hH]; exact hP
  have hS : va_S A s.heap H locs := by rw [hH, hlc]; exact hS
  rw [show W p l e _ s m _ below meth c s.heap [] = W p l e _ s m _ below meth c H locs from by rw [hH, hlc]]
  refine lv_aload_n hx hb dX0_countSeen_0 rfl (lv_at hl 0 rfl) ?_
  refine va_get (D := D) (ci := 0) (v := .ref (qB 1)) (C := RX0) (T := TX0) (N := 6) hx hb ht0 niX0 hown hK hP 0 rfl rfl 1 (by decide) (ht0 _ wd28) (fun _ h9 => h9) rfl dX0_countSeen_1 ?_
  refine lv_iconst (v := 0) hx hb dX0_countSeen_4 (by decide) ?_
  obtain ⟨p0_5, hc5, hok⟩ := k_bind hok
  refine kCv (wc := (wJ7_fill_53178 cy (qB 1) 12 vB_seen)) (wc2 := (wJ7_fill_53178 cy (qB 1) 12 p0_5)) (wr := [(aB, oX0 vB qB), (qB 0, rI cy 572 vB_ruleNumbers)]) (ws2 := (wX0_countSeen cy aB qB vB p0_5 vB_ruleNumbers)) (kRunS (As := [.ref (qB 1), .int 0]) (rest := []) ⟨hx, hb, hml, hown, ht0⟩ (kJ7_fill_53178 l D cy _ (qB 1) 12 vB_seen (0 : Int32) p0_5 hc5 _ rfl) (va_cwS 2 ht0 (gS wd29 wd30 wd31 wd32) rfl rfl rfl (by decide +kernel) ⟨Nat.le_of_ble_eq_true rfl, Nat.le_of_ble_eq_true rfl⟩) hK hN hP hD [1] rfl (by decide) rfl hl.1 rfl (Nat.le_of_ble_eq_true rfl) dX0_countSeen_5 ⟨Nat.zero_le _, Nat.zero_le _⟩) hP hD hS hA [1] [0, 2] rfl rfl (by decide) (by decide) [0, 2, 1] (by decide) rfl rfl (fun H locs hP hD hS => ?_)
  refine lv_iconst (v := 0) hx hb dX0_countSeen_8 (by decide) ?_
  refine lv_istore_n (lv' := [(2, .int 0), (0, .ref aB), (1, .int x1)]) hx hb dX0_countSeen_9 rfl hl (by decide) rfl (fun ls hl => ?_)
  exact L10 5000 (0 : Int32) p0_5 H locs ls hP hD hS (lv_sub hl [1, 2, 0] rfl) hok
def wsX0_lookOnce : List Cond := .code yX0_lookOnce cX0_lookOnce 4 none :: W0
abbrev wX0_lookOnce (cy : Nat → ClassId) (aB : Nat) (qB : Nat → Nat) (vB : Nat → Int32) (vB_seen : Nat → Int32) (vB_ruleNumbers : Nat → Int32) : va_W := [(aB, oX0 vB qB), (qB 1, rI cy 12 vB_seen), (qB 0, rI cy 572 vB_ruleNumbers)]
set_option maxHeartbeats 4000000 in
set_option maxRecDepth 100000 in
theorem kX0_lookOnce (l : Launch) (D : va_G) (cy : Nat → ClassId) (sz : Nat) (aB : Nat) (qB : Nat → Nat) (vB : Nat → Int32) (vB_seen : Nat → Int32) (vB_ruleNumbers : Nat → Int32) (z_vB : Nat → Int32) (z_vB_seen : Nat → Int32) (hok : fX0_lookOnce vB vB_seen vB_ruleNumbers = some (z_vB, z_vB_seen)) (A : Nat → Prop) (hAe : va_A (wX0_lookOnce cy aB qB vB vB_seen vB_ruleNumbers) sz = A) : Met l yX0_lookOnce wsX0_lookOnce ({ frames := 2, cells := 0, slots := 0, locals := 46 } : Room) (kPre D cy [.ref aB] (wX0_lookOnce cy aB qB vB vB_seen vB_ruleNumbers) sz) (kQv D cy A (wX0_lookOnce cy aB qB z_vB z_vB_seen vB_ruleNumbers)) 0 0 A := by
  refine Met.ofW (cc := cX0_lookOnce) (maxL := 4) (ret := none) (by decide) rfl ?_
  intro p e s m args below meth c s₁ B hml hv
  obtain ⟨rfl, hsz, hP, hK, hD0, hN⟩ := hv
  have hx := B.exec
  have hb := B.bytes
  have hr := B.returns
  have ht0 : ∀ w ∈ W0, w.before _ s = true := fun w h => atoms_spec (ws := wsX0_lookOnce) B.pre w (List.mem_cons_of_mem _ h)
  have hown : s.vm.findClass RX0 = some m.cls := findClass_of_methodNamed B.named
  have hlocks := B.notSynchronized
  subst hsz
  have hD : va_D A (wX0_lookOnce cy aB qB vB vB_seen vB_ruleNumbers) := by rw [← hAe]; exact hD0.self
  have hA : ∀ q : Nat, s.heap.size ≤ q → A q := fun q h => by rw [← hAe]; exact Or.inr h
  have hS : va_S A s.heap s.heap [] := va_S.rf
  have hl := lv_entry ([.ref aB]) (n := 4) (Nat.le_of_ble_eq_true rfl)
  rw [lg_entry_eq]
  generalize (lg_sl ([.ref aB]) ++ List.replicate (4 - (lg_sl ([.ref aB])).length) Slot.unset).toArray = ls at hl ⊢
  have hl : lv_has ls 4 [(0, .ref aB)] := hl
  generalize hQe : MQ below (kQv D cy A (wX0_lookOnce cy aB qB z_vB z_vB_seen vB_ruleNumbers)) ([.ref aB] : List Value).toArray s 0 0 A = Q
  have J118 : ∀ (vB_seen_118 : Nat → Int32) (vB_118 : Nat → Int32), ∀ (H : Heap) (locs : List Loc) (ls : Array Slot), va_P D vwCl (wX0_lookOnce cy aB qB vB_118 vB_seen_118 vB_ruleNumbers) H → va_D A (wX0_lookOnce cy aB qB vB_118 vB_seen_118 vB_ruleNumbers) → va_S A s.heap H locs → lv_has ls 4 [] → fX0_lookOnce_J118 vB_seen_118 vB_118 = some (z_vB, z_vB_seen) → W p l e ({ frames := 2, cells := 0, slots := 0, locals := 46 } : Room) s m ([.ref aB] : List Value).toArray below meth c H locs 0 0 Q (F0 m 118 ls []) := by
    intro vB_seen_118 vB_118 H locs ls hP hD hS hl hok
    unfold fX0_lookOnce_J118 at hok
    cases hok
    subst hQe; exact W.vret hx hb hr (fun t ht hW => ⟨⟨(), rfl, trivial, by rw [ht]; exact hP, va_K.moved hW.alike hK, hD⟩, hS.F ht⟩) hS.2.2 dX0_lookOnce_118
  have L27 : ∀ (fuel : Nat) (y1_27 : Int32) (vB_seen_27 : Nat → Int32) (vB_27 : Nat → Int32), ∀ (H : Heap) (locs : List Loc) (ls : Array Slot), va_P D vwCl (wX0_lookOnce cy aB qB vB_27 vB_seen_27 vB_ruleNumbers) H → va_D A (wX0_lookOnce cy aB qB vB_27 vB_seen_27 vB_ruleNumbers) → va_S A s.heap H locs → lv_has ls 4 [(0, .ref aB), (1, .int y1_27)] → lp (fX0_lookOnce_B27 vB_ruleNumbers) fuel (y1_27, vB_seen_27, vB_27) = some (z_vB, z_vB_seen) → W p l e ({ frames := 2, cells := 0, slots := 0, locals := 46 } : Room) s m ([.ref aB] : List Value).toArray below meth c H locs 0 0 Q (F0 m 27 ls []) := by
    intro fuel
    induction fuel with
    | zero => intro y1_27 vB_seen_27 vB_27 H locs ls hP hD hS hl hok; exact (lp_0 hok).elim
    | succ fuel ih27 =>
      intro y1_27 vB_seen_27 vB_27 H locs ls hP hD hS hl hok
      obtain ⟨y27, hok, hL27, hR27⟩ := lp_step hok
      have L47 : ∀ (fuel : Nat) (y2_47 : Int32) (vB_seen_47 : Nat → Int32) (vB_47 : Nat → Int32), ∀ (H : Heap) (locs : List Loc) (ls : Array Slot), va_P D vwCl (wX0_lookOnce cy aB qB vB_47 vB_seen_47 vB_ruleNumbers) H → va_D A (wX0_lookOnce cy aB qB vB_47 vB_seen_47 vB_ruleNumbers) → va_S A s.heap H locs → lv_has ls 4 [(0, .ref aB), (1, .int y1_27), (2, .int y2_47)] → lp (fX0_lookOnce_B47 y1_27) fuel (y2_47, vB_seen_47, vB_47) = some y27 → W p l e ({ frames := 2, cells := 0, slots := 0, locals := 46 } : Room) s m ([.ref aB] : List Value).toArray below meth c H locs 0 0 Q (F0 m 47 ls []) := by
        intro fuel
        induction fuel with
        | zero => intro y2_47 vB_seen_47 vB_47 H locs ls hP hD hS hl hok; exact (lp_0 hok).elim
        | succ fuel ih47 =>
          intro y2_47 vB_seen_47 vB_47 H locs ls hP hD hS hl hok
          obtain ⟨y47, hok, hL47, hR47⟩ := lp_step hok
          have J106 : ∀ (vB_106 : Nat → Int32), ∀ (H : Heap) (locs : List Loc) (ls : Array Slot), va_P D vwCl (wX0_lookOnce cy aB qB vB_106 vB_seen_47 vB_ruleNumbers) H → va_D A (wX0_lookOnce cy aB qB vB_106 vB_seen_47 vB_ruleNumbers) → va_S A s.heap H locs → lv_has ls 4 [(0, .ref aB), (1, .int y1_27), (2, .int y2_47)] → fX0_lookOnce_J106 y2_47 vB_seen_47 vB_106 = some y47 → W p l e ({ frames := 2, cells := 0, slots := 0, locals := 46 } : Room) s m ([.ref aB] : List Value).toArray below meth c H locs 0 0 Q (F0 m 106 ls []) := by
            intro vB_106 H locs ls hP hD hS hl hok
            unfold fX0_lookOnce_J106 at hok
            refine lv_iinc (v := (y2_47 + 1)) (lv' := [(2, .int (y2_47 + 1)), (0, .ref aB), (1, .int y1_27)]) hx hb dX0_lookOnce_106 hl (k := 2) rfl (by first | rfl | decide) (by decide) rfl (fun ls hl => ?_)
            refine lv_goto (tgt := 47) hx hb dX0_lookOnce_109 (by decide) ?_
            exact ih47 (y2_47 + 1) vB_seen_47 vB_106 H locs ls hP hD hS (lv_sub hl [1, 2, 0] rfl) (hR47 _ (Option.some.inj hok).symm)
          have J91 : ∀ (H : Heap) (locs : List Loc) (ls : Array Slot), va_P D vwCl (wX0_lookOnce cy aB qB vB_47 vB_seen_47 vB_ruleNumbers) H → va_D A (wX0_lookOnce cy aB qB vB_47 vB_seen_47 vB_ruleNumbers) → va_S A s.heap H locs → lv_has ls 4 [(0, .ref aB), (1, .int y1_27), (2, .int y2_47), (3, .int (if (vB_seen_47 y2_47.toNatClampNeg) < ((vB_47 2) - (vB_seen_47 y2_47.toNatClampNeg)) then ((vB_47 2) - (vB_seen_47 y2_47.toNatClampNeg)) else (vB_seen_47 y2_47.toNatClampNeg)))] → fX0_lookOnce_J91 y1_27 y2_47 vB_seen_47 vB_47 = some y47 → W p l e ({ frames := 2, cells := 0, slots := 0, locals := 46 } : Room) s m ([.ref aB] : List Value).toArray below meth c H locs 0 0 Q (F0 m 91 ls []) := by
            intro  H locs ls hP hD hS hl hok
            unfold fX0_lookOnce_J91 at hok
            refine lv_aload_n hx hb dX0_lookOnce_91 rfl (lv_at hl 0 rfl) ?_
            refine lv_bipush (v := 100) hx hb dX0_lookOnce_92 (by decide) ?_
            refine lv_iload_n hx hb dX0_lookOnce_94 rfl (lv_at hl 1 rfl) ?_
            refine lv_imul hx hb dX0_lookOnce_95 ?_
            refine lv_iload_n hx hb dX0_lookOnce_96 rfl (lv_at hl 2 rfl) ?_
            refine lv_iadd hx hb dX0_lookOnce_97 ?_
            refine va_put (D := D) (ci := 0) (v := .int (((100 : Int32) * y1_27) + y2_47)) (ty := .int) (C := RX0) (T := TX0) (N := 6) hx hb ht0 niX0 tyX0 tyX0_ok nmX0 hown hK hP hD hS 0 rfl rfl 4 (by decide) (ht0 _ wd33) (fun _ h9 => h9) rfl (by decide +kernel) rfl rfl (Nat.le_of_ble_eq_true rfl) dX0_lookOnce_98 (fun H locs hP hD hS => ?_)
            have hP : va_P D vwCl (wX0_lookOnce cy aB qB (upd vB_47 4 (((100 : Int32) * y1_27) + y2_47)) vB_seen_47 vB_ruleNumbers) H := hP
            have hD : va_D A (wX0_lookOnce cy aB qB (upd vB_47 4 (((100 : Int32) * y1_27) + y2_47)) vB_seen_47 vB_ruleNumbers) := hD
            refine lv_aload_n hx hb dX0_lookOnce_101 rfl (lv_at hl 0 rfl) ?_
            refine lv_iload_n hx hb dX0_lookOnce_102 rfl (lv_at hl 3 rfl) ?_
            refine va_put (D := D) (ci := 0) (v := .int (if (vB_seen_47 y2_47.toNatClampNeg) < ((vB_47 2) - (vB_seen_47 y2_47.toNatClampNeg)) then ((vB_47 2) - (vB_seen_47 y2_47.toNatClampNeg)) else (vB_seen_47 y2_47.toNatClampNeg))) (ty := .int) (C := RX0) (T := TX0) (N := 6) hx hb ht0 niX0 tyX0 tyX0_ok nmX0 hown hK hP hD hS 0 rfl rfl 5 (by decide) (ht0 _ wd34) (fun _ h9 => h9) rfl (by decide +kernel) rfl rfl (Nat.le_of_ble_eq_true rfl) dX0_lookOnce_103 (fun H locs hP hD hS => ?_)
            have hP : va_P D vwCl (wX0_lookOnce cy aB qB (upd (upd vB_47 4 (((100 : Int32) * y1_27) + y2_47)) 5 (if (vB_seen_47 y2_47.toNatClampNeg) < ((vB_47 2) - (vB_seen_47 y2_47.toNatClampNeg)) then ((vB_47 2) - (vB_seen_47 y2_47.toNatClampNeg)) else (vB_seen_47 y2_47.toNatClampNeg))) vB_seen_47 vB_ruleNumbers) H := hP
            have hD : va_D A (wX0_lookOnce cy aB qB (upd (upd vB_47 4 (((100 : Int32) * y1_27) + y2_47)) 5 (if (vB_seen_47 y2_47.toNatClampNeg) < ((vB_47 2) - (vB_seen_47 y2_47.toNatClampNeg)) then ((vB_47 2) - (vB_seen_47 y2_47.toNatClampNeg)) else (vB_seen_47 y2_47.toNatClampNeg))) vB_seen_47 vB_ruleNumbers) := hD
            exact J106 (upd (upd vB_47 4 (((100 : Int32) * y1_27) + y2_47)) 5 (if (vB_seen_47 y2_47.toNatClampNeg) < ((vB_47 2) - (vB_seen_47 y2_47.toNatClampNeg)) then ((vB_47 2) - (vB_seen_47 y2_47.toNatClampNeg)) else (vB_seen_47 y2_47.toNatClampNeg))) H locs ls hP hD hS (lv_sub hl [0, 1, 2] rfl) hok
          unfold fX0_lookOnce_B47 at hok
          try dsimp only at hok
          refine lv_iload_n hx hb dX0_lookOnce_47 rfl (lv_at hl 2 rfl) ?_
          refine lv_bipush (v := 12) hx hb dX0_lookOnce_48 (by decide) ?_
          refine lv_icmp_ge (tgt := 112) hx hb dX0_lookOnce_50 (by decide) (fun c50 => ?_) (fun c50 => ?_)
          · have hok := k_pos c50 hok
            obtain ⟨e47, hok, he47⟩ := ex_some hok
            have hok := hok.trans (congrArg some (hL47 _ he47))
            refine lv_iinc (v := (y1_27 + 1)) (lv' := [(1, .int (y1_27 + 1)), (0, .ref aB), (2, .int y2_47)]) hx hb dX0_lookOnce_112 hl (k := 1) rfl (by first | rfl | decide) (by decide) rfl (fun ls hl => ?_)
            refine lv_goto (tgt := 27) hx hb dX0_lookOnce_115 (by decide) ?_
            exact ih27 (y1_27 + 1) vB_seen_47 vB_47 H locs ls hP hD hS (lv_sub hl [1, 0] rfl) (hR27 _ (Option.some.inj hok).symm)
          · have hok := k_neg c50 hok
            refine lv_aload_n hx hb dX0_lookOnce_53 rfl (lv_at hl 0 rfl) ?_
            refine va_get (D := D) (ci := 0) (v := .ref (qB 1)) (C := RX0) (T := TX0) (N := 6) hx hb ht0 niX0 hown hK hP 0 rfl rfl 1 (by decide) (ht0 _ wd28) (fun _ h9 => h9) rfl dX0_lookOnce_54 ?_
            refine lv_iload_n hx hb dX0_lookOnce_57 rfl (lv_at hl 2 rfl) ?_
            obtain ⟨g58, hok⟩ := gd_some hok
            refine va_iald hx hb hK hP 1 0 rfl rfl (okI_in g58) dX0_lookOnce_58 ?_
            refine lv_aload_n hx hb dX0_lookOnce_59 rfl (lv_at hl 0 rfl) ?_
            refine va_get (D := D) (ci := 0) (v := .int (vB_47 2)) (C := RX0) (T := TX0) (N := 6) hx hb ht0 niX0 hown hK hP 0 rfl rfl 2 (by decide) (ht0 _ wd4) (fun _ h9 => h9) rfl dX0_lookOnce_60 ?_
            refine lv_aload_n hx hb dX0_lookOnce_63 rfl (lv_at hl 0 rfl) ?_
            refine va_get (D := D) (ci := 0) (v := .ref (qB 1)) (C := RX0) (T := TX0) (N := 6) hx hb ht0 niX0 hown hK hP 0 rfl rfl 1 (by decide) (ht0 _ wd28) (fun _ h9 => h9) rfl dX0_lookOnce_64 ?_
            refine lv_iload_n hx hb dX0_lookOnce_67 rfl (lv_at hl 2 rfl) ?_
            obtain ⟨g68, hok⟩ := gd_some hok
            refine va_iald hx hb hK hP 1 0 rfl rfl (okI_in g68) dX0_lookOnce_68 ?_
            refine lv_isub hx hb dX0_lookOnce_69 ?_
            refine va_mmax hx hb (hml.trans hl.1.symm) hown (ht0 _ wd35) (ht0 _ wd36) (ht0 _ wd37) (ht0 _ wd38) (Nat.le_of_ble_eq_true rfl) (Nat.le_of_ble_eq_true rfl) (Nat.zero_le _) (Nat.zero_le _) dX0_lookOnce_70 ?_
            refine lv_istore_n (lv' := [(3, .int (if (vB_seen_47 y2_47.toNatClampNeg) < ((vB_47 2) - (vB_seen_47 y2_47.toNatClampNeg)) then ((vB_47 2) - (vB_seen_47 y2_47.toNatClampNeg)) else (vB_seen_47 y2_47.toNatClampNeg))), (0, .ref aB), (1, .int y1_27), (2, .int y2_47)]) hx hb dX0_lookOnce_73 rfl hl (by decide) rfl (fun ls hl => ?_)
            refine lv_aload_n hx hb dX0_lookOnce_74 rfl (lv_at hl 1 rfl) ?_
            refine va_get (D := D) (ci := 0) (v := .int (vB_47 4)) (C := RX0) (T := TX0) (N := 6) hx hb ht0 niX0 hown hK hP 0 rfl rfl 4 (by decide) (ht0 _ wd33) (fun _ h9 => h9) rfl dX0_lookOnce_75 ?_
            refine lv_bipush (v := -2) hx hb dX0_lookOnce_78 (by decide) ?_
            refine lv_icmp_eq (tgt := 91) hx hb dX0_lookOnce_80 (by decide) (fun c80 => ?_) (fun c80 => ?_)
            · have hok := k_pos c80 hok
              exact J91  H locs ls hP hD hS (lv_sub hl [1, 2, 3, 0] rfl) hok
            · have hok := k_neg c80 hok
              refine lv_iload_n hx hb dX0_lookOnce_83 rfl (lv_at hl 0 rfl) ?_
              refine lv_aload_n hx hb dX0_lookOnce_84 rfl (lv_at hl 1 rfl) ?_
              refine va_get (D := D) (ci := 0) (v := .int (vB_47 5)) (C := RX0) (T := TX0) (N := 6) hx hb ht0 niX0 hown hK hP 0 rfl rfl 5 (by decide) (ht0 _ wd34) (fun _ h9 => h9) rfl dX0_lookOnce_85 ?_
              refine lv_icmp_ge (tgt := 106) hx hb dX0_lookOnce_88 (by decide) (fun c88 => ?_) (fun c88 => ?_)
              · have hok := k_pos c88 hok
                exact J106 vB_47 H locs ls hP hD hS (lv_sub hl [1, 2, 3] rfl) hok
              · have hok := k_neg c88 hok
                exact J91  H locs ls hP hD hS (lv_sub hl [1, 2, 3, 0] rfl) hok
      unfold fX0_lookOnce_B27 at hok
      try dsimp only at hok
      refine lv_iload_n hx hb dX0_lookOnce_27 rfl (lv_at hl 1 rfl) ?_
      refine lv_bipush (v := 100) hx hb dX0_lookOnce_28 (by decide) ?_
      refine lv_icmp_ge (tgt := 118) hx hb dX0_lookOnce_30 (by decide) (fun c30 => ?_) (fun c30 => ?_)
      · have hok := k_pos c30 hok
        obtain ⟨e27, hok, he27⟩ := ex_some hok
        have hok := hok.trans (congrArg some (hL27 _ he27))
        exact J118 vB_seen_27 vB_27 H locs ls hP hD hS (lv_sub hl [] rfl) hok
      · have hok := k_neg c30 hok
        refine lv_aload_n hx hb dX0_lookOnce_33 rfl (lv_at hl 0 rfl) ?_
        refine va_get (D := D) (ci := 0) (v := .int (vB_27 2)) (C := RX0) (T := TX0) (N := 6) hx hb ht0 niX0 hown hK hP 0 rfl rfl 2 (by decide) (ht0 _ wd4) (fun _ h9 => h9) rfl dX0_lookOnce_34 ?_
        refine lv_if_le (tgt := 118) hx hb dX0_lookOnce_37 (by decide) (fun c37 => ?_) (fun c37 => ?_)
        · have hok := k_pos c37 hok
          obtain ⟨e27, hok, he27⟩ := ex_some hok
          have hok := hok.trans (congrArg some (hL27 _ he27))
          exact J118 vB_seen_27 vB_27 H locs ls hP hD hS (lv_sub hl [] rfl) hok
        · have hok := k_neg c37 hok
          refine lv_aload_n hx hb dX0_lookOnce_40 rfl (lv_at hl 0 rfl) ?_
          refine lv_iload_n hx hb dX0_lookOnce_41 rfl (lv_at hl 1 rfl) ?_
          obtain ⟨vB_seen_42, hc42, hok⟩ := k_bind hok
          refine kCv (wc := (wX0_countSeen cy aB qB vB_27 vB_seen_27 vB_ruleNumbers)) (wc2 := (wX0_countSeen cy aB qB vB_27 vB_seen_42 vB_ruleNumbers)) (wr := []) (ws2 := (wX0_lookOnce cy aB qB vB_27 vB_seen_42 vB_ruleNumbers)) (kRunV (As := [.int y1_27]) (rest := []) ⟨hx, hb, hml, hown, ht0⟩ (kX0_countSeen l D cy _ aB qB vB_27 vB_seen_27 vB_ruleNumbers y1_27 vB_seen_42 hc42 _ rfl) (cwV 1 ht0 (gV wd39 wd40 wd41 wd14 wd42) rfl rfl rfl (by decide +kernel) ⟨Nat.le_of_ble_eq_true rfl, Nat.le_of_ble_eq_true rfl⟩) hK hN hP hD [0, 1, 2] rfl (by decide) 0 0 rfl rfl rfl hl.1 rfl (Nat.le_of_ble_eq_true rfl) dX0_lookOnce_42 ⟨Nat.zero_le _, Nat.zero_le _⟩) hP hD hS hA [0, 1, 2] [] rfl rfl (by decide) (by decide) [0, 1, 2] (by decide) rfl rfl (fun H locs hP hD hS => ?_)
          refine lv_iconst (v := 0) hx hb dX0_lookOnce_45 (by decide) ?_
          refine lv_istore_n (lv' := [(2, .int 0), (0, .ref aB), (1, .int y1_27)]) hx hb dX0_lookOnce_46 rfl hl (by decide) rfl (fun ls hl => ?_)
          exact L47 5000 (0 : Int32) vB_seen_42 vB_27 H locs ls hP hD hS (lv_sub hl [1, 2, 0] rfl) hok
  unfold fX0_lookOnce at hok
  obtain ⟨H, hH⟩ : ∃ H, H = s.heap := ⟨_, rfl⟩
  obtain ⟨locs, hlc⟩ : ∃ x : List Loc, x = [] := ⟨_, rfl⟩
  have hP : va_P D vwCl (wX0_lookOnce cy aB qB vB vB_seen vB_ruleNumbers) H := by rw [hH]; exact hP
  have hS : va_S A s.heap H locs := by rw [hH, hlc]; exact hS
  rw [show W p l e _ s m _ below meth c s.heap [] = W p l e _ s m _ below meth c H locs from by rw [hH, hlc]]
  refine lv_aload_n hx hb dX0_lookOnce_0 rfl (lv_at hl 0 rfl) ?_
  refine va_get (D := D) (ci := 0) (v := .int (vB 3)) (C := RX0) (T := TX0) (N := 6) hx hb ht0 niX0 hown hK hP 0 rfl rfl 3 (by decide) (ht0 _ wd16) (fun _ h9 => h9) rfl dX0_lookOnce_1 ?_
  refine lv_if_eq (tgt := 8) hx hb dX0_lookOnce_4 (by decide) (fun c4 => ?_) (fun c4 => ?_)
  · have hok := k_pos c4 hok
    refine lv_aload_n hx hb dX0_lookOnce_8 rfl (lv_at hl 0 rfl) ?_
    refine lv_iconst (v := 1) hx hb dX0_lookOnce_9 (by decide) ?_
    refine va_put (D := D) (ci := 0) (v := .int 1) (ty := .boolean) (C := RX0) (T := TX0) (N := 6) hx hb ht0 niX0 tyX0 tyX0_ok nmX0 hown hK hP hD hS 0 rfl rfl 3 (by decide) (ht0 _ wd16) (fun _ h9 => h9) rfl (by decide +kernel) rfl rfl (Nat.le_of_ble_eq_true rfl) dX0_lookOnce_10 (fun H locs hP hD hS => ?_)
    have hP : va_P D vwCl (wX0_lookOnce cy aB qB (upd vB 3 (1 : Int32)) vB_seen vB_ruleNumbers) H := hP
    have hD : va_D A (wX0_lookOnce cy aB qB (upd vB 3 (1 : Int32)) vB_seen vB_ruleNumbers) := hD
    refine lv_aload_n hx hb dX0_lookOnce_13 rfl (lv_at hl 0 rfl) ?_
    refine lv_bipush (v := -2) hx hb dX0_lookOnce_14 (by decide) ?_
    refine va_put (D := D) (ci := 0) (v := .int (-2)) (ty := .int) (C := RX0) (T := TX0) (N := 6) hx hb ht0 niX0 tyX0 tyX0_ok nmX0 hown hK hP hD hS 0 rfl rfl 4 (by decide) (ht0 _ wd33) (fun _ h9 => h9) rfl (by decide +kernel) rfl rfl (Nat.le_of_ble_eq_true rfl) dX0_lookOnce_16 (fun H locs hP hD hS => ?_)
    have hP : va_P D vwCl (wX0_lookOnce cy aB qB (upd (upd vB 3 (1 : Int32)) 4 (-2 : Int32)) vB_seen vB_ruleNumbers) H := hP
    have hD : va_D A (wX0_lookOnce cy aB qB (upd (upd vB 3 (1 : Int32)) 4 (-2 : Int32)) vB_seen vB_ruleNumbers) := hD
    refine lv_aload_n hx hb dX0_lookOnce_19 rfl (lv_at hl 0 rfl) ?_
    refine lv_bipush (v := -2) hx hb dX0_lookOnce_20 (by decide) ?_
    refine va_put (D := D) (ci := 0) (v := .int (-2)) (ty := .int) (C := RX0) (T := TX0) (N := 6) hx hb ht0 niX0 tyX0 tyX0_ok nmX0 hown hK hP hD hS 0 rfl rfl 5 (by decide) (ht0 _ wd34) (fun _ h9 => h9) rfl (by decide +kernel) rfl rfl (Nat.le_of_ble_eq_true rfl) dX0_lookOnce_22 (fun H locs hP hD hS => ?_)
    have hP : va_P D vwCl (wX0_lookOnce cy aB qB (upd (upd (upd vB 3 (1 : Int32)) 4 (-2 : Int32)) 5 (-2 : Int32)) vB_seen vB_ruleNumbers) H := hP
    have hD : va_D A (wX0_lookOnce cy aB qB (upd (upd (upd vB 3 (1 : Int32)) 4 (-2 : Int32)) 5 (-2 : Int32)) vB_seen vB_ruleNumbers) := hD
    refine lv_iconst (v := 0) hx hb dX0_lookOnce_25 (by decide) ?_
    refine lv_istore_n (lv' := [(1, .int 0), (0, .ref aB)]) hx hb dX0_lookOnce_26 rfl hl (by decide) rfl (fun ls hl => ?_)
    exact L27 5000 (0 : Int32) vB_seen (upd (upd (upd vB 3 (1 : Int32)) 4 (-2 : Int32)) 5 (-2 : Int32)) H locs ls hP hD hS (lv_sub hl [1, 0] rfl) hok
  · have hok := k_neg c4 hok
    cases hok
    subst hQe; exact W.vret hx hb hr (fun t ht hW => ⟨⟨(), rfl, trivial, by rw [ht]; exact hP, va_K.moved hW.alike hK, hD⟩, hS.F ht⟩) hS.2.2 dX0_lookOnce_7
def wsX0_bestLook : List Cond := .code yX0_bestLook cX0_bestLook 1 (some .int) :: W0
abbrev wX0_bestLook (cy : Nat → ClassId) (aB : Nat) (qB : Nat → Nat) (vB : Nat → Int32) (vB_seen : Nat → Int32) (vB_ruleNumbers : Nat → Int32) : va_W := [(aB, oX0 vB qB), (qB 1, rI cy 12 vB_seen), (qB 0, rI cy 572 vB_ruleNumbers)]
set_option maxHeartbeats 4000000 in
set_option maxRecDepth 100000 in
theorem kX0_bestLook (l : Launch) (D : va_G) (cy : Nat → ClassId) (sz : Nat) (aB : Nat) (qB : Nat → Nat) (vB : Nat → Int32) (vB_seen : Nat → Int32) (vB_ruleNumbers : Nat → Int32) (zr : Int32) (z_vB : Nat → Int32) (z_vB_seen : Nat → Int32) (hok : fX0_bestLook vB vB_seen vB_ruleNumbers = some (zr, z_vB, z_vB_seen)) (A : Nat → Prop) (hAe : va_A (wX0_bestLook cy aB qB vB vB_seen vB_ruleNumbers) sz = A) : Met l yX0_bestLook wsX0_bestLook ({ frames := 3, cells := 0, slots := 0, locals := 69 } : Room) (kPre D cy [.ref aB] (wX0_bestLook cy aB qB vB vB_seen vB_ruleNumbers) sz) (kQi D cy zr A (wX0_bestLook cy aB qB z_vB z_vB_seen vB_ruleNumbers)) 0 0 A := by
  refine Met.ofW (cc := cX0_bestLook) (maxL := 1) (ret := (some .int)) (by decide) rfl ?_
  intro p e s m args below meth c s₁ B hml hv
  obtain ⟨rfl, hsz, hP, hK, hD0, hN⟩ := hv
  have hx := B.exec
  have hb := B.bytes
  have hr := B.returns
  have ht0 : ∀ w ∈ W0, w.before _ s = true := fun w h => atoms_spec (ws := wsX0_bestLook) B.pre w (List.mem_cons_of_mem _ h)
  have hown : s.vm.findClass RX0 = some m.cls := findClass_of_methodNamed B.named
  have hlocks := B.notSynchronized
  subst hsz
  have hD : va_D A (wX0_bestLook cy aB qB vB vB_seen vB_ruleNumbers) := by rw [← hAe]; exact hD0.self
  have hA : ∀ q : Nat, s.heap.size ≤ q → A q := fun q h => by rw [← hAe]; exact Or.inr h
  have hS : va_S A s.heap s.heap [] := va_S.rf
  have hl := lv_entry ([.ref aB]) (n := 1) (Nat.le_of_ble_eq_true rfl)
  rw [lg_entry_eq]
  generalize (lg_sl ([.ref aB]) ++ List.replicate (1 - (lg_sl ([.ref aB])).length) Slot.unset).toArray = ls at hl ⊢
  have hl : lv_has ls 1 [(0, .ref aB)] := hl
  unfold fX0_bestLook at hok
  obtain ⟨H, hH⟩ : ∃ H, H = s.heap := ⟨_, rfl⟩
  obtain ⟨locs, hlc⟩ : ∃ x : List Loc, x = [] := ⟨_, rfl⟩
  have hP : va_P D vwCl (wX0_bestLook cy aB qB vB vB_seen vB_ruleNumbers) H := by rw [hH]; exact hP
  have hS : va_S A s.heap H locs := by rw [hH, hlc]; exact hS
  rw [show W p l e _ s m _ below meth c s.heap [] = W p l e _ s m _ below meth c H locs from by rw [hH, hlc]]
  refine lv_aload_n hx hb dX0_bestLook_0 rfl (lv_at hl 0 rfl) ?_
  obtain ⟨⟨vB_1, vB_seen_1⟩, hc1, hok⟩ := k_bind hok
  try dsimp only at hok
  refine kCv (wc := (wX0_lookOnce cy aB qB vB vB_seen vB_ruleNumbers)) (wc2 := (wX0_lookOnce cy aB qB vB_1 vB_seen_1 vB_ruleNumbers)) (wr := []) (ws2 := (wX0_bestLook cy aB qB vB_1 vB_seen_1 vB_ruleNumbers)) (kRunV (As := []) (rest := []) ⟨hx, hb, hml, hown, ht0⟩ (kX0_lookOnce l D cy _ aB qB vB vB_seen vB_ruleNumbers vB_1 vB_seen_1 hc1 _ rfl) (cwV 0 ht0 (gV wd43 wd44 wd45 wd14 wd46) rfl rfl rfl (by decide +kernel) ⟨Nat.le_of_ble_eq_true rfl, Nat.le_of_ble_eq_true rfl⟩) hK hN hP hD [0, 1, 2] rfl (by decide) 0 0 rfl rfl rfl hl.1 rfl (Nat.le_of_ble_eq_true rfl) dX0_bestLook_1 ⟨Nat.zero_le _, Nat.zero_le _⟩) hP hD hS hA [0, 1, 2] [] rfl rfl (by decide) (by decide) [0, 1, 2] (by decide) rfl rfl (fun H locs hP hD hS => ?_)
  refine lv_aload_n hx hb dX0_bestLook_4 rfl (lv_at hl 0 rfl) ?_
  refine va_get (D := D) (ci := 0) (v := .int (vB_1 4)) (C := RX0) (T := TX0) (N := 6) hx hb ht0 niX0 hown hK hP 0 rfl rfl 4 (by decide) (ht0 _ wd33) (fun _ h9 => h9) rfl dX0_bestLook_5 ?_
  cases hok
  exact W.iret hx hb hr (fun t ht hW => ⟨⟨_, (), rfl, rfl, by rw [ht]; exact hP, va_K.moved hW.alike hK, hD⟩, hS.F ht⟩) hS.2.2 dX0_bestLook_8
def wsX0_leftByLook : List Cond := .code yX0_leftByLook cX0_leftByLook 1 (some .int) :: W0
abbrev wX0_leftByLook (cy : Nat → ClassId) (aB : Nat) (qB : Nat → Nat) (vB : Nat → Int32) (vB_seen : Nat → Int32) (vB_ruleNumbers : Nat → Int32) : va_W := [(aB, oX0 vB qB), (qB 1, rI cy 12 vB_seen), (qB 0, rI cy 572 vB_ruleNumbers)]
set_option maxHeartbeats 4000000 in
set_option maxRecDepth 100000 in
theorem kX0_leftByLook (l : Launch) (D : va_G) (cy : Nat → ClassId) (sz : Nat) (aB : Nat) (qB : Nat → Nat) (vB : Nat → Int32) (vB_seen : Nat → Int32) (vB_ruleNumbers : Nat → Int32) (zr : Int32) (z_vB : Nat → Int32) (z_vB_seen : Nat → Int32) (hok : fX0_leftByLook vB vB_seen vB_ruleNumbers = some (zr, z_vB, z_vB_seen)) (A : Nat → Prop) (hAe : va_A (wX0_leftByLook cy aB qB vB vB_seen vB_ruleNumbers) sz = A) : Met l yX0_leftByLook wsX0_leftByLook ({ frames := 3, cells := 0, slots := 0, locals := 69 } : Room) (kPre D cy [.ref aB] (wX0_leftByLook cy aB qB vB vB_seen vB_ruleNumbers) sz) (kQi D cy zr A (wX0_leftByLook cy aB qB z_vB z_vB_seen vB_ruleNumbers)) 0 0 A := by
  refine Met.ofW (cc := cX0_leftByLook) (maxL := 1) (ret := (some .int)) (by decide) rfl ?_
  intro p e s m args below meth c s₁ B hml hv
  obtain ⟨rfl, hsz, hP, hK, hD0, hN⟩ := hv
  have hx := B.exec
  have hb := B.bytes
  have hr := B.returns
  have ht0 : ∀ w ∈ W0, w.before _ s = true := fun w h => atoms_spec (ws := wsX0_leftByLook) B.pre w (List.mem_cons_of_mem _ h)
  have hown : s.vm.findClass RX0 = some m.cls := findClass_of_methodNamed B.named
  have hlocks := B.notSynchronized
  subst hsz
  have hD : va_D A (wX0_leftByLook cy aB qB vB vB_seen vB_ruleNumbers) := by rw [← hAe]; exact hD0.self
  have hA : ∀ q : Nat, s.heap.size ≤ q → A q := fun q h => by rw [← hAe]; exact Or.inr h
  have hS : va_S A s.heap s.heap [] := va_S.rf
  have hl := lv_entry ([.ref aB]) (n := 1) (Nat.le_of_ble_eq_true rfl)
  rw [lg_entry_eq]
  generalize (lg_sl ([.ref aB]) ++ List.replicate (1 - (lg_sl ([.ref aB])).length) Slot.unset).toArray = ls at hl ⊢
  have hl : lv_has ls 1 [(0, .ref aB)] := hl
  unfold fX0_leftByLook at hok
  obtain ⟨H, hH⟩ : ∃ H, H = s.heap := ⟨_, rfl⟩
  obtain ⟨locs, hlc⟩ : ∃ x : List Loc, x = [] := ⟨_, rfl⟩
  have hP : va_P D vwCl (wX0_leftByLook cy aB qB vB vB_seen vB_ruleNumbers) H := by rw [hH]; exact hP
  have hS : va_S A s.heap H locs := by rw [hH, hlc]; exact hS
  rw [show W p l e _ s m _ below meth c s.heap [] = W p l e _ s m _ below meth c H locs from by rw [hH, hlc]]
  refine lv_aload_n hx hb dX0_leftByLook_0 rfl (lv_at hl 0 rfl) ?_
  obtain ⟨⟨vB_1, vB_seen_1⟩, hc1, hok⟩ := k_bind hok
  try dsimp only at hok
  refine kCv (wc := (wX0_lookOnce cy aB qB vB vB_seen vB_ruleNumbers)) (wc2 := (wX0_lookOnce cy aB qB vB_1 vB_seen_1 vB_ruleNumbers)) (wr := []) (ws2 := (wX0_leftByLook cy aB qB vB_1 vB_seen_1 vB_ruleNumbers)) (kRunV (As := []) (rest := []) ⟨hx, hb, hml, hown, ht0⟩ (kX0_lookOnce l D cy _ aB qB vB vB_seen vB_ruleNumbers vB_1 vB_seen_1 hc1 _ rfl) (cwV 0 ht0 (gV wd43 wd44 wd45 wd14 wd46) rfl rfl rfl (by decide +kernel) ⟨Nat.le_of_ble_eq_true rfl, Nat.le_of_ble_eq_true rfl⟩) hK hN hP hD [0, 1, 2] rfl (by decide) 0 0 rfl rfl rfl hl.1 rfl (Nat.le_of_ble_eq_true rfl) dX0_leftByLook_1 ⟨Nat.zero_le _, Nat.zero_le _⟩) hP hD hS hA [0, 1, 2] [] rfl rfl (by decide) (by decide) [0, 1, 2] (by decide) rfl rfl (fun H locs hP hD hS => ?_)
  refine lv_aload_n hx hb dX0_leftByLook_4 rfl (lv_at hl 0 rfl) ?_
  refine va_get (D := D) (ci := 0) (v := .int (vB_1 5)) (C := RX0) (T := TX0) (N := 6) hx hb ht0 niX0 hown hK hP 0 rfl rfl 5 (by decide) (ht0 _ wd34) (fun _ h9 => h9) rfl dX0_leftByLook_5 ?_
  cases hok
  exact W.iret hx hb hr (fun t ht hW => ⟨⟨_, (), rfl, rfl, by rw [ht]; exact hP, va_K.moved hW.alike hK, hD⟩, hS.F ht⟩) hS.2.2 dX0_leftByLook_8
def wsX4_firstCellOf : List Cond := .code yX4_firstCellOf cX4_firstCellOf 2 (some .int) :: W0
abbrev wX4_firstCellOf (cy : Nat → ClassId) (aH : Nat) (qH : Nat → Nat) (vH : Nat → Int32) (vH_firstCells : Nat → Int32) : va_W := [(aH, oX4 vH qH), (qH 16, rI cy 7 vH_firstCells)]
set_option maxHeartbeats 4000000 in
set_option maxRecDepth 100000 in
theorem kX4_firstCellOf (l : Launch) (D : va_G) (cy : Nat → ClassId) (sz : Nat) (aH : Nat) (qH : Nat → Nat) (vH : Nat → Int32) (vH_firstCells : Nat → Int32) (x1 : Int32) (zr : Int32) (hok : fX4_firstCellOf vH vH_firstCells x1 = some zr) (A : Nat → Prop) (hAe : va_A (wX4_firstCellOf cy aH qH vH vH_firstCells) sz = A) : Met l yX4_firstCellOf wsX4_firstCellOf ({ frames := 0, cells := 0, slots := 0, locals := 0 } : Room) (kPre D cy [.ref aH, .int x1] (wX4_firstCellOf cy aH qH vH vH_firstCells) sz) (kQi D cy zr A (wX4_firstCellOf cy aH qH vH vH_firstCells)) 0 0 A := by
  refine Met.ofW (cc := cX4_firstCellOf) (maxL := 2) (ret := (some .int)) (by decide) rfl ?_
  intro p e s m args below meth c s₁ B hml hv
  obtain ⟨rfl, hsz, hP, hK, hD0, hN⟩ := hv
  have hx := B.exec
  have hb := B.bytes
  have hr := B.returns
  have ht0 : ∀ w ∈ W0, w.before _ s = true := fun w h => atoms_spec (ws := wsX4_firstCellOf) B.pre w (List.mem_cons_of_mem _ h)
  have hown : s.vm.findClass RX4 = some m.cls := findClass_of_methodNamed B.named
  have hlocks := B.notSynchronized
  subst hsz
  have hD : va_D A (wX4_firstCellOf cy aH qH vH vH_firstCells) := by rw [← hAe]; exact hD0.self
  have hA : ∀ q : Nat, s.heap.size ≤ q → A q := fun q h => by rw [← hAe]; exact Or.inr h
  have hS : va_S A s.heap s.heap [] := va_S.rf
  have hl := lv_entry ([.ref aH, .int x1]) (n := 2) (Nat.le_of_ble_eq_true rfl)
  rw [lg_entry_eq]
  generalize (lg_sl ([.ref aH, .int x1]) ++ List.replicate (2 - (lg_sl ([.ref aH, .int x1])).length) Slot.unset).toArray = ls at hl ⊢
  have hl : lv_has ls 2 [(0, .ref aH), (1, .int x1)] := hl
  generalize hQe : MQ below (kQi D cy zr A (wX4_firstCellOf cy aH qH vH vH_firstCells)) ([.ref aH, .int x1] : List Value).toArray s 0 0 A = Q
  have J20 : ∀ (t0_20 : Int32), ∀ (H : Heap) (locs : List Loc) (ls : Array Slot), va_P D vwCl (wX4_firstCellOf cy aH qH vH vH_firstCells) H → va_D A (wX4_firstCellOf cy aH qH vH vH_firstCells) → va_S A s.heap H locs → lv_has ls 2 [] → fX4_firstCellOf_J20 t0_20 = some zr → W p l e ({ frames := 0, cells := 0, slots := 0, locals := 0 } : Room) s m ([.ref aH, .int x1] : List Value).toArray below meth c H locs 0 0 Q (F0 m 20 ls [.int t0_20]) := by
    intro t0_20 H locs ls hP hD hS hl hok
    unfold fX4_firstCellOf_J20 at hok
    cases hok
    subst hQe; exact W.iret hx hb hr (fun t ht hW => ⟨⟨_, (), rfl, rfl, by rw [ht]; exact hP, va_K.moved hW.alike hK, hD⟩, hS.F ht⟩) hS.2.2 dX4_firstCellOf_20
  have J19 : ∀ (H : Heap) (locs : List Loc) (ls : Array Slot), va_P D vwCl (wX4_firstCellOf cy aH qH vH vH_firstCells) H → va_D A (wX4_firstCellOf cy aH qH vH vH_firstCells) → va_S A s.heap H locs → lv_has ls 2 [] → fX4_firstCellOf_J19 = some zr → W p l e ({ frames := 0, cells := 0, slots := 0, locals := 0 } : Room) s m ([.ref aH, .int x1] : List Value).toArray below meth c H locs 0 0 Q (F0 m 19 ls []) := by
    intro  H locs ls hP hD hS hl hok
    unfold fX4_firstCellOf_J19 at hok
    refine lv_iconst (v := 0) hx hb dX4_firstCellOf_19 (by decide) ?_
    exact J20 (0 : Int32) H locs ls hP hD hS (lv_sub hl [] rfl) hok
  unfold fX4_firstCellOf at hok
  obtain ⟨H, hH⟩ : ∃ H, H = s.heap := ⟨_, rfl⟩
  obtain ⟨locs, hlc⟩ : ∃ x : List Loc, x = [] := ⟨_, rfl⟩
  have hP : va_P D vwCl (wX4_firstCellOf cy aH qH vH vH_firstCells) H := by rw [hH]; exact hP
  have hS : va_S A s.heap H locs := by rw [hH, hlc]; exact hS
  rw [show W p l e _ s m _ below meth c s.heap [] = W p l e _ s m _ below meth c H locs from by rw [hH, hlc]]
  refine lv_iload_n hx hb dX4_firstCellOf_0 rfl (lv_at hl 1 rfl) ?_
  refine lv_if_lt (tgt := 19) hx hb dX4_firstCellOf_1 (by decide) (fun c1 => ?_) (fun c1 => ?_)
  · have hok := k_pos c1 hok
    exact J19  H locs ls hP hD hS (lv_sub hl [] rfl) hok
  · have hok := k_neg c1 hok
    refine lv_iload_n hx hb dX4_firstCellOf_4 rfl (lv_at hl 1 rfl) ?_
    refine lv_bipush (v := 7) hx hb dX4_firstCellOf_5 (by decide) ?_
    refine lv_icmp_ge (tgt := 19) hx hb dX4_firstCellOf_7 (by decide) (fun c7 => ?_) (fun c7 => ?_)
    · have hok := k_pos c7 hok
      exact J19  H locs ls hP hD hS (lv_sub hl [] rfl) hok
    · have hok := k_neg c7 hok
      refine lv_aload_n hx hb dX4_firstCellOf_10 rfl (lv_at hl 0 rfl) ?_
      refine va_get (D := D) (ci := 3) (v := .ref (qH 16)) (C := RX4) (T := TX4) (N := 20) hx hb ht0 niX4 hown hK hP 0 rfl rfl 16 (by decide) (ht0 _ wd47) (fun _ h9 => h9) rfl dX4_firstCellOf_11 ?_
      refine lv_iload_n hx hb dX4_firstCellOf_14 rfl (lv_at hl 1 rfl) ?_
      obtain ⟨g15, hok⟩ := gd_some hok
      refine va_iald hx hb hK hP 1 0 rfl rfl (okI_in g15) dX4_firstCellOf_15 ?_
      refine lv_goto (tgt := 20) hx hb dX4_firstCellOf_16 (by decide) ?_
      exact J20 (vH_firstCells x1.toNatClampNeg) H locs ls hP hD hS (lv_sub hl [] rfl) hok
def wsX1_begin : List Cond := .code yX1_begin cX1_begin 3 none :: W0
abbrev wX1_begin (cy : Nat → ClassId) (aD : Nat) (aH : Nat) (qD : Nat → Nat) (qH : Nat → Nat) (vD : Nat → Int32) (vD_now : Nat → Int32) (vH : Nat → Int32) (vH_firstCells : Nat → Int32) : va_W := [(aD, oX1 vD qD), (qD 0, rI cy 9 vD_now), (aH, oX4 vH qH), (qH 16, rI cy 7 vH_firstCells)]
set_option maxHeartbeats 4000000 in
set_option maxRecDepth 100000 in
theorem kX1_begin (l : Launch) (D : va_G) (cy : Nat → ClassId) (sz : Nat) (aD : Nat) (aH : Nat) (qD : Nat → Nat) (qH : Nat → Nat) (vD : Nat → Int32) (vD_now : Nat → Int32) (vH : Nat → Int32) (vH_firstCells : Nat → Int32) (z_vD : Nat → Int32) (z_vD_now : Nat → Int32) (hok : fX1_begin vD vD_now vH vH_firstCells = some (z_vD, z_vD_now)) (A : Nat → Prop) (hAe : va_A (wX1_begin cy aD aH qD qH vD vD_now vH vH_firstCells) sz = A) : Met l yX1_begin wsX1_begin ({ frames := 1, cells := 0, slots := 0, locals := 23 } : Room) (kPre D cy [.ref aD, .ref aH] (wX1_begin cy aD aH qD qH vD vD_now vH vH_firstCells) sz) (kQv D cy A (wX1_begin cy aD aH qD qH z_vD z_vD_now vH vH_firstCells)) 0 0 A := by
  refine Met.ofW (cc := cX1_begin) (maxL := 3) (ret := none) (by decide) rfl ?_
  intro p e s m args below meth c s₁ B hml hv
  obtain ⟨rfl, hsz, hP, hK, hD0, hN⟩ := hv
  have hx := B.exec
  have hb := B.bytes
  have hr := B.returns
  have ht0 : ∀ w ∈ W0, w.before _ s = true := fun w h => atoms_spec (ws := wsX1_begin) B.pre w (List.mem_cons_of_mem _ h)
  have hown : s.vm.findClass RX1 = some m.cls := findClass_of_methodNamed B.named
  have hlocks := B.notSynchronized
  subst hsz
  have hD : va_D A (wX1_begin cy aD aH qD qH vD vD_now vH vH_firstCells) := by rw [← hAe]; exact hD0.self
  have hA : ∀ q : Nat, s.heap.size ≤ q → A q := fun q h => by rw [← hAe]; exact Or.inr h
  have hS : va_S A s.heap s.heap [] := va_S.rf
  have hl := lv_entry ([.ref aD, .ref aH]) (n := 3) (Nat.le_of_ble_eq_true rfl)
  rw [lg_entry_eq]
  generalize (lg_sl ([.ref aD, .ref aH]) ++ List.replicate (3 - (lg_sl ([.ref aD, .ref aH])).length) Slot.unset).toArray = ls at hl ⊢
  have hl : lv_has ls 3 [(0, .ref aD), (1, .ref aH)] := hl
  generalize hQe : MQ below (kQv D cy A (wX1_begin cy aD aH qD qH z_vD z_vD_now vH vH_firstCells)) ([.ref aD, .ref aH] : List Value).toArray s 0 0 A = Q
  have L10 : ∀ (fuel : Nat) (y2_10 : Int32) (vD_now_10 : Nat → Int32), ∀ (H : Heap) (locs : List Loc) (ls : Array Slot), va_P D vwCl (wX1_begin cy aD aH qD qH vD vD_now_10 vH vH_firstCells) H → va_D A (wX1_begin cy aD aH qD qH vD vD_now_10 vH vH_firstCells) → va_S A s.heap H locs → lv_has ls 3 [(0, .ref aD), (1, .ref aH), (2, .int y2_10)] → lp (fX1_begin_B10 vD vH vH_firstCells) fuel (y2_10, vD_now_10) = some (z_vD, z_vD_now) → W p l e ({ frames := 1, cells := 0, slots := 0, locals := 23 } : Room) s m ([.ref aD, .ref aH] : List Value).toArray below meth c H locs 0 0 Q (F0 m 10 ls []) := by
    intro fuel
    induction fuel with
    | zero => intro y2_10 vD_now_10 H locs ls hP hD hS hl hok; exact (lp_0 hok).elim
    | succ fuel ih10 =>
      intro y2_10 vD_now_10 H locs ls hP hD hS hl hok
      obtain ⟨y10, hok, hL10, hR10⟩ := lp_step hok
      unfold fX1_begin_B10 at hok
      try dsimp only at hok
      refine lv_iload_n hx hb dX1_begin_10 rfl (lv_at hl 2 rfl) ?_
      refine lv_bipush (v := 7) hx hb dX1_begin_11 (by decide) ?_
      refine lv_icmp_ge (tgt := 33) hx hb dX1_begin_13 (by decide) (fun c13 => ?_) (fun c13 => ?_)
      · have hok := k_pos c13 hok
        obtain ⟨e10, hok, he10⟩ := ex_some hok
        have hok := hok.trans (congrArg some (hL10 _ he10))
        refine lv_aload_n hx hb dX1_begin_33 rfl (lv_at hl 0 rfl) ?_
        refine lv_iconst (v := 0) hx hb dX1_begin_34 (by decide) ?_
        refine va_put (D := D) (ci := 1) (v := .int 0) (ty := .int) (C := RX1) (T := TX1) (N := 6) hx hb ht0 niX1 tyX1 tyX1_ok nmX1 hown hK hP hD hS 0 rfl rfl 3 (by decide) (ht0 _ wd48) (fun _ h9 => h9) rfl (by decide +kernel) rfl rfl (Nat.le_of_ble_eq_true rfl) dX1_begin_35 (fun H locs hP hD hS => ?_)
        have hP : va_P D vwCl (wX1_begin cy aD aH qD qH (upd vD 3 (0 : Int32)) vD_now_10 vH vH_firstCells) H := hP
        have hD : va_D A (wX1_begin cy aD aH qD qH (upd vD 3 (0 : Int32)) vD_now_10 vH vH_firstCells) := hD
        refine lv_aload_n hx hb dX1_begin_38 rfl (lv_at hl 0 rfl) ?_
        refine lv_iconst (v := 0) hx hb dX1_begin_39 (by decide) ?_
        refine va_put (D := D) (ci := 1) (v := .int 0) (ty := .int) (C := RX1) (T := TX1) (N := 6) hx hb ht0 niX1 tyX1 tyX1_ok nmX1 hown hK hP hD hS 0 rfl rfl 5 (by decide) (ht0 _ wd49) (fun _ h9 => h9) rfl (by decide +kernel) rfl rfl (Nat.le_of_ble_eq_true rfl) dX1_begin_40 (fun H locs hP hD hS => ?_)
        have hP : va_P D vwCl (wX1_begin cy aD aH qD qH (upd (upd vD 3 (0 : Int32)) 5 (0 : Int32)) vD_now_10 vH vH_firstCells) H := hP
        have hD : va_D A (wX1_begin cy aD aH qD qH (upd (upd vD 3 (0 : Int32)) 5 (0 : Int32)) vD_now_10 vH vH_firstCells) := hD
        cases hok
        subst hQe; exact W.vret hx hb hr (fun t ht hW => ⟨⟨(), rfl, trivial, by rw [ht]; exact hP, va_K.moved hW.alike hK, hD⟩, hS.F ht⟩) hS.2.2 dX1_begin_43
      · have hok := k_neg c13 hok
        refine lv_aload_n hx hb dX1_begin_16 rfl (lv_at hl 0 rfl) ?_
        refine va_get (D := D) (ci := 1) (v := .ref (qD 0)) (C := RX1) (T := TX1) (N := 6) hx hb ht0 niX1 hown hK hP 0 rfl rfl 0 (by decide) (ht0 _ wd50) (fun _ h9 => h9) rfl dX1_begin_17 ?_
        refine lv_iload_n hx hb dX1_begin_20 rfl (lv_at hl 2 rfl) ?_
        refine lv_aload_n hx hb dX1_begin_21 rfl (lv_at hl 1 rfl) ?_
        refine lv_iload_n hx hb dX1_begin_22 rfl (lv_at hl 2 rfl) ?_
        obtain ⟨r23, hc23, hok⟩ := k_bind hok
        refine kCi (wc := (wX4_firstCellOf cy aH qH vH vH_firstCells)) (wc2 := (wX4_firstCellOf cy aH qH vH vH_firstCells)) (wr := [(aD, oX1 vD qD), (qD 0, rI cy 9 vD_now_10)]) (ws2 := (wX1_begin cy aD aH qD qH vD vD_now_10 vH vH_firstCells)) (kRunV (As := [.int y2_10]) (rest := [.int y2_10, .ref (qD 0)]) ⟨hx, hb, hml, hown, ht0⟩ (kX4_firstCellOf l D cy _ aH qH vH vH_firstCells y2_10 r23 hc23 _ rfl) (cwV 1 ht0 (gV wd51 wd52 wd53 wd9 wd54) rfl rfl rfl (by decide +kernel) ⟨Nat.le_of_ble_eq_true rfl, Nat.le_of_ble_eq_true rfl⟩) hK hN hP hD [2, 3] rfl (by decide) 2 3 rfl rfl rfl hl.1 rfl (Nat.le_of_ble_eq_true rfl) dX1_begin_23 ⟨Nat.zero_le _, Nat.zero_le _⟩) hP hD hS hA [2, 3] [0, 1] rfl rfl (by decide) (by decide) [0, 1, 2, 3] (by decide) rfl rfl (fun H locs hP hD hS => ?_)
        obtain ⟨g26, hok⟩ := gd_some hok
        refine va_iast hx hb hK hP hD hS 1 0 rfl rfl (okI_in g26) dX1_begin_26 (fun H locs hP hD hS => ?_)
        have hP : va_P D vwCl (wX1_begin cy aD aH qD qH vD (upd vD_now_10 y2_10.toNatClampNeg r23) vH vH_firstCells) H := hP
        have hD : va_D A (wX1_begin cy aD aH qD qH vD (upd vD_now_10 y2_10.toNatClampNeg r23) vH vH_firstCells) := hD
        refine lv_iinc (v := (y2_10 + 1)) (lv' := [(2, .int (y2_10 + 1)), (0, .ref aD), (1, .ref aH)]) hx hb dX1_begin_27 hl (k := 2) rfl (by first | rfl | decide) (by decide) rfl (fun ls hl => ?_)
        refine lv_goto (tgt := 10) hx hb dX1_begin_30 (by decide) ?_
        exact ih10 (y2_10 + 1) (upd vD_now_10 y2_10.toNatClampNeg r23) H locs ls hP hD hS (lv_sub hl [1, 2, 0] rfl) (hR10 _ (Option.some.inj hok).symm)
  unfold fX1_begin at hok
  obtain ⟨H, hH⟩ : ∃ H, H = s.heap := ⟨_, rfl⟩
  obtain ⟨locs, hlc⟩ : ∃ x : List Loc, x = [] := ⟨_, rfl⟩
  have hP : va_P D vwCl (wX1_begin cy aD aH qD qH vD vD_now vH vH_firstCells) H := by rw [hH]; exact hP
  have hS : va_S A s.heap H locs := by rw [hH, hlc]; exact hS
  rw [show W p l e _ s m _ below meth c s.heap [] = W p l e _ s m _ below meth c H locs from by rw [hH, hlc]]
  refine lv_aload_n hx hb dX1_begin_0 rfl (lv_at hl 0 rfl) ?_
  refine va_get (D := D) (ci := 1) (v := .ref (qD 0)) (C := RX1) (T := TX1) (N := 6) hx hb ht0 niX1 hown hK hP 0 rfl rfl 0 (by decide) (ht0 _ wd50) (fun _ h9 => h9) rfl dX1_begin_1 ?_
  refine lv_iconst (v := 0) hx hb dX1_begin_4 (by decide) ?_
  obtain ⟨p0_5, hc5, hok⟩ := k_bind hok
  refine kCv (wc := (wJ7_fill_53178 cy (qD 0) 9 vD_now)) (wc2 := (wJ7_fill_53178 cy (qD 0) 9 p0_5)) (wr := [(aD, oX1 vD qD), (aH, oX4 vH qH), (qH 16, rI cy 7 vH_firstCells)]) (ws2 := (wX1_begin cy aD aH qD qH vD p0_5 vH vH_firstCells)) (kRunS (As := [.ref (qD 0), .int 0]) (rest := []) ⟨hx, hb, hml, hown, ht0⟩ (kJ7_fill_53178 l D cy _ (qD 0) 9 vD_now (0 : Int32) p0_5 hc5 _ rfl) (va_cwS 2 ht0 (gS wd55 wd30 wd31 wd32) rfl rfl rfl (by decide +kernel) ⟨Nat.le_of_ble_eq_true rfl, Nat.le_of_ble_eq_true rfl⟩) hK hN hP hD [1] rfl (by decide) rfl hl.1 rfl (Nat.le_of_ble_eq_true rfl) dX1_begin_5 ⟨Nat.zero_le _, Nat.zero_le _⟩) hP hD hS hA [1] [0, 2, 3] rfl rfl (by decide) (by decide) [0, 3, 1, 2] (by decide) rfl rfl (fun H locs hP hD hS => ?_)
  refine lv_iconst (v := 0) hx hb dX1_begin_8 (by decide) ?_
  refine lv_istore_n (lv' := [(2, .int 0), (0, .ref aD), (1, .ref aH)]) hx hb dX1_begin_9 rfl hl (by decide) rfl (fun ls hl => ?_)
  exact L10 5000 (0 : Int32) p0_5 H locs ls hP hD hS (lv_sub hl [1, 2, 0] rfl) hok
def wsX1_cellOf : List Cond := .code yX1_cellOf cX1_cellOf 2 (some .int) :: W0
abbrev wX1_cellOf (cy : Nat → ClassId) (aD : Nat) (qD : Nat → Nat) (vD : Nat → Int32) (vD_now : Nat → Int32) : va_W := [(aD, oX1 vD qD), (qD 0, rI cy 9 vD_now)]
set_option maxHeartbeats 4000000 in
set_option maxRecDepth 100000 in
theorem kX1_cellOf (l : Launch) (D : va_G) (cy : Nat → ClassId) (sz : Nat) (aD : Nat) (qD : Nat → Nat) (vD : Nat → Int32) (vD_now : Nat → Int32) (x1 : Int32) (zr : Int32) (hok : fX1_cellOf vD vD_now x1 = some zr) (A : Nat → Prop) (hAe : va_A (wX1_cellOf cy aD qD vD vD_now) sz = A) : Met l yX1_cellOf wsX1_cellOf ({ frames := 0, cells := 0, slots := 0, locals := 0 } : Room) (kPre D cy [.ref aD, .int x1] (wX1_cellOf cy aD qD vD vD_now) sz) (kQi D cy zr A (wX1_cellOf cy aD qD vD vD_now)) 0 0 A := by
  refine Met.ofW (cc := cX1_cellOf) (maxL := 2) (ret := (some .int)) (by decide) rfl ?_
  intro p e s m args below meth c s₁ B hml hv
  obtain ⟨rfl, hsz, hP, hK, hD0, hN⟩ := hv
  have hx := B.exec
  have hb := B.bytes
  have hr := B.returns
  have ht0 : ∀ w ∈ W0, w.before _ s = true := fun w h => atoms_spec (ws := wsX1_cellOf) B.pre w (List.mem_cons_of_mem _ h)
  have hown : s.vm.findClass RX1 = some m.cls := findClass_of_methodNamed B.named
  have hlocks := B.notSynchronized
  subst hsz
  have hD : va_D A (wX1_cellOf cy aD qD vD vD_now) := by rw [← hAe]; exact hD0.self
  have hA : ∀ q : Nat, s.heap.size ≤ q → A q := fun q h => by rw [← hAe]; exact Or.inr h
  have hS : va_S A s.heap s.heap [] := va_S.rf
  have hl := lv_entry ([.ref aD, .int x1]) (n := 2) (Nat.le_of_ble_eq_true rfl)
  rw [lg_entry_eq]
  generalize (lg_sl ([.ref aD, .int x1]) ++ List.replicate (2 - (lg_sl ([.ref aD, .int x1])).length) Slot.unset).toArray = ls at hl ⊢
  have hl : lv_has ls 2 [(0, .ref aD), (1, .int x1)] := hl
  generalize hQe : MQ below (kQi D cy zr A (wX1_cellOf cy aD qD vD vD_now)) ([.ref aD, .int x1] : List Value).toArray s 0 0 A = Q
  have J20 : ∀ (t0_20 : Int32), ∀ (H : Heap) (locs : List Loc) (ls : Array Slot), va_P D vwCl (wX1_cellOf cy aD qD vD vD_now) H → va_D A (wX1_cellOf cy aD qD vD vD_now) → va_S A s.heap H locs → lv_has ls 2 [] → fX1_cellOf_J20 t0_20 = some zr → W p l e ({ frames := 0, cells := 0, slots := 0, locals := 0 } : Room) s m ([.ref aD, .int x1] : List Value).toArray below meth c H locs 0 0 Q (F0 m 20 ls [.int t0_20]) := by
    intro t0_20 H locs ls hP hD hS hl hok
    unfold fX1_cellOf_J20 at hok
    cases hok
    subst hQe; exact W.iret hx hb hr (fun t ht hW => ⟨⟨_, (), rfl, rfl, by rw [ht]; exact hP, va_K.moved hW.alike hK, hD⟩, hS.F ht⟩) hS.2.2 dX1_cellOf_20
  have J19 : ∀ (H : Heap) (locs : List Loc) (ls : Array Slot), va_P D vwCl (wX1_cellOf cy aD qD vD vD_now) H → va_D A (wX1_cellOf cy aD qD vD vD_now) → va_S A s.heap H locs → lv_has ls 2 [] → fX1_cellOf_J19 = some zr → W p l e ({ frames := 0, cells := 0, slots := 0, locals := 0 } : Room) s m ([.ref aD, .int x1] : List Value).toArray below meth c H locs 0 0 Q (F0 m 19 ls []) := by
    intro  H locs ls hP hD hS hl hok
    unfold fX1_cellOf_J19 at hok
    refine lv_iconst (v := 0) hx hb dX1_cellOf_19 (by decide) ?_
    exact J20 (0 : Int32) H locs ls hP hD hS (lv_sub hl [] rfl) hok
  unfold fX1_cellOf at hok
  obtain ⟨H, hH⟩ : ∃ H, H = s.heap := ⟨_, rfl⟩
  obtain ⟨locs, hlc⟩ : ∃ x : List Loc, x = [] := ⟨_, rfl⟩
  have hP : va_P D vwCl (wX1_cellOf cy aD qD vD vD_now) H := by rw [hH]; exact hP
  have hS : va_S A s.heap H locs := by rw [hH, hlc]; exact hS
  rw [show W p l e _ s m _ below meth c s.heap [] = W p l e _ s m _ below meth c H locs from by rw [hH, hlc]]
  refine lv_iload_n hx hb dX1_cellOf_0 rfl (lv_at hl 1 rfl) ?_
  refine lv_if_lt (tgt := 19) hx hb dX1_cellOf_1 (by decide) (fun c1 => ?_) (fun c1 => ?_)
  · have hok := k_pos c1 hok
    exact J19  H locs ls hP hD hS (lv_sub hl [] rfl) hok
  · have hok := k_neg c1 hok
    refine lv_iload_n hx hb dX1_cellOf_4 rfl (lv_at hl 1 rfl) ?_
    refine lv_bipush (v := 7) hx hb dX1_cellOf_5 (by decide) ?_
    refine lv_icmp_ge (tgt := 19) hx hb dX1_cellOf_7 (by decide) (fun c7 => ?_) (fun c7 => ?_)
    · have hok := k_pos c7 hok
      exact J19  H locs ls hP hD hS (lv_sub hl [] rfl) hok
    · have hok := k_neg c7 hok
      refine lv_aload_n hx hb dX1_cellOf_10 rfl (lv_at hl 0 rfl) ?_
      refine va_get (D := D) (ci := 1) (v := .ref (qD 0)) (C := RX1) (T := TX1) (N := 6) hx hb ht0 niX1 hown hK hP 0 rfl rfl 0 (by decide) (ht0 _ wd50) (fun _ h9 => h9) rfl dX1_cellOf_11 ?_
      refine lv_iload_n hx hb dX1_cellOf_14 rfl (lv_at hl 1 rfl) ?_
      obtain ⟨g15, hok⟩ := gd_some hok
      refine va_iald hx hb hK hP 1 0 rfl rfl (okI_in g15) dX1_cellOf_15 ?_
      refine lv_goto (tgt := 20) hx hb dX1_cellOf_16 (by decide) ?_
      exact J20 (vD_now x1.toNatClampNeg) H locs ls hP hD hS (lv_sub hl [] rfl) hok
def wsX1_heldBits : List Cond := .code yX1_heldBits cX1_heldBits 1 (some .int) :: W0
abbrev wX1_heldBits (cy : Nat → ClassId) (aD : Nat) (qD : Nat → Nat) (vD : Nat → Int32) (vD_now : Nat → Int32) : va_W := [(aD, oX1 vD qD), (qD 0, rI cy 9 vD_now)]
set_option maxHeartbeats 4000000 in
set_option maxRecDepth 100000 in
theorem kX1_heldBits (l : Launch) (D : va_G) (cy : Nat → ClassId) (sz : Nat) (aD : Nat) (qD : Nat → Nat) (vD : Nat → Int32) (vD_now : Nat → Int32) (zr : Int32) (hok : fX1_heldBits vD vD_now = some zr) (A : Nat → Prop) (hAe : va_A (wX1_heldBits cy aD qD vD vD_now) sz = A) : Met l yX1_heldBits wsX1_heldBits ({ frames := 0, cells := 0, slots := 0, locals := 0 } : Room) (kPre D cy [.ref aD] (wX1_heldBits cy aD qD vD vD_now) sz) (kQi D cy zr A (wX1_heldBits cy aD qD vD vD_now)) 0 0 A := by
  refine Met.ofW (cc := cX1_heldBits) (maxL := 1) (ret := (some .int)) (by decide) rfl ?_
  intro p e s m args below meth c s₁ B hml hv
  obtain ⟨rfl, hsz, hP, hK, hD0, hN⟩ := hv
  have hx := B.exec
  have hb := B.bytes
  have hr := B.returns
  have ht0 : ∀ w ∈ W0, w.before _ s = true := fun w h => atoms_spec (ws := wsX1_heldBits) B.pre w (List.mem_cons_of_mem _ h)
  have hown : s.vm.findClass RX1 = some m.cls := findClass_of_methodNamed B.named
  have hlocks := B.notSynchronized
  subst hsz
  have hD : va_D A (wX1_heldBits cy aD qD vD vD_now) := by rw [← hAe]; exact hD0.self
  have hA : ∀ q : Nat, s.heap.size ≤ q → A q := fun q h => by rw [← hAe]; exact Or.inr h
  have hS : va_S A s.heap s.heap [] := va_S.rf
  have hl := lv_entry ([.ref aD]) (n := 1) (Nat.le_of_ble_eq_true rfl)
  rw [lg_entry_eq]
  generalize (lg_sl ([.ref aD]) ++ List.replicate (1 - (lg_sl ([.ref aD])).length) Slot.unset).toArray = ls at hl ⊢
  have hl : lv_has ls 1 [(0, .ref aD)] := hl
  unfold fX1_heldBits at hok
  obtain ⟨H, hH⟩ : ∃ H, H = s.heap := ⟨_, rfl⟩
  obtain ⟨locs, hlc⟩ : ∃ x : List Loc, x = [] := ⟨_, rfl⟩
  have hP : va_P D vwCl (wX1_heldBits cy aD qD vD vD_now) H := by rw [hH]; exact hP
  have hS : va_S A s.heap H locs := by rw [hH, hlc]; exact hS
  rw [show W p l e _ s m _ below meth c s.heap [] = W p l e _ s m _ below meth c H locs from by rw [hH, hlc]]
  refine lv_aload_n hx hb dX1_heldBits_0 rfl (lv_at hl 0 rfl) ?_
  refine va_get (D := D) (ci := 1) (v := .ref (qD 0)) (C := RX1) (T := TX1) (N := 6) hx hb ht0 niX1 hown hK hP 0 rfl rfl 0 (by decide) (ht0 _ wd50) (fun _ h9 => h9) rfl dX1_heldBits_1 ?_
  refine lv_bipush (v := 7) hx hb dX1_heldBits_4 (by decide) ?_
  obtain ⟨g6, hok⟩ := gd_some hok
  refine va_iald hx hb hK hP 1 0 rfl rfl (okI_in g6) dX1_heldBits_6 ?_
  cases hok
  exact W.iret hx hb hr (fun t ht hW => ⟨⟨_, (), rfl, rfl, by rw [ht]; exact hP, va_K.moved hW.alike hK, hD⟩, hS.F ht⟩) hS.2.2 dX1_heldBits_7
def wsX1_isHeld : List Cond := .code yX1_isHeld cX1_isHeld 2 (some .boolean) :: W0
abbrev wX1_isHeld (cy : Nat → ClassId) (aD : Nat) (qD : Nat → Nat) (vD : Nat → Int32) (vD_now : Nat → Int32) : va_W := [(aD, oX1 vD qD), (qD 0, rI cy 9 vD_now)]
set_option maxHeartbeats 4000000 in
set_option maxRecDepth 100000 in
theorem kX1_isHeld (l : Launch) (D : va_G) (cy : Nat → ClassId) (sz : Nat) (aD : Nat) (qD : Nat → Nat) (vD : Nat → Int32) (vD_now : Nat → Int32) (x1 : Int32) (zr : Int32) (hok : fX1_isHeld vD vD_now x1 = some zr) (A : Nat → Prop) (hAe : va_A (wX1_isHeld cy aD qD vD vD_now) sz = A) : Met l yX1_isHeld wsX1_isHeld ({ frames := 0, cells := 0, slots := 0, locals := 0 } : Room) (kPre D cy [.ref aD, .int x1] (wX1_isHeld cy aD qD vD vD_now) sz) (kQi D cy zr A (wX1_isHeld cy aD qD vD vD_now)) 0 0 A := by
  refine Met.ofW (cc := cX1_isHeld) (maxL := 2) (ret := (some .boolean)) (by decide) rfl ?_
  intro p e s m args below meth c s₁ B hml hv
  obtain ⟨rfl, hsz, hP, hK, hD0, hN⟩ := hv
  have hx := B.exec
  have hb := B.bytes
  have hr := B.returns
  have ht0 : ∀ w ∈ W0, w.before _ s = true := fun w h => atoms_spec (ws := wsX1_isHeld) B.pre w (List.mem_cons_of_mem _ h)
  have hown : s.vm.findClass RX1 = some m.cls := findClass_of_methodNamed B.named
  have hlocks := B.notSynchronized
  subst hsz
  have hD : va_D A (wX1_isHeld cy aD qD vD vD_now) := by rw [← hAe]; exact hD0.self
  have hA : ∀ q : Nat, s.heap.size ≤ q → A q := fun q h => by rw [← hAe]; exact Or.inr h
  have hS : va_S A s.heap s.heap [] := va_S.rf
  have hl := lv_entry ([.ref aD, .int x1]) (n := 2) (Nat.le_of_ble_eq_true rfl)
  rw [lg_entry_eq]
  generalize (lg_sl ([.ref aD, .int x1]) ++ List.replicate (2 - (lg_sl ([.ref aD, .int x1])).length) Slot.unset).toArray = ls at hl ⊢
  have hl : lv_has ls 2 [(0, .ref aD), (1, .int x1)] := hl
  generalize hQe : MQ below (kQi D cy zr A (wX1_isHeld cy aD qD vD vD_now)) ([.ref aD, .int x1] : List Value).toArray s 0 0 A = Q
  have J19 : ∀ (t0_19 : Int32), ∀ (H : Heap) (locs : List Loc) (ls : Array Slot), va_P D vwCl (wX1_isHeld cy aD qD vD vD_now) H → va_D A (wX1_isHeld cy aD qD vD vD_now) → va_S A s.heap H locs → lv_has ls 2 [] → fX1_isHeld_J19 t0_19 = some zr → W p l e ({ frames := 0, cells := 0, slots := 0, locals := 0 } : Room) s m ([.ref aD, .int x1] : List Value).toArray below meth c H locs 0 0 Q (F0 m 19 ls [.int t0_19]) := by
    intro t0_19 H locs ls hP hD hS hl hok
    unfold fX1_isHeld_J19 at hok
    obtain ⟨g19, hok⟩ := gd_some hok
    cases hok
    subst hQe; exact W.zret hx hb hr (isB_nar g19) (fun t ht hW => ⟨⟨_, (), rfl, rfl, by rw [ht]; exact hP, va_K.moved hW.alike hK, hD⟩, hS.F ht⟩) hS.2.2 dX1_isHeld_19
  unfold fX1_isHeld at hok
  obtain ⟨H, hH⟩ : ∃ H, H = s.heap := ⟨_, rfl⟩
  obtain ⟨locs, hlc⟩ : ∃ x : List Loc, x = [] := ⟨_, rfl⟩
  have hP : va_P D vwCl (wX1_isHeld cy aD qD vD vD_now) H := by rw [hH]; exact hP
  have hS : va_S A s.heap H locs := by rw [hH, hlc]; exact hS
  rw [show W p l e _ s m _ below meth c s.heap [] = W p l e _ s m _ below meth c H locs from by rw [hH, hlc]]
  refine lv_aload_n hx hb dX1_isHeld_0 rfl (lv_at hl 0 rfl) ?_
  refine va_get (D := D) (ci := 1) (v := .ref (qD 0)) (C := RX1) (T := TX1) (N := 6) hx hb ht0 niX1 hown hK hP 0 rfl rfl 0 (by decide) (ht0 _ wd50) (fun _ h9 => h9) rfl dX1_isHeld_1 ?_
  refine lv_bipush (v := 7) hx hb dX1_isHeld_4 (by decide) ?_
  obtain ⟨g6, hok⟩ := gd_some hok
  refine va_iald hx hb hK hP 1 0 rfl rfl (okI_in g6) dX1_isHeld_6 ?_
  refine lv_iload_n hx hb dX1_isHeld_7 rfl (lv_at hl 1 rfl) ?_
  refine lv_ishr hx hb dX1_isHeld_8 ?_
  refine lv_iconst (v := 1) hx hb dX1_isHeld_9 (by decide) ?_
  refine lv_iand hx hb dX1_isHeld_10 ?_
  refine lv_if_eq (tgt := 18) hx hb dX1_isHeld_11 (by decide) (fun c11 => ?_) (fun c11 => ?_)
  · have hok := k_pos c11 hok
    refine lv_iconst (v := 0) hx hb dX1_isHeld_18 (by decide) ?_
    exact J19 (0 : Int32) H locs ls hP hD hS (lv_sub hl [] rfl) hok
  · have hok := k_neg c11 hok
    refine lv_iconst (v := 1) hx hb dX1_isHeld_14 (by decide) ?_
    refine lv_goto (tgt := 19) hx hb dX1_isHeld_15 (by decide) ?_
    exact J19 (1 : Int32) H locs ls hP hD hS (lv_sub hl [] rfl) hok
def wsX1_nightNow : List Cond := .code yX1_nightNow cX1_nightNow 1 (some .int) :: W0
abbrev wX1_nightNow (cy : Nat → ClassId) (aD : Nat) (qD : Nat → Nat) (vD : Nat → Int32) (vD_now : Nat → Int32) : va_W := [(aD, oX1 vD qD), (qD 0, rI cy 9 vD_now)]
set_option maxHeartbeats 4000000 in
set_option maxRecDepth 100000 in
theorem kX1_nightNow (l : Launch) (D : va_G) (cy : Nat → ClassId) (sz : Nat) (aD : Nat) (qD : Nat → Nat) (vD : Nat → Int32) (vD_now : Nat → Int32) (zr : Int32) (hok : fX1_nightNow vD vD_now = some zr) (A : Nat → Prop) (hAe : va_A (wX1_nightNow cy aD qD vD vD_now) sz = A) : Met l yX1_nightNow wsX1_nightNow ({ frames := 0, cells := 0, slots := 0, locals := 0 } : Room) (kPre D cy [.ref aD] (wX1_nightNow cy aD qD vD vD_now) sz) (kQi D cy zr A (wX1_nightNow cy aD qD vD vD_now)) 0 0 A := by
  refine Met.ofW (cc := cX1_nightNow) (maxL := 1) (ret := (some .int)) (by decide) rfl ?_
  intro p e s m args below meth c s₁ B hml hv
  obtain ⟨rfl, hsz, hP, hK, hD0, hN⟩ := hv
  have hx := B.exec
  have hb := B.bytes
  have hr := B.returns
  have ht0 : ∀ w ∈ W0, w.before _ s = true := fun w h => atoms_spec (ws := wsX1_nightNow) B.pre w (List.mem_cons_of_mem _ h)
  have hown : s.vm.findClass RX1 = some m.cls := findClass_of_methodNamed B.named
  have hlocks := B.notSynchronized
  subst hsz
  have hD : va_D A (wX1_nightNow cy aD qD vD vD_now) := by rw [← hAe]; exact hD0.self
  have hA : ∀ q : Nat, s.heap.size ≤ q → A q := fun q h => by rw [← hAe]; exact Or.inr h
  have hS : va_S A s.heap s.heap [] := va_S.rf
  have hl := lv_entry ([.ref aD]) (n := 1) (Nat.le_of_ble_eq_true rfl)
  rw [lg_entry_eq]
  generalize (lg_sl ([.ref aD]) ++ List.replicate (1 - (lg_sl ([.ref aD])).length) Slot.unset).toArray = ls at hl ⊢
  have hl : lv_has ls 1 [(0, .ref aD)] := hl
  unfold fX1_nightNow at hok
  obtain ⟨H, hH⟩ : ∃ H, H = s.heap := ⟨_, rfl⟩
  obtain ⟨locs, hlc⟩ : ∃ x : List Loc, x = [] := ⟨_, rfl⟩
  have hP : va_P D vwCl (wX1_nightNow cy aD qD vD vD_now) H := by rw [hH]; exact hP
  have hS : va_S A s.heap H locs := by rw [hH, hlc]; exact hS
  rw [show W p l e _ s m _ below meth c s.heap [] = W p l e _ s m _ below meth c H locs from by rw [hH, hlc]]
  refine lv_aload_n hx hb dX1_nightNow_0 rfl (lv_at hl 0 rfl) ?_
  refine va_get (D := D) (ci := 1) (v := .ref (qD 0)) (C := RX1) (T := TX1) (N := 6) hx hb ht0 niX1 hown hK hP 0 rfl rfl 0 (by decide) (ht0 _ wd50) (fun _ h9 => h9) rfl dX1_nightNow_1 ?_
  refine lv_bipush (v := 8) hx hb dX1_nightNow_4 (by decide) ?_
  obtain ⟨g6, hok⟩ := gd_some hok
  refine va_iald hx hb hK hP 1 0 rfl rfl (okI_in g6) dX1_nightNow_6 ?_
  cases hok
  exact W.iret hx hb hr (fun t ht hW => ⟨⟨_, (), rfl, rfl, by rw [ht]; exact hP, va_K.moved hW.alike hK, hD⟩, hS.F ht⟩) hS.2.2 dX1_nightNow_7
def wsX1_countKept : List Cond := .code yX1_countKept cX1_countKept 1 (some .int) :: W0
abbrev wX1_countKept (cy : Nat → ClassId) (aD : Nat) (qD : Nat → Nat) (vD : Nat → Int32) : va_W := [(aD, oX1 vD qD)]
set_option maxHeartbeats 4000000 in
set_option maxRecDepth 100000 in
theorem kX1_countKept (l : Launch) (D : va_G) (cy : Nat → ClassId) (sz : Nat) (aD : Nat) (qD : Nat → Nat) (vD : Nat → Int32) (zr : Int32) (hok : fX1_countKept vD = some zr) (A : Nat → Prop) (hAe : va_A (wX1_countKept cy aD qD vD) sz = A) : Met l yX1_countKept wsX1_countKept ({ frames := 0, cells := 0, slots := 0, locals := 0 } : Room) (kPre D cy [.ref aD] (wX1_countKept cy aD qD vD) sz) (kQi D cy zr A (wX1_countKept cy aD qD vD)) 0 0 A := by
  refine Met.ofW (cc := cX1_countKept) (maxL := 1) (ret := (some .int)) (by decide) rfl ?_
  intro p e s m args below meth c s₁ B hml hv
  obtain ⟨rfl, hsz, hP, hK, hD0, hN⟩ := hv
  have hx := B.exec
  have hb := B.bytes
  have hr := B.returns
  have ht0 : ∀ w ∈ W0, w.before _ s = true := fun w h => atoms_spec (ws := wsX1_countKept) B.pre w (List.mem_cons_of_mem _ h)
  have hown : s.vm.findClass RX1 = some m.cls := findClass_of_methodNamed B.named
  have hlocks := B.notSynchronized
  subst hsz
  have hD : va_D A (wX1_countKept cy aD qD vD) := by rw [← hAe]; exact hD0.self
  have hA : ∀ q : Nat, s.heap.size ≤ q → A q := fun q h => by rw [← hAe]; exact Or.inr h
  have hS : va_S A s.heap s.heap [] := va_S.rf
  have hl := lv_entry ([.ref aD]) (n := 1) (Nat.le_of_ble_eq_true rfl)
  rw [lg_entry_eq]
  generalize (lg_sl ([.ref aD]) ++ List.replicate (1 - (lg_sl ([.ref aD])).length) Slot.unset).toArray = ls at hl ⊢
  have hl : lv_has ls 1 [(0, .ref aD)] := hl
  unfold fX1_countKept at hok
  obtain ⟨H, hH⟩ : ∃ H, H = s.heap := ⟨_, rfl⟩
  obtain ⟨locs, hlc⟩ : ∃ x : List Loc, x = [] := ⟨_, rfl⟩
  have hP : va_P D vwCl (wX1_countKept cy aD qD vD) H := by rw [hH]; exact hP
  have hS : va_S A s.heap H locs := by rw [hH, hlc]; exact hS
  rw [show W p l e _ s m _ below meth c s.heap [] = W p l e _ s m _ below meth c H locs from by rw [hH, hlc]]
  refine lv_aload_n hx hb dX1_countKept_0 rfl (lv_at hl 0 rfl) ?_
  refine va_get (D := D) (ci := 1) (v := .int (vD 3)) (C := RX1) (T := TX1) (N := 6) hx hb ht0 niX1 hown hK hP 0 rfl rfl 3 (by decide) (ht0 _ wd48) (fun _ h9 => h9) rfl dX1_countKept_1 ?_
  cases hok
  exact W.iret hx hb hr (fun t ht hW => ⟨⟨_, (), rfl, rfl, by rw [ht]; exact hP, va_K.moved hW.alike hK, hD⟩, hS.F ht⟩) hS.2.2 dX1_countKept_4
def wsX1_countImages : List Cond := .code yX1_countImages cX1_countImages 1 (some .int) :: W0
abbrev wX1_countImages (cy : Nat → ClassId) (aD : Nat) (qD : Nat → Nat) (vD : Nat → Int32) : va_W := [(aD, oX1 vD qD)]
set_option maxHeartbeats 4000000 in
set_option maxRecDepth 100000 in
theorem kX1_countImages (l : Launch) (D : va_G) (cy : Nat → ClassId) (sz : Nat) (aD : Nat) (qD : Nat → Nat) (vD : Nat → Int32) (zr : Int32) (hok : fX1_countImages vD = some zr) (A : Nat → Prop) (hAe : va_A (wX1_countImages cy aD qD vD) sz = A) : Met l yX1_countImages wsX1_countImages ({ frames := 0, cells := 0, slots := 0, locals := 0 } : Room) (kPre D cy [.ref aD] (wX1_countImages cy aD qD vD) sz) (kQi D cy zr A (wX1_countImages cy aD qD vD)) 0 0 A := by
  refine Met.ofW (cc := cX1_countImages) (maxL := 1) (ret := (some .int)) (by decide) rfl ?_
  intro p e s m args below meth c s₁ B hml hv
  obtain ⟨rfl, hsz, hP, hK, hD0, hN⟩ := hv
  have hx := B.exec
  have hb := B.bytes
  have hr := B.returns
  have ht0 : ∀ w ∈ W0, w.before _ s = true := fun w h => atoms_spec (ws := wsX1_countImages) B.pre w (List.mem_cons_of_mem _ h)
  have hown : s.vm.findClass RX1 = some m.cls := findClass_of_methodNamed B.named
  have hlocks := B.notSynchronized
  subst hsz
  have hD : va_D A (wX1_countImages cy aD qD vD) := by rw [← hAe]; exact hD0.self
  have hA : ∀ q : Nat, s.heap.size ≤ q → A q := fun q h => by rw [← hAe]; exact Or.inr h
  have hS : va_S A s.heap s.heap [] := va_S.rf
  have hl := lv_entry ([.ref aD]) (n := 1) (Nat.le_of_ble_eq_true rfl)
  rw [lg_entry_eq]
  generalize (lg_sl ([.ref aD]) ++ List.replicate (1 - (lg_sl ([.ref aD])).length) Slot.unset).toArray = ls at hl ⊢
  have hl : lv_has ls 1 [(0, .ref aD)] := hl
  unfold fX1_countImages at hok
  obtain ⟨H, hH⟩ : ∃ H, H = s.heap := ⟨_, rfl⟩
  obtain ⟨locs, hlc⟩ : ∃ x : List Loc, x = [] := ⟨_, rfl⟩
  have hP : va_P D vwCl (wX1_countImages cy aD qD vD) H := by rw [hH]; exact hP
  have hS : va_S A s.heap H locs := by rw [hH, hlc]; exact hS
  rw [show W p l e _ s m _ below meth c s.heap [] = W p l e _ s m _ below meth c H locs from by rw [hH, hlc]]
  refine lv_aload_n hx hb dX1_countImages_0 rfl (lv_at hl 0 rfl) ?_
  refine va_get (D := D) (ci := 1) (v := .int (vD 5)) (C := RX1) (T := TX1) (N := 6) hx hb ht0 niX1 hown hK hP 0 rfl rfl 5 (by decide) (ht0 _ wd49) (fun _ h9 => h9) rfl dX1_countImages_1 ?_
  cases hok
  exact W.iret hx hb hr (fun t ht hW => ⟨⟨_, (), rfl, rfl, by rw [ht]; exact hP, va_K.moved hW.alike hK, hD⟩, hS.F ht⟩) hS.2.2 dX1_countImages_4
def wsX1_thingAt : List Cond := .code yX1_thingAt cX1_thingAt 4 (some .int) :: W0
abbrev wX1_thingAt (cy : Nat → ClassId) (aD : Nat) (qD : Nat → Nat) (vD : Nat → Int32) (vD_now : Nat → Int32) : va_W := [(aD, oX1 vD qD), (qD 0, rI cy 9 vD_now)]
set_option maxHeartbeats 4000000 in
set_option maxRecDepth 100000 in
theorem kX1_thingAt (l : Launch) (D : va_G) (cy : Nat → ClassId) (sz : Nat) (aD : Nat) (qD : Nat → Nat) (vD : Nat → Int32) (vD_now : Nat → Int32) (x1 : Int32) (x2 : Int32) (zr : Int32) (hok : fX1_thingAt vD vD_now x1 x2 = some zr) (A : Nat → Prop) (hAe : va_A (wX1_thingAt cy aD qD vD vD_now) sz = A) : Met l yX1_thingAt wsX1_thingAt ({ frames := 0, cells := 0, slots := 0, locals := 0 } : Room) (kPre D cy [.ref aD, .int x1, .int x2] (wX1_thingAt cy aD qD vD vD_now) sz) (kQi D cy zr A (wX1_thingAt cy aD qD vD vD_now)) 0 0 A := by
  refine Met.ofW (cc := cX1_thingAt) (maxL := 4) (ret := (some .int)) (by decide) rfl ?_
  intro p e s m args below meth c s₁ B hml hv
  obtain ⟨rfl, hsz, hP, hK, hD0, hN⟩ := hv
  have hx := B.exec
  have hb := B.bytes
  have hr := B.returns
  have ht0 : ∀ w ∈ W0, w.before _ s = true := fun w h => atoms_spec (ws := wsX1_thingAt) B.pre w (List.mem_cons_of_mem _ h)
  have hown : s.vm.findClass RX1 = some m.cls := findClass_of_methodNamed B.named
  have hlocks := B.notSynchronized
  subst hsz
  have hD : va_D A (wX1_thingAt cy aD qD vD vD_now) := by rw [← hAe]; exact hD0.self
  have hA : ∀ q : Nat, s.heap.size ≤ q → A q := fun q h => by rw [← hAe]; exact Or.inr h
  have hS : va_S A s.heap s.heap [] := va_S.rf
  have hl := lv_entry ([.ref aD, .int x1, .int x2]) (n := 4) (Nat.le_of_ble_eq_true rfl)
  rw [lg_entry_eq]
  generalize (lg_sl ([.ref aD, .int x1, .int x2]) ++ List.replicate (4 - (lg_sl ([.ref aD, .int x1, .int x2])).length) Slot.unset).toArray = ls at hl ⊢
  have hl : lv_has ls 4 [(0, .ref aD), (1, .int x1), (2, .int x2)] := hl
  generalize hQe : MQ below (kQi D cy zr A (wX1_thingAt cy aD qD vD vD_now)) ([.ref aD, .int x1, .int x2] : List Value).toArray s 0 0 A = Q
  have J31 : ∀ (H : Heap) (locs : List Loc) (ls : Array Slot), va_P D vwCl (wX1_thingAt cy aD qD vD vD_now) H → va_D A (wX1_thingAt cy aD qD vD vD_now) → va_S A s.heap H locs → lv_has ls 4 [] → fX1_thingAt_J31 = some zr → W p l e ({ frames := 0, cells := 0, slots := 0, locals := 0 } : Room) s m ([.ref aD, .int x1, .int x2] : List Value).toArray below meth c H locs 0 0 Q (F0 m 31 ls []) := by
    intro  H locs ls hP hD hS hl hok
    unfold fX1_thingAt_J31 at hok
    refine lv_iconst (v := -1) hx hb dX1_thingAt_31 (by decide) ?_
    cases hok
    subst hQe; exact W.iret hx hb hr (fun t ht hW => ⟨⟨_, (), rfl, rfl, by rw [ht]; exact hP, va_K.moved hW.alike hK, hD⟩, hS.F ht⟩) hS.2.2 dX1_thingAt_32
  have L2 : ∀ (fuel : Nat) (y3_2 : Int32), ∀ (H : Heap) (locs : List Loc) (ls : Array Slot), va_P D vwCl (wX1_thingAt cy aD qD vD vD_now) H → va_D A (wX1_thingAt cy aD qD vD vD_now) → va_S A s.heap H locs → lv_has ls 4 [(0, .ref aD), (1, .int x1), (2, .int x2), (3, .int y3_2)] → lp (fX1_thingAt_B2 vD_now x1 x2) fuel y3_2 = some zr → W p l e ({ frames := 0, cells := 0, slots := 0, locals := 0 } : Room) s m ([.ref aD, .int x1, .int x2] : List Value).toArray below meth c H locs 0 0 Q (F0 m 2 ls []) := by
    intro fuel
    induction fuel with
    | zero => intro y3_2 H locs ls hP hD hS hl hok; exact (lp_0 hok).elim
    | succ fuel ih2 =>
      intro y3_2 H locs ls hP hD hS hl hok
      obtain ⟨y2, hok, hL2, hR2⟩ := lp_step hok
      unfold fX1_thingAt_B2 at hok
      refine lv_iload_n hx hb dX1_thingAt_2 rfl (lv_at hl 3 rfl) ?_
      refine lv_iload_n hx hb dX1_thingAt_3 rfl (lv_at hl 2 rfl) ?_
      refine lv_icmp_ge (tgt := 31) hx hb dX1_thingAt_4 (by decide) (fun c4 => ?_) (fun c4 => ?_)
      · have hok := k_pos c4 hok
        obtain ⟨e2, hok, he2⟩ := ex_some hok
        have hok := hok.trans (congrArg some (hL2 _ he2))
        exact J31  H locs ls hP hD hS (lv_sub hl [] rfl) hok
      · have hok := k_neg c4 hok
        refine lv_iload_n hx hb dX1_thingAt_7 rfl (lv_at hl 3 rfl) ?_
        refine lv_bipush (v := 7) hx hb dX1_thingAt_8 (by decide) ?_
        refine lv_icmp_ge (tgt := 31) hx hb dX1_thingAt_10 (by decide) (fun c10 => ?_) (fun c10 => ?_)
        · have hok := k_pos c10 hok
          obtain ⟨e2, hok, he2⟩ := ex_some hok
          have hok := hok.trans (congrArg some (hL2 _ he2))
          exact J31  H locs ls hP hD hS (lv_sub hl [] rfl) hok
        · have hok := k_neg c10 hok
          refine lv_aload_n hx hb dX1_thingAt_13 rfl (lv_at hl 0 rfl) ?_
          refine va_get (D := D) (ci := 1) (v := .ref (qD 0)) (C := RX1) (T := TX1) (N := 6) hx hb ht0 niX1 hown hK hP 0 rfl rfl 0 (by decide) (ht0 _ wd50) (fun _ h9 => h9) rfl dX1_thingAt_14 ?_
          refine lv_iload_n hx hb dX1_thingAt_17 rfl (lv_at hl 3 rfl) ?_
          obtain ⟨g18, hok⟩ := gd_some hok
          refine va_iald hx hb hK hP 1 0 rfl rfl (okI_in g18) dX1_thingAt_18 ?_
          refine lv_iload_n hx hb dX1_thingAt_19 rfl (lv_at hl 1 rfl) ?_
          refine lv_icmp_ne (tgt := 25) hx hb dX1_thingAt_20 (by decide) (fun c20 => ?_) (fun c20 => ?_)
          · have hok := k_neg c20 hok
            refine lv_iinc (v := (y3_2 + 1)) (lv' := [(3, .int (y3_2 + 1)), (0, .ref aD), (1, .int x1), (2, .int x2)]) hx hb dX1_thingAt_25 hl (k := 3) rfl (by first | rfl | decide) (by decide) rfl (fun ls hl => ?_)
            refine lv_goto (tgt := 2) hx hb dX1_thingAt_28 (by decide) ?_
            exact ih2 (y3_2 + 1) H locs ls hP hD hS (lv_sub hl [1, 2, 3, 0] rfl) (hR2 _ (Option.some.inj hok).symm)
          · have hok := k_pos c20 hok
            obtain ⟨e2, hok, he2⟩ := ex_some hok
            have hok := hok.trans (congrArg some (hL2 _ he2))
            refine lv_iload_n hx hb dX1_thingAt_23 rfl (lv_at hl 3 rfl) ?_
            cases hok
            subst hQe; exact W.iret hx hb hr (fun t ht hW => ⟨⟨_, (), rfl, rfl, by rw [ht]; exact hP, va_K.moved hW.alike hK, hD⟩, hS.F ht⟩) hS.2.2 dX1_thingAt_24
  unfold fX1_thingAt at hok
  obtain ⟨H, hH⟩ : ∃ H, H = s.heap := ⟨_, rfl⟩
  obtain ⟨locs, hlc⟩ : ∃ x : List Loc, x = [] := ⟨_, rfl⟩
  have hP : va_P D vwCl (wX1_thingAt cy aD qD vD vD_now) H := by rw [hH]; exact hP
  have hS : va_S A s.heap H locs := by rw [hH, hlc]; exact hS
  rw [show W p l e _ s m _ below meth c s.heap [] = W p l e _ s m _ below meth c H locs from by rw [hH, hlc]]
  refine lv_iconst (v := 0) hx hb dX1_thingAt_0 (by decide) ?_
  refine lv_istore_n (lv' := [(3, .int 0), (0, .ref aD), (1, .int x1), (2, .int x2)]) hx hb dX1_thingAt_1 rfl hl (by decide) rfl (fun ls hl => ?_)
  exact L2 5000 (0 : Int32) H locs ls hP hD hS (lv_sub hl [1, 2, 3, 0] rfl) hok
def wsX8_ringOfCell : List Cond := .code yX8_ringOfCell cX8_ringOfCell 1 (some .int) :: W0
abbrev wX8_ringOfCell (cy : Nat → ClassId)  : va_W := []
set_option maxHeartbeats 4000000 in
set_option maxRecDepth 100000 in
theorem kX8_ringOfCell (l : Launch) (D : va_G) (cy : Nat → ClassId) (sz : Nat) (x0 : Int32) (zr : Int32) (hok : fX8_ringOfCell x0 = some zr) (A : Nat → Prop) (hAe : va_A (wX8_ringOfCell cy ) sz = A) : Met l yX8_ringOfCell wsX8_ringOfCell ({ frames := 0, cells := 0, slots := 0, locals := 0 } : Room) (kPre D cy [.int x0] (wX8_ringOfCell cy ) sz) (kQi D cy zr A (wX8_ringOfCell cy )) 0 0 A := by
  refine Met.ofW (cc := cX8_ringOfCell) (maxL := 1) (ret := (some .int)) (by decide) rfl ?_
  intro p e s m args below meth c s₁ B hml hv
  obtain ⟨rfl, hsz, hP, hK, hD0, hN⟩ := hv
  have hx := B.exec
  have hb := B.bytes
  have hr := B.returns
  have ht0 : ∀ w ∈ W0, w.before _ s = true := fun w h => atoms_spec (ws := wsX8_ringOfCell) B.pre w (List.mem_cons_of_mem _ h)
  have hown : s.vm.findClass RX8 = some m.cls := findClass_of_methodNamed B.named
  have hlocks := B.notSynchronized
  subst hsz
  have hD : va_D A (wX8_ringOfCell cy ) := by rw [← hAe]; exact hD0.self
  have hA : ∀ q : Nat, s.heap.size ≤ q → A q := fun q h => by rw [← hAe]; exact Or.inr h
  have hS : va_S A s.heap s.heap [] := va_S.rf
  have hl := lv_entry ([.int x0]) (n := 1) (Nat.le_of_ble_eq_true rfl)
  rw [lg_entry_eq]
  generalize (lg_sl ([.int x0]) ++ List.replicate (1 - (lg_sl ([.int x0])).length) Slot.unset).toArray = ls at hl ⊢
  have hl : lv_has ls 1 [(0, .int x0)] := hl
  unfold fX8_ringOfCell at hok
  obtain ⟨H, hH⟩ : ∃ H, H = s.heap := ⟨_, rfl⟩
  obtain ⟨locs, hlc⟩ : ∃ x : List Loc, x = [] := ⟨_, rfl⟩
  have hP : va_P D vwCl (wX8_ringOfCell cy ) H := by rw [hH]; exact hP
  have hS : va_S A s.heap H locs := by rw [hH, hlc]; exact hS
  rw [show W p l e _ s m _ below meth c s.heap [] = W p l e _ s m _ below meth c H locs from by rw [hH, hlc]]
  refine lv_iload_n hx hb dX8_ringOfCell_0 rfl (lv_at hl 0 rfl) ?_
  refine lv_bipush (v := 9) hx hb dX8_ringOfCell_1 (by decide) ?_
  refine lv_idiv hx hb dX8_ringOfCell_3 (by decide) ?_
  cases hok
  exact W.iret hx hb hr (fun t ht hW => ⟨⟨_, (), rfl, rfl, by rw [ht]; exact hP, va_K.moved hW.alike hK, hD⟩, hS.F ht⟩) hS.2.2 dX8_ringOfCell_4
def wsX1_thingsIn : List Cond := .code yX1_thingsIn cX1_thingsIn 5 (some .int) :: W0
abbrev wX1_thingsIn (cy : Nat → ClassId) (aD : Nat) (qD : Nat → Nat) (vD : Nat → Int32) (vD_now : Nat → Int32) : va_W := [(aD, oX1 vD qD), (qD 0, rI cy 9 vD_now)]
set_option maxHeartbeats 4000000 in
set_option maxRecDepth 100000 in
theorem kX1_thingsIn (l : Launch) (D : va_G) (cy : Nat → ClassId) (sz : Nat) (aD : Nat) (qD : Nat → Nat) (vD : Nat → Int32) (vD_now : Nat → Int32) (x1 : Int32) (x2 : Int32) (zr : Int32) (hok : fX1_thingsIn vD vD_now x1 x2 = some zr) (A : Nat → Prop) (hAe : va_A (wX1_thingsIn cy aD qD vD vD_now) sz = A) : Met l yX1_thingsIn wsX1_thingsIn ({ frames := 1, cells := 0, slots := 0, locals := 20 } : Room) (kPre D cy [.ref aD, .int x1, .int x2] (wX1_thingsIn cy aD qD vD vD_now) sz) (kQi D cy zr A (wX1_thingsIn cy aD qD vD vD_now)) 0 0 A := by
  refine Met.ofW (cc := cX1_thingsIn) (maxL := 5) (ret := (some .int)) (by decide) rfl ?_
  intro p e s m args below meth c s₁ B hml hv
  obtain ⟨rfl, hsz, hP, hK, hD0, hN⟩ := hv
  have hx := B.exec
  have hb := B.bytes
  have hr := B.returns
  have ht0 : ∀ w ∈ W0, w.before _ s = true := fun w h => atoms_spec (ws := wsX1_thingsIn) B.pre w (List.mem_cons_of_mem _ h)
  have hown : s.vm.findClass RX1 = some m.cls := findClass_of_methodNamed B.named
  have hlocks := B.notSynchronized
  subst hsz
  have hD : va_D A (wX1_thingsIn cy aD qD vD vD_now) := by rw [← hAe]; exact hD0.self
  have hA : ∀ q : Nat, s.heap.size ≤ q → A q := fun q h => by rw [← hAe]; exact Or.inr h
  have hS : va_S A s.heap s.heap [] := va_S.rf
  have hl := lv_entry ([.ref aD, .int x1, .int x2]) (n := 5) (Nat.le_of_ble_eq_true rfl)
  rw [lg_entry_eq]
  generalize (lg_sl ([.ref aD, .int x1, .int x2]) ++ List.replicate (5 - (lg_sl ([.ref aD, .int x1, .int x2])).length) Slot.unset).toArray = ls at hl ⊢
  have hl : lv_has ls 5 [(0, .ref aD), (1, .int x1), (2, .int x2)] := hl
  generalize hQe : MQ below (kQi D cy zr A (wX1_thingsIn cy aD qD vD vD_now)) ([.ref aD, .int x1, .int x2] : List Value).toArray s 0 0 A = Q
  have J45 : ∀ (y3_45 : Int32), ∀ (H : Heap) (locs : List Loc) (ls : Array Slot), va_P D vwCl (wX1_thingsIn cy aD qD vD vD_now) H → va_D A (wX1_thingsIn cy aD qD vD vD_now) → va_S A s.heap H locs → lv_has ls 5 [(3, .int y3_45)] → fX1_thingsIn_J45 y3_45 = some zr → W p l e ({ frames := 1, cells := 0, slots := 0, locals := 20 } : Room) s m ([.ref aD, .int x1, .int x2] : List Value).toArray below meth c H locs 0 0 Q (F0 m 45 ls []) := by
    intro y3_45 H locs ls hP hD hS hl hok
    unfold fX1_thingsIn_J45 at hok
    refine lv_iload_n hx hb dX1_thingsIn_45 rfl (lv_at hl 0 rfl) ?_
    cases hok
    subst hQe; exact W.iret hx hb hr (fun t ht hW => ⟨⟨_, (), rfl, rfl, by rw [ht]; exact hP, va_K.moved hW.alike hK, hD⟩, hS.F ht⟩) hS.2.2 dX1_thingsIn_46
  have L5 : ∀ (fuel : Nat) (y3_5 : Int32) (y4_5 : Int32), ∀ (H : Heap) (locs : List Loc) (ls : Array Slot), va_P D vwCl (wX1_thingsIn cy aD qD vD vD_now) H → va_D A (wX1_thingsIn cy aD qD vD vD_now) → va_S A s.heap H locs → lv_has ls 5 [(0, .ref aD), (1, .int x1), (2, .int x2), (3, .int y3_5), (4, .int y4_5)] → lp (fX1_thingsIn_B5 vD_now x1 x2) fuel (y3_5, y4_5) = some zr → W p l e ({ frames := 1, cells := 0, slots := 0, locals := 20 } : Room) s m ([.ref aD, .int x1, .int x2] : List Value).toArray below meth c H locs 0 0 Q (F0 m 5 ls []) := by
    intro fuel
    induction fuel with
    | zero => intro y3_5 y4_5 H locs ls hP hD hS hl hok; exact (lp_0 hok).elim
    | succ fuel ih5 =>
      intro y3_5 y4_5 H locs ls hP hD hS hl hok
      obtain ⟨y5, hok, hL5, hR5⟩ := lp_step hok
      have J39 : ∀ (y3_39 : Int32), ∀ (H : Heap) (locs : List Loc) (ls : Array Slot), va_P D vwCl (wX1_thingsIn cy aD qD vD vD_now) H → va_D A (wX1_thingsIn cy aD qD vD vD_now) → va_S A s.heap H locs → lv_has ls 5 [(0, .ref aD), (1, .int x1), (2, .int x2), (3, .int y3_39), (4, .int y4_5)] → fX1_thingsIn_J39 y4_5 y3_39 = some y5 → W p l e ({ frames := 1, cells := 0, slots := 0, locals := 20 } : Room) s m ([.ref aD, .int x1, .int x2] : List Value).toArray below meth c H locs 0 0 Q (F0 m 39 ls []) := by
        intro y3_39 H locs ls hP hD hS hl hok
        unfold fX1_thingsIn_J39 at hok
        refine lv_iinc (v := (y4_5 + 1)) (lv' := [(4, .int (y4_5 + 1)), (0, .ref aD), (1, .int x1), (2, .int x2), (3, .int y3_39)]) hx hb dX1_thingsIn_39 hl (k := 4) rfl (by first | rfl | decide) (by decide) rfl (fun ls hl => ?_)
        refine lv_goto (tgt := 5) hx hb dX1_thingsIn_42 (by decide) ?_
        exact ih5 y3_39 (y4_5 + 1) H locs ls hP hD hS (lv_sub hl [1, 2, 3, 4, 0] rfl) (hR5 _ (Option.some.inj hok).symm)
      unfold fX1_thingsIn_B5 at hok
      try dsimp only at hok
      refine lv_iload hx hb dX1_thingsIn_5 (lv_at hl 4 rfl) ?_
      refine lv_iload_n hx hb dX1_thingsIn_7 rfl (lv_at hl 2 rfl) ?_
      refine lv_icmp_ge (tgt := 45) hx hb dX1_thingsIn_8 (by decide) (fun c8 => ?_) (fun c8 => ?_)
      · have hok := k_pos c8 hok
        obtain ⟨e5, hok, he5⟩ := ex_some hok
        have hok := hok.trans (congrArg some (hL5 _ he5))
        exact J45 y3_5 H locs ls hP hD hS (lv_sub hl [3] rfl) hok
      · have hok := k_neg c8 hok
        refine lv_iload hx hb dX1_thingsIn_11 (lv_at hl 4 rfl) ?_
        refine lv_bipush (v := 7) hx hb dX1_thingsIn_13 (by decide) ?_
        refine lv_icmp_ge (tgt := 45) hx hb dX1_thingsIn_15 (by decide) (fun c15 => ?_) (fun c15 => ?_)
        · have hok := k_pos c15 hok
          obtain ⟨e5, hok, he5⟩ := ex_some hok
          have hok := hok.trans (congrArg some (hL5 _ he5))
          exact J45 y3_5 H locs ls hP hD hS (lv_sub hl [3] rfl) hok
        · have hok := k_neg c15 hok
          refine lv_aload_n hx hb dX1_thingsIn_18 rfl (lv_at hl 0 rfl) ?_
          refine va_get (D := D) (ci := 1) (v := .ref (qD 0)) (C := RX1) (T := TX1) (N := 6) hx hb ht0 niX1 hown hK hP 0 rfl rfl 0 (by decide) (ht0 _ wd50) (fun _ h9 => h9) rfl dX1_thingsIn_19 ?_
          refine lv_iload hx hb dX1_thingsIn_22 (lv_at hl 4 rfl) ?_
          obtain ⟨g24, hok⟩ := gd_some hok
          refine va_iald hx hb hK hP 1 0 rfl rfl (okI_in g24) dX1_thingsIn_24 ?_
          obtain ⟨r25, hc25, hok⟩ := k_bind hok
          refine kCi (wc := (wX8_ringOfCell cy )) (wc2 := (wX8_ringOfCell cy )) (wr := [(aD, oX1 vD qD), (qD 0, rI cy 9 vD_now)]) (ws2 := (wX1_thingsIn cy aD qD vD vD_now)) (kRunSN (As := [.int (vD_now y4_5.toNatClampNeg)]) (rest := []) ⟨hx, hb, hml, hown, ht0⟩ (kX8_ringOfCell l D cy _ (vD_now y4_5.toNatClampNeg) r25 hc25 _ rfl) ⟨va_cnB 1 ht0 (gN wd56) rfl rfl rfl (hN _ (List.mem_of_getElem? (i := 0) rfl)) (ht0 _ wd57) (by decide +kernel) ⟨Nat.le_of_ble_eq_true rfl, Nat.le_of_ble_eq_true rfl⟩, ht0 _ wd58, trivial⟩ hK hN hP hD [] rfl (by decide) rfl hl.1 rfl (Nat.le_of_ble_eq_true rfl) dX1_thingsIn_25 ⟨Nat.zero_le _, Nat.zero_le _⟩) hP hD hS hA [] [0, 1] rfl rfl (by decide) (by decide) [0, 1] (by decide) rfl rfl (fun H locs hP hD hS => ?_)
          refine lv_iload_n hx hb dX1_thingsIn_28 rfl (lv_at hl 1 rfl) ?_
          refine lv_icmp_ne (tgt := 39) hx hb dX1_thingsIn_29 (by decide) (fun c29 => ?_) (fun c29 => ?_)
          · have hok := k_neg c29 hok
            exact J39 y3_5 H locs ls hP hD hS (lv_sub hl [0, 1, 2, 3, 4] rfl) hok
          · have hok := k_pos c29 hok
            refine lv_iload_n hx hb dX1_thingsIn_32 rfl (lv_at hl 3 rfl) ?_
            refine lv_iconst (v := 1) hx hb dX1_thingsIn_33 (by decide) ?_
            refine lv_iload hx hb dX1_thingsIn_34 (lv_at hl 4 rfl) ?_
            refine lv_ishl hx hb dX1_thingsIn_36 ?_
            refine lv_ior hx hb dX1_thingsIn_37 ?_
            refine lv_istore_n (lv' := [(3, .int (y3_5 ||| (isl (1 : Int32) y4_5))), (0, .ref aD), (1, .int x1), (2, .int x2), (4, .int y4_5)]) hx hb dX1_thingsIn_38 rfl hl (by decide) rfl (fun ls hl => ?_)
            exact J39 (y3_5 ||| (isl (1 : Int32) y4_5)) H locs ls hP hD hS (lv_sub hl [1, 2, 3, 0, 4] rfl) hok
  unfold fX1_thingsIn at hok
  obtain ⟨H, hH⟩ : ∃ H, H = s.heap := ⟨_, rfl⟩
  obtain ⟨locs, hlc⟩ : ∃ x : List Loc, x = [] := ⟨_, rfl⟩
  have hP : va_P D vwCl (wX1_thingsIn cy aD qD vD vD_now) H := by rw [hH]; exact hP
  have hS : va_S A s.heap H locs := by rw [hH, hlc]; exact hS
  rw [show W p l e _ s m _ below meth c s.heap [] = W p l e _ s m _ below meth c H locs from by rw [hH, hlc]]
  refine lv_iconst (v := 0) hx hb dX1_thingsIn_0 (by decide) ?_
  refine lv_istore_n (lv' := [(3, .int 0), (0, .ref aD), (1, .int x1), (2, .int x2)]) hx hb dX1_thingsIn_1 rfl hl (by decide) rfl (fun ls hl => ?_)
  refine lv_iconst (v := 0) hx hb dX1_thingsIn_2 (by decide) ?_
  refine lv_istore (lv' := [(4, .int 0), (3, .int 0), (0, .ref aD), (1, .int x1), (2, .int x2)]) hx hb dX1_thingsIn_3 hl (by decide) rfl (fun ls hl => ?_)
  exact L5 5000 (0 : Int32) (0 : Int32) H locs ls hP hD hS (lv_sub hl [2, 3, 4, 1, 0] rfl) hok
def wsX1_turnHeld : List Cond := .code yX1_turnHeld cX1_turnHeld 2 none :: W0
abbrev wX1_turnHeld (cy : Nat → ClassId) (aD : Nat) (qD : Nat → Nat) (vD : Nat → Int32) (vD_now : Nat → Int32) : va_W := [(aD, oX1 vD qD), (qD 0, rI cy 9 vD_now)]
set_option maxHeartbeats 4000000 in
set_option maxRecDepth 100000 in
theorem kX1_turnHeld (l : Launch) (D : va_G) (cy : Nat → ClassId) (sz : Nat) (aD : Nat) (qD : Nat → Nat) (vD : Nat → Int32) (vD_now : Nat → Int32) (x1 : Int32) (z_vD_now : Nat → Int32) (hok : fX1_turnHeld vD vD_now x1 = some z_vD_now) (A : Nat → Prop) (hAe : va_A (wX1_turnHeld cy aD qD vD vD_now) sz = A) : Met l yX1_turnHeld wsX1_turnHeld ({ frames := 0, cells := 0, slots := 0, locals := 0 } : Room) (kPre D cy [.ref aD, .int x1] (wX1_turnHeld cy aD qD vD vD_now) sz) (kQv D cy A (wX1_turnHeld cy aD qD vD z_vD_now)) 0 0 A := by
  refine Met.ofW (cc := cX1_turnHeld) (maxL := 2) (ret := none) (by decide) rfl ?_
  intro p e s m args below meth c s₁ B hml hv
  obtain ⟨rfl, hsz, hP, hK, hD0, hN⟩ := hv
  have hx := B.exec
  have hb := B.bytes
  have hr := B.returns
  have ht0 : ∀ w ∈ W0, w.before _ s = true := fun w h => atoms_spec (ws := wsX1_turnHeld) B.pre w (List.mem_cons_of_mem _ h)
  have hown : s.vm.findClass RX1 = some m.cls := findClass_of_methodNamed B.named
  have hlocks := B.notSynchronized
  subst hsz
  have hD : va_D A (wX1_turnHeld cy aD qD vD vD_now) := by rw [← hAe]; exact hD0.self
  have hA : ∀ q : Nat, s.heap.size ≤ q → A q := fun q h => by rw [← hAe]; exact Or.inr h
  have hS : va_S A s.heap s.heap [] := va_S.rf
  have hl := lv_entry ([.ref aD, .int x1]) (n := 2) (Nat.le_of_ble_eq_true rfl)
  rw [lg_entry_eq]
  generalize (lg_sl ([.ref aD, .int x1]) ++ List.replicate (2 - (lg_sl ([.ref aD, .int x1])).length) Slot.unset).toArray = ls at hl ⊢
  have hl : lv_has ls 2 [(0, .ref aD), (1, .int x1)] := hl
  unfold fX1_turnHeld at hok
  obtain ⟨H, hH⟩ : ∃ H, H = s.heap := ⟨_, rfl⟩
  obtain ⟨locs, hlc⟩ : ∃ x : List Loc, x = [] := ⟨_, rfl⟩
  have hP : va_P D vwCl (wX1_turnHeld cy aD qD vD vD_now) H := by rw [hH]; exact hP
  have hS : va_S A s.heap H locs := by rw [hH, hlc]; exact hS
  rw [show W p l e _ s m _ below meth c s.heap [] = W p l e _ s m _ below meth c H locs from by rw [hH, hlc]]
  refine lv_aload_n hx hb dX1_turnHeld_0 rfl (lv_at hl 0 rfl) ?_
  refine va_get (D := D) (ci := 1) (v := .ref (qD 0)) (C := RX1) (T := TX1) (N := 6) hx hb ht0 niX1 hown hK hP 0 rfl rfl 0 (by decide) (ht0 _ wd50) (fun _ h9 => h9) rfl dX1_turnHeld_1 ?_
  refine lv_bipush (v := 7) hx hb dX1_turnHeld_4 (by decide) ?_
  refine lv_dup2_11 hx hb dX1_turnHeld_6 rfl rfl ?_
  obtain ⟨g7, hok⟩ := gd_some hok
  refine va_iald hx hb hK hP 1 0 rfl rfl (okI_in g7) dX1_turnHeld_7 ?_
  refine lv_iconst (v := 1) hx hb dX1_turnHeld_8 (by decide) ?_
  refine lv_iload_n hx hb dX1_turnHeld_9 rfl (lv_at hl 1 rfl) ?_
  refine lv_ishl hx hb dX1_turnHeld_10 ?_
  refine lv_ixor hx hb dX1_turnHeld_11 ?_
  obtain ⟨g12, hok⟩ := gd_some hok
  refine va_iast hx hb hK hP hD hS 1 0 rfl rfl (okI_in g12) dX1_turnHeld_12 (fun H locs hP hD hS => ?_)
  have hP : va_P D vwCl (wX1_turnHeld cy aD qD vD (upd vD_now (7 : Int32).toNatClampNeg ((vD_now (7 : Int32).toNatClampNeg) ^^^ (isl (1 : Int32) x1)))) H := hP
  have hD : va_D A (wX1_turnHeld cy aD qD vD (upd vD_now (7 : Int32).toNatClampNeg ((vD_now (7 : Int32).toNatClampNeg) ^^^ (isl (1 : Int32) x1)))) := hD
  cases hok
  exact W.vret hx hb hr (fun t ht hW => ⟨⟨(), rfl, trivial, by rw [ht]; exact hP, va_K.moved hW.alike hK, hD⟩, hS.F ht⟩) hS.2.2 dX1_turnHeld_13
def wsX1_move : List Cond := .code yX1_move cX1_move 3 none :: W0
abbrev wX1_move (cy : Nat → ClassId) (aD : Nat) (qD : Nat → Nat) (vD : Nat → Int32) (vD_now : Nat → Int32) : va_W := [(aD, oX1 vD qD), (qD 0, rI cy 9 vD_now)]
set_option maxHeartbeats 4000000 in
set_option maxRecDepth 100000 in
theorem kX1_move (l : Launch) (D : va_G) (cy : Nat → ClassId) (sz : Nat) (aD : Nat) (qD : Nat → Nat) (vD : Nat → Int32) (vD_now : Nat → Int32) (x1 : Int32) (x2 : Int32) (z_vD_now : Nat → Int32) (hok : fX1_move vD vD_now x1 x2 = some z_vD_now) (A : Nat → Prop) (hAe : va_A (wX1_move cy aD qD vD vD_now) sz = A) : Met l yX1_move wsX1_move ({ frames := 0, cells := 0, slots := 0, locals := 0 } : Room) (kPre D cy [.ref aD, .int x1, .int x2] (wX1_move cy aD qD vD vD_now) sz) (kQv D cy A (wX1_move cy aD qD vD z_vD_now)) 0 0 A := by
  refine Met.ofW (cc := cX1_move) (maxL := 3) (ret := none) (by decide) rfl ?_
  intro p e s m args below meth c s₁ B hml hv
  obtain ⟨rfl, hsz, hP, hK, hD0, hN⟩ := hv
  have hx := B.exec
  have hb := B.bytes
  have hr := B.returns
  have ht0 : ∀ w ∈ W0, w.before _ s = true := fun w h => atoms_spec (ws := wsX1_move) B.pre w (List.mem_cons_of_mem _ h)
  have hown : s.vm.findClass RX1 = some m.cls := findClass_of_methodNamed B.named
  have hlocks := B.notSynchronized
  subst hsz
  have hD : va_D A (wX1_move cy aD qD vD vD_now) := by rw [← hAe]; exact hD0.self
  have hA : ∀ q : Nat, s.heap.size ≤ q → A q := fun q h => by rw [← hAe]; exact Or.inr h
  have hS : va_S A s.heap s.heap [] := va_S.rf
  have hl := lv_entry ([.ref aD, .int x1, .int x2]) (n := 3) (Nat.le_of_ble_eq_true rfl)
  rw [lg_entry_eq]
  generalize (lg_sl ([.ref aD, .int x1, .int x2]) ++ List.replicate (3 - (lg_sl ([.ref aD, .int x1, .int x2])).length) Slot.unset).toArray = ls at hl ⊢
  have hl : lv_has ls 3 [(0, .ref aD), (1, .int x1), (2, .int x2)] := hl
  generalize hQe : MQ below (kQv D cy A (wX1_move cy aD qD vD z_vD_now)) ([.ref aD, .int x1, .int x2] : List Value).toArray s 0 0 A = Q
  have J17 : ∀ (vD_now_17 : Nat → Int32), ∀ (H : Heap) (locs : List Loc) (ls : Array Slot), va_P D vwCl (wX1_move cy aD qD vD vD_now_17) H → va_D A (wX1_move cy aD qD vD vD_now_17) → va_S A s.heap H locs → lv_has ls 3 [] → fX1_move_J17 vD_now_17 = some z_vD_now → W p l e ({ frames := 0, cells := 0, slots := 0, locals := 0 } : Room) s m ([.ref aD, .int x1, .int x2] : List Value).toArray below meth c H locs 0 0 Q (F0 m 17 ls []) := by
    intro vD_now_17 H locs ls hP hD hS hl hok
    unfold fX1_move_J17 at hok
    cases hok
    subst hQe; exact W.vret hx hb hr (fun t ht hW => ⟨⟨(), rfl, trivial, by rw [ht]; exact hP, va_K.moved hW.alike hK, hD⟩, hS.F ht⟩) hS.2.2 dX1_move_17
  unfold fX1_move at hok
  obtain ⟨H, hH⟩ : ∃ H, H = s.heap := ⟨_, rfl⟩
  obtain ⟨locs, hlc⟩ : ∃ x : List Loc, x = [] := ⟨_, rfl⟩
  have hP : va_P D vwCl (wX1_move cy aD qD vD vD_now) H := by rw [hH]; exact hP
  have hS : va_S A s.heap H locs := by rw [hH, hlc]; exact hS
  rw [show W p l e _ s m _ below meth c s.heap [] = W p l e _ s m _ below meth c H locs from by rw [hH, hlc]]
  refine lv_iload_n hx hb dX1_move_0 rfl (lv_at hl 1 rfl) ?_
  refine lv_if_lt (tgt := 17) hx hb dX1_move_1 (by decide) (fun c1 => ?_) (fun c1 => ?_)
  · have hok := k_pos c1 hok
    exact J17 vD_now H locs ls hP hD hS (lv_sub hl [] rfl) hok
  · have hok := k_neg c1 hok
    refine lv_iload_n hx hb dX1_move_4 rfl (lv_at hl 1 rfl) ?_
    refine lv_bipush (v := 7) hx hb dX1_move_5 (by decide) ?_
    refine lv_icmp_ge (tgt := 17) hx hb dX1_move_7 (by decide) (fun c7 => ?_) (fun c7 => ?_)
    · have hok := k_pos c7 hok
      exact J17 vD_now H locs ls hP hD hS (lv_sub hl [] rfl) hok
    · have hok := k_neg c7 hok
      refine lv_aload_n hx hb dX1_move_10 rfl (lv_at hl 0 rfl) ?_
      refine va_get (D := D) (ci := 1) (v := .ref (qD 0)) (C := RX1) (T := TX1) (N := 6) hx hb ht0 niX1 hown hK hP 0 rfl rfl 0 (by decide) (ht0 _ wd50) (fun _ h9 => h9) rfl dX1_move_11 ?_
      refine lv_iload_n hx hb dX1_move_14 rfl (lv_at hl 1 rfl) ?_
      refine lv_iload_n hx hb dX1_move_15 rfl (lv_at hl 2 rfl) ?_
      obtain ⟨g16, hok⟩ := gd_some hok
      refine va_iast hx hb hK hP hD hS 1 0 rfl rfl (okI_in g16) dX1_move_16 (fun H locs hP hD hS => ?_)
      have hP : va_P D vwCl (wX1_move cy aD qD vD (upd vD_now x1.toNatClampNeg x2)) H := hP
      have hD : va_D A (wX1_move cy aD qD vD (upd vD_now x1.toNatClampNeg x2)) := hD
      exact J17 (upd vD_now x1.toNatClampNeg x2) H locs ls hP hD hS (lv_sub hl [] rfl) hok
def wsX1_nextNight : List Cond := .code yX1_nextNight cX1_nextNight 1 none :: W0
abbrev wX1_nextNight (cy : Nat → ClassId) (aD : Nat) (qD : Nat → Nat) (vD : Nat → Int32) (vD_now : Nat → Int32) : va_W := [(aD, oX1 vD qD), (qD 0, rI cy 9 vD_now)]
set_option maxHeartbeats 4000000 in
set_option maxRecDepth 100000 in
theorem kX1_nextNight (l : Launch) (D : va_G) (cy : Nat → ClassId) (sz : Nat) (aD : Nat) (qD : Nat → Nat) (vD : Nat → Int32) (vD_now : Nat → Int32) (z_vD_now : Nat → Int32) (hok : fX1_nextNight vD vD_now = some z_vD_now) (A : Nat → Prop) (hAe : va_A (wX1_nextNight cy aD qD vD vD_now) sz = A) : Met l yX1_nextNight wsX1_nextNight ({ frames := 0, cells := 0, slots := 0, locals := 0 } : Room) (kPre D cy [.ref aD] (wX1_nextNight cy aD qD vD vD_now) sz) (kQv D cy A (wX1_nextNight cy aD qD vD z_vD_now)) 0 0 A := by
  refine Met.ofW (cc := cX1_nextNight) (maxL := 1) (ret := none) (by decide) rfl ?_
  intro p e s m args below meth c s₁ B hml hv
  obtain ⟨rfl, hsz, hP, hK, hD0, hN⟩ := hv
  have hx := B.exec
  have hb := B.bytes
  have hr := B.returns
  have ht0 : ∀ w ∈ W0, w.before _ s = true := fun w h => atoms_spec (ws := wsX1_nextNight) B.pre w (List.mem_cons_of_mem _ h)
  have hown : s.vm.findClass RX1 = some m.cls := findClass_of_methodNamed B.named
  have hlocks := B.notSynchronized
  subst hsz
  have hD : va_D A (wX1_nextNight cy aD qD vD vD_now) := by rw [← hAe]; exact hD0.self
  have hA : ∀ q : Nat, s.heap.size ≤ q → A q := fun q h => by rw [← hAe]; exact Or.inr h
  have hS : va_S A s.heap s.heap [] := va_S.rf
  have hl := lv_entry ([.ref aD]) (n := 1) (Nat.le_of_ble_eq_true rfl)
  rw [lg_entry_eq]
  generalize (lg_sl ([.ref aD]) ++ List.replicate (1 - (lg_sl ([.ref aD])).length) Slot.unset).toArray = ls at hl ⊢
  have hl : lv_has ls 1 [(0, .ref aD)] := hl
  unfold fX1_nextNight at hok
  obtain ⟨H, hH⟩ : ∃ H, H = s.heap := ⟨_, rfl⟩
  obtain ⟨locs, hlc⟩ : ∃ x : List Loc, x = [] := ⟨_, rfl⟩
  have hP : va_P D vwCl (wX1_nextNight cy aD qD vD vD_now) H := by rw [hH]; exact hP
  have hS : va_S A s.heap H locs := by rw [hH, hlc]; exact hS
  rw [show W p l e _ s m _ below meth c s.heap [] = W p l e _ s m _ below meth c H locs from by rw [hH, hlc]]
  refine lv_aload_n hx hb dX1_nextNight_0 rfl (lv_at hl 0 rfl) ?_
  refine va_get (D := D) (ci := 1) (v := .ref (qD 0)) (C := RX1) (T := TX1) (N := 6) hx hb ht0 niX1 hown hK hP 0 rfl rfl 0 (by decide) (ht0 _ wd50) (fun _ h9 => h9) rfl dX1_nextNight_1 ?_
  refine lv_bipush (v := 8) hx hb dX1_nextNight_4 (by decide) ?_
  refine lv_dup2_11 hx hb dX1_nextNight_6 rfl rfl ?_
  obtain ⟨g7, hok⟩ := gd_some hok
  refine va_iald hx hb hK hP 1 0 rfl rfl (okI_in g7) dX1_nextNight_7 ?_
  refine lv_iconst (v := 1) hx hb dX1_nextNight_8 (by decide) ?_
  refine lv_iadd hx hb dX1_nextNight_9 ?_
  obtain ⟨g10, hok⟩ := gd_some hok
  refine va_iast hx hb hK hP hD hS 1 0 rfl rfl (okI_in g10) dX1_nextNight_10 (fun H locs hP hD hS => ?_)
  have hP : va_P D vwCl (wX1_nextNight cy aD qD vD (upd vD_now (8 : Int32).toNatClampNeg ((vD_now (8 : Int32).toNatClampNeg) + (1 : Int32)))) H := hP
  have hD : va_D A (wX1_nextNight cy aD qD vD (upd vD_now (8 : Int32).toNatClampNeg ((vD_now (8 : Int32).toNatClampNeg) + (1 : Int32)))) := hD
  cases hok
  exact W.vret hx hb hr (fun t ht hW => ⟨⟨(), rfl, trivial, by rw [ht]; exact hP, va_K.moved hW.alike hK, hD⟩, hS.F ht⟩) hS.2.2 dX1_nextNight_11
def wsX1_keep : List Cond := .code yX1_keep cX1_keep 1 none :: W0
abbrev wX1_keep (cy : Nat → ClassId) (aD : Nat) (qD : Nat → Nat) (pD_past : Nat → Nat) (vD : Nat → Int32) (vD_past : Nat → Nat → Int32) (vD_now : Nat → Int32) : va_W := [(aD, oX1 vD qD), (qD 1, rR cy 16 (fun j => some (pD_past j))), (pD_past 0, rI cy 9 (vD_past 0)), (pD_past 1, rI cy 9 (vD_past 1)), (pD_past 2, rI cy 9 (vD_past 2)), (pD_past 3, rI cy 9 (vD_past 3)), (pD_past 4, rI cy 9 (vD_past 4)), (pD_past 5, rI cy 9 (vD_past 5)), (pD_past 6, rI cy 9 (vD_past 6)), (pD_past 7, rI cy 9 (vD_past 7)), (pD_past 8, rI cy 9 (vD_past 8)), (pD_past 9, rI cy 9 (vD_past 9)), (pD_past 10, rI cy 9 (vD_past 10)), (pD_past 11, rI cy 9 (vD_past 11)), (pD_past 12, rI cy 9 (vD_past 12)), (pD_past 13, rI cy 9 (vD_past 13)), (pD_past 14, rI cy 9 (vD_past 14)), (pD_past 15, rI cy 9 (vD_past 15)), (qD 0, rI cy 9 vD_now)]
theorem gatX1_keep_vD_past {cy : Nat → ClassId} (aD : Nat) (qD : Nat → Nat) (pD_past : Nat → Nat) (vD : Nat → Int32) (vD_past : Nat → Nat → Int32) (vD_now : Nat → Int32) {k : Nat} (h : k < 16) : (wX1_keep cy aD qD pD_past vD vD_past vD_now)[2 + k]? = some (pD_past k, rI cy 9 (vD_past k)) := by
  rcases (show k = 0 ∨ k = 1 ∨ k = 2 ∨ k = 3 ∨ k = 4 ∨ k = 5 ∨ k = 6 ∨ k = 7 ∨ k = 8 ∨ k = 9 ∨ k = 10 ∨ k = 11 ∨ k = 12 ∨ k = 13 ∨ k = 14 ∨ k = 15 by omega) with rfl | rfl | rfl | rfl | rfl | rfl | rfl | rfl | rfl | rfl | rfl | rfl | rfl | rfl | rfl | rfl <;> rfl
theorem gsetX1_keep_vD_past {cy : Nat → ClassId} (aD : Nat) (qD : Nat → Nat) (pD_past : Nat → Nat) (vD : Nat → Int32) (vD_past : Nat → Nat → Int32) (vD_now : Nat → Int32) {k : Nat} (h : k < 16) {f : Nat → Int32} : (wX1_keep cy aD qD pD_past vD vD_past vD_now).set (2 + k) (pD_past k, rI cy 9 f) = wX1_keep cy aD qD pD_past vD (va_up vD_past k f) vD_now := by
  rcases (show k = 0 ∨ k = 1 ∨ k = 2 ∨ k = 3 ∨ k = 4 ∨ k = 5 ∨ k = 6 ∨ k = 7 ∨ k = 8 ∨ k = 9 ∨ k = 10 ∨ k = 11 ∨ k = 12 ∨ k = 13 ∨ k = 14 ∨ k = 15 by omega) with rfl | rfl | rfl | rfl | rfl | rfl | rfl | rfl | rfl | rfl | rfl | rfl | rfl | rfl | rfl | rfl <;> rfl
set_option maxHeartbeats 4000000 in
set_option maxRecDepth 100000 in
theorem kX1_keep (l : Launch) (D : va_G) (cy : Nat → ClassId) (sz : Nat) (aD : Nat) (qD : Nat → Nat) (pD_past : Nat → Nat) (vD : Nat → Int32) (vD_past : Nat → Nat → Int32) (vD_now : Nat → Int32) (z_vD : Nat → Int32) (z_vD_past : Nat → Nat → Int32) (hok : fX1_keep vD vD_past vD_now = some (z_vD, z_vD_past)) (A : Nat → Prop) (hAe : va_A (wX1_keep cy aD qD pD_past vD vD_past vD_now) sz = A) : Met l yX1_keep wsX1_keep ({ frames := 1, cells := 0, slots := 0, locals := 40 } : Room) (kPre D cy [.ref aD] (wX1_keep cy aD qD pD_past vD vD_past vD_now) sz) (kQv D cy A (wX1_keep cy aD qD pD_past z_vD z_vD_past vD_now)) 0 0 A := by
  refine Met.ofW (cc := cX1_keep) (maxL := 1) (ret := none) (by decide) rfl ?_
  intro p e s m args below meth c s₁ B hml hv
  obtain ⟨rfl, hsz, hP, hK, hD0, hN⟩ := hv
  have hx := B.exec
  have hb := B.bytes
  have hr := B.returns
  have ht0 : ∀ w ∈ W0, w.before _ s = true := fun w h => atoms_spec (ws := wsX1_keep) B.pre w (List.mem_cons_of_mem _ h)
  have hown : s.vm.findClass RX1 = some m.cls := findClass_of_methodNamed B.named
  have hlocks := B.notSynchronized
  subst hsz
  have hD : va_D A (wX1_keep cy aD qD pD_past vD vD_past vD_now) := by rw [← hAe]; exact hD0.self
  have hA : ∀ q : Nat, s.heap.size ≤ q → A q := fun q h => by rw [← hAe]; exact Or.inr h
  have hS : va_S A s.heap s.heap [] := va_S.rf
  have hl := lv_entry ([.ref aD]) (n := 1) (Nat.le_of_ble_eq_true rfl)
  rw [lg_entry_eq]
  generalize (lg_sl ([.ref aD]) ++ List.replicate (1 - (lg_sl ([.ref aD])).length) Slot.unset).toArray = ls at hl ⊢
  have hl : lv_has ls 1 [(0, .ref aD)] := hl
  generalize hQe : MQ below (kQv D cy A (wX1_keep cy aD qD pD_past z_vD z_vD_past vD_now)) ([.ref aD] : List Value).toArray s 0 0 A = Q
  have J87 : ∀ (t0_87 : Int32) (vD_past_87 : Nat → Nat → Int32) (vD_87 : Nat → Int32), ∀ (H : Heap) (locs : List Loc) (ls : Array Slot), va_P D vwCl (wX1_keep cy aD qD pD_past vD_87 vD_past_87 vD_now) H → va_D A (wX1_keep cy aD qD pD_past vD_87 vD_past_87 vD_now) → va_S A s.heap H locs → lv_has ls 1 [] → fX1_keep_J87 t0_87 vD_past_87 vD_87 = some (z_vD, z_vD_past) → W p l e ({ frames := 1, cells := 0, slots := 0, locals := 40 } : Room) s m ([.ref aD] : List Value).toArray below meth c H locs 0 0 Q (F0 m 87 ls [.int t0_87, .ref aD]) := by
    intro t0_87 vD_past_87 vD_87 H locs ls hP hD hS hl hok
    unfold fX1_keep_J87 at hok
    refine va_put (D := D) (ci := 1) (v := .int t0_87) (ty := .int) (C := RX1) (T := TX1) (N := 6) hx hb ht0 niX1 tyX1 tyX1_ok nmX1 hown hK hP hD hS 0 rfl rfl 3 (by decide) (ht0 _ wd48) (fun _ h9 => h9) rfl (by decide +kernel) rfl rfl (Nat.le_of_ble_eq_true rfl) dX1_keep_87 (fun H locs hP hD hS => ?_)
    have hP : va_P D vwCl (wX1_keep cy aD qD pD_past (upd vD_87 3 t0_87) vD_past_87 vD_now) H := hP
    have hD : va_D A (wX1_keep cy aD qD pD_past (upd vD_87 3 t0_87) vD_past_87 vD_now) := hD
    cases hok
    subst hQe; exact W.vret hx hb hr (fun t ht hW => ⟨⟨(), rfl, trivial, by rw [ht]; exact hP, va_K.moved hW.alike hK, hD⟩, hS.F ht⟩) hS.2.2 dX1_keep_90
  have J63 : ∀ (t0_63 : Int32) (vD_past_63 : Nat → Nat → Int32) (vD_63 : Nat → Int32), ∀ (H : Heap) (locs : List Loc) (ls : Array Slot), va_P D vwCl (wX1_keep cy aD qD pD_past vD_63 vD_past_63 vD_now) H → va_D A (wX1_keep cy aD qD pD_past vD_63 vD_past_63 vD_now) → va_S A s.heap H locs → lv_has ls 1 [(0, .ref aD)] → fX1_keep_J63 t0_63 vD_past_63 vD_63 = some (z_vD, z_vD_past) → W p l e ({ frames := 1, cells := 0, slots := 0, locals := 40 } : Room) s m ([.ref aD] : List Value).toArray below meth c H locs 0 0 Q (F0 m 63 ls [.int t0_63, .ref aD]) := by
    intro t0_63 vD_past_63 vD_63 H locs ls hP hD hS hl hok
    unfold fX1_keep_J63 at hok
    refine va_put (D := D) (ci := 1) (v := .int t0_63) (ty := .int) (C := RX1) (T := TX1) (N := 6) hx hb ht0 niX1 tyX1 tyX1_ok nmX1 hown hK hP hD hS 0 rfl rfl 4 (by decide) (ht0 _ wd59) (fun _ h9 => h9) rfl (by decide +kernel) rfl rfl (Nat.le_of_ble_eq_true rfl) dX1_keep_63 (fun H locs hP hD hS => ?_)
    have hP : va_P D vwCl (wX1_keep cy aD qD pD_past (upd vD_63 4 t0_63) vD_past_63 vD_now) H := hP
    have hD : va_D A (wX1_keep cy aD qD pD_past (upd vD_63 4 t0_63) vD_past_63 vD_now) := hD
    refine lv_aload_n hx hb dX1_keep_66 rfl (lv_at hl 0 rfl) ?_
    refine lv_aload_n hx hb dX1_keep_67 rfl (lv_at hl 0 rfl) ?_
    refine va_get (D := D) (ci := 1) (v := .int (vD_63 3)) (C := RX1) (T := TX1) (N := 6) hx hb ht0 niX1 hown hK hP 0 rfl rfl 3 (by decide) (ht0 _ wd48) (fun _ h9 => h9) rfl dX1_keep_68 ?_
    refine lv_bipush (v := 16) hx hb dX1_keep_71 (by decide) ?_
    refine lv_icmp_ge (tgt := 85) hx hb dX1_keep_73 (by decide) (fun c73 => ?_) (fun c73 => ?_)
    · have hok := k_pos c73 hok
      refine lv_bipush (v := 16) hx hb dX1_keep_85 (by decide) ?_
      exact J87 (16 : Int32) vD_past_63 (upd vD_63 4 t0_63) H locs ls hP hD hS (lv_sub hl [] rfl) hok
    · have hok := k_neg c73 hok
      refine lv_aload_n hx hb dX1_keep_76 rfl (lv_at hl 0 rfl) ?_
      refine va_get (D := D) (ci := 1) (v := .int (vD_63 3)) (C := RX1) (T := TX1) (N := 6) hx hb ht0 niX1 hown hK hP 0 rfl rfl 3 (by decide) (ht0 _ wd48) (fun _ h9 => h9) rfl dX1_keep_77 ?_
      refine lv_iconst (v := 1) hx hb dX1_keep_80 (by decide) ?_
      refine lv_iadd hx hb dX1_keep_81 ?_
      refine lv_goto (tgt := 87) hx hb dX1_keep_82 (by decide) ?_
      exact J87 ((vD_63 3) + (1 : Int32)) vD_past_63 (upd vD_63 4 t0_63) H locs ls hP hD hS (lv_sub hl [] rfl) hok
  have J21 : ∀ (vD_21 : Nat → Int32), ∀ (H : Heap) (locs : List Loc) (ls : Array Slot), va_P D vwCl (wX1_keep cy aD qD pD_past vD_21 vD_past vD_now) H → va_D A (wX1_keep cy aD qD pD_past vD_21 vD_past vD_now) → va_S A s.heap H locs → lv_has ls 1 [(0, .ref aD)] → fX1_keep_J21 vD_past vD_now vD_21 = some (z_vD, z_vD_past) → W p l e ({ frames := 1, cells := 0, slots := 0, locals := 40 } : Room) s m ([.ref aD] : List Value).toArray below meth c H locs 0 0 Q (F0 m 21 ls []) := by
    intro vD_21 H locs ls hP hD hS hl hok
    unfold fX1_keep_J21 at hok
    refine lv_aload_n hx hb dX1_keep_21 rfl (lv_at hl 0 rfl) ?_
    refine va_get (D := D) (ci := 1) (v := .ref (qD 0)) (C := RX1) (T := TX1) (N := 6) hx hb ht0 niX1 hown hK hP 0 rfl rfl 0 (by decide) (ht0 _ wd50) (fun _ h9 => h9) rfl dX1_keep_22 ?_
    refine lv_iconst (v := 0) hx hb dX1_keep_25 (by decide) ?_
    refine lv_aload_n hx hb dX1_keep_26 rfl (lv_at hl 0 rfl) ?_
    refine va_get (D := D) (ci := 1) (v := .ref (qD 1)) (C := RX1) (T := TX1) (N := 6) hx hb ht0 niX1 hown hK hP 0 rfl rfl 1 (by decide) (ht0 _ wd60) (fun _ h9 => h9) rfl dX1_keep_27 ?_
    refine lv_aload_n hx hb dX1_keep_30 rfl (lv_at hl 0 rfl) ?_
    refine va_get (D := D) (ci := 1) (v := .int (vD_21 4)) (C := RX1) (T := TX1) (N := 6) hx hb ht0 niX1 hown hK hP 0 rfl rfl 4 (by decide) (ht0 _ wd59) (fun _ h9 => h9) rfl dX1_keep_31 ?_
    obtain ⟨g34, hok⟩ := gd_some hok
    refine va_aldA hx hb hK hP 1 4 rfl rfl (okI_in g34) dX1_keep_34 ?_
    refine lv_iconst (v := 0) hx hb dX1_keep_35 (by decide) ?_
    refine lv_bipush (v := 9) hx hb dX1_keep_36 (by decide) ?_
    refine va_copyi hx hb (hml.trans hl.1.symm) hown (ht0 _ wd61) (ht0 _ wd62) (ht0 _ wd63) (ht0 _ wd64) hK hP hD hS 18 (2 + (vD_21 4).toNatClampNeg) 0 0 rfl (gatX1_keep_vD_past aD qD pD_past vD_21 vD_past vD_now (okI_lt g34)) rfl rfl rfl (by decide) (by decide) (by decide) (by decide) (by decide) (fun _ _ => rfl) (Nat.le_of_ble_eq_true rfl) (Nat.le_of_ble_eq_true rfl) dX1_keep_38 (fun H locs hP hD hS => ?_)
    rw [gsetX1_keep_vD_past aD qD pD_past vD_21 vD_past vD_now (okI_lt g34)] at hP hD
    have hP : va_P D vwCl (wX1_keep cy aD qD pD_past vD_21 (va_up vD_past ((vD_21 4).toNatClampNeg) (va_cpy vD_now (vD_past ((vD_21 4).toNatClampNeg)) (0 : Int32).toNatClampNeg (0 : Int32).toNatClampNeg (9 : Int32).toNatClampNeg)) vD_now) H := hP
    have hD : va_D A (wX1_keep cy aD qD pD_past vD_21 (va_up vD_past ((vD_21 4).toNatClampNeg) (va_cpy vD_now (vD_past ((vD_21 4).toNatClampNeg)) (0 : Int32).toNatClampNeg (0 : Int32).toNatClampNeg (9 : Int32).toNatClampNeg)) vD_now) := hD
    refine lv_aload_n hx hb dX1_keep_41 rfl (lv_at hl 0 rfl) ?_
    refine lv_aload_n hx hb dX1_keep_42 rfl (lv_at hl 0 rfl) ?_
    refine va_get (D := D) (ci := 1) (v := .int (vD_21 4)) (C := RX1) (T := TX1) (N := 6) hx hb ht0 niX1 hown hK hP 0 rfl rfl 4 (by decide) (ht0 _ wd59) (fun _ h9 => h9) rfl dX1_keep_43 ?_
    refine lv_iconst (v := 1) hx hb dX1_keep_46 (by decide) ?_
    refine lv_iadd hx hb dX1_keep_47 ?_
    refine lv_bipush (v := 16) hx hb dX1_keep_48 (by decide) ?_
    refine lv_icmp_ge (tgt := 62) hx hb dX1_keep_50 (by decide) (fun c50 => ?_) (fun c50 => ?_)
    · have hok := k_pos c50 hok
      refine lv_iconst (v := 0) hx hb dX1_keep_62 (by decide) ?_
      exact J63 (0 : Int32) (va_up vD_past ((vD_21 4).toNatClampNeg) (va_cpy vD_now (vD_past ((vD_21 4).toNatClampNeg)) (0 : Int32).toNatClampNeg (0 : Int32).toNatClampNeg (9 : Int32).toNatClampNeg)) vD_21 H locs ls hP hD hS (lv_sub hl [0] rfl) hok
    · have hok := k_neg c50 hok
      refine lv_aload_n hx hb dX1_keep_53 rfl (lv_at hl 0 rfl) ?_
      refine va_get (D := D) (ci := 1) (v := .int (vD_21 4)) (C := RX1) (T := TX1) (N := 6) hx hb ht0 niX1 hown hK hP 0 rfl rfl 4 (by decide) (ht0 _ wd59) (fun _ h9 => h9) rfl dX1_keep_54 ?_
      refine lv_iconst (v := 1) hx hb dX1_keep_57 (by decide) ?_
      refine lv_iadd hx hb dX1_keep_58 ?_
      refine lv_goto (tgt := 63) hx hb dX1_keep_59 (by decide) ?_
      exact J63 ((vD_21 4) + (1 : Int32)) (va_up vD_past ((vD_21 4).toNatClampNeg) (va_cpy vD_now (vD_past ((vD_21 4).toNatClampNeg)) (0 : Int32).toNatClampNeg (0 : Int32).toNatClampNeg (9 : Int32).toNatClampNeg)) vD_21 H locs ls hP hD hS (lv_sub hl [0] rfl) hok
  have J16 : ∀ (H : Heap) (locs : List Loc) (ls : Array Slot), va_P D vwCl (wX1_keep cy aD qD pD_past vD vD_past vD_now) H → va_D A (wX1_keep cy aD qD pD_past vD vD_past vD_now) → va_S A s.heap H locs → lv_has ls 1 [(0, .ref aD)] → fX1_keep_J16 vD vD_past vD_now = some (z_vD, z_vD_past) → W p l e ({ frames := 1, cells := 0, slots := 0, locals := 40 } : Room) s m ([.ref aD] : List Value).toArray below meth c H locs 0 0 Q (F0 m 16 ls []) := by
    intro  H locs ls hP hD hS hl hok
    unfold fX1_keep_J16 at hok
    refine lv_aload_n hx hb dX1_keep_16 rfl (lv_at hl 0 rfl) ?_
    refine lv_iconst (v := 0) hx hb dX1_keep_17 (by decide) ?_
    refine va_put (D := D) (ci := 1) (v := .int 0) (ty := .int) (C := RX1) (T := TX1) (N := 6) hx hb ht0 niX1 tyX1 tyX1_ok nmX1 hown hK hP hD hS 0 rfl rfl 4 (by decide) (ht0 _ wd59) (fun _ h9 => h9) rfl (by decide +kernel) rfl rfl (Nat.le_of_ble_eq_true rfl) dX1_keep_18 (fun H locs hP hD hS => ?_)
    have hP : va_P D vwCl (wX1_keep cy aD qD pD_past (upd vD 4 (0 : Int32)) vD_past vD_now) H := hP
    have hD : va_D A (wX1_keep cy aD qD pD_past (upd vD 4 (0 : Int32)) vD_past vD_now) := hD
    exact J21 (upd vD 4 (0 : Int32)) H locs ls hP hD hS (lv_sub hl [0] rfl) hok
  unfold fX1_keep at hok
  obtain ⟨H, hH⟩ : ∃ H, H = s.heap := ⟨_, rfl⟩
  obtain ⟨locs, hlc⟩ : ∃ x : List Loc, x = [] := ⟨_, rfl⟩
  have hP : va_P D vwCl (wX1_keep cy aD qD pD_past vD vD_past vD_now) H := by rw [hH]; exact hP
  have hS : va_S A s.heap H locs := by rw [hH, hlc]; exact hS
  rw [show W p l e _ s m _ below meth c s.heap [] = W p l e _ s m _ below meth c H locs from by rw [hH, hlc]]
  refine lv_aload_n hx hb dX1_keep_0 rfl (lv_at hl 0 rfl) ?_
  refine va_get (D := D) (ci := 1) (v := .int (vD 4)) (C := RX1) (T := TX1) (N := 6) hx hb ht0 niX1 hown hK hP 0 rfl rfl 4 (by decide) (ht0 _ wd59) (fun _ h9 => h9) rfl dX1_keep_1 ?_
  refine lv_if_lt (tgt := 16) hx hb dX1_keep_4 (by decide) (fun c4 => ?_) (fun c4 => ?_)
  · have hok := k_pos c4 hok
    exact J16  H locs ls hP hD hS (lv_sub hl [0] rfl) hok
  · have hok := k_neg c4 hok
    refine lv_aload_n hx hb dX1_keep_7 rfl (lv_at hl 0 rfl) ?_
    refine va_get (D := D) (ci := 1) (v := .int (vD 4)) (C := RX1) (T := TX1) (N := 6) hx hb ht0 niX1 hown hK hP 0 rfl rfl 4 (by decide) (ht0 _ wd59) (fun _ h9 => h9) rfl dX1_keep_8 ?_
    refine lv_bipush (v := 16) hx hb dX1_keep_11 (by decide) ?_
    refine lv_icmp_lt (tgt := 21) hx hb dX1_keep_13 (by decide) (fun c13 => ?_) (fun c13 => ?_)
    · have hok := k_pos c13 hok
      exact J21 vD H locs ls hP hD hS (lv_sub hl [0] rfl) hok
    · have hok := k_neg c13 hok
      exact J16  H locs ls hP hD hS (lv_sub hl [0] rfl) hok
def wsX1_takeBack : List Cond := .code yX1_takeBack cX1_takeBack 1 (some .boolean) :: W0
abbrev wX1_takeBack (cy : Nat → ClassId) (aD : Nat) (qD : Nat → Nat) (pD_past : Nat → Nat) (vD : Nat → Int32) (vD_past : Nat → Nat → Int32) (vD_now : Nat → Int32) : va_W := [(aD, oX1 vD qD), (qD 1, rR cy 16 (fun j => some (pD_past j))), (pD_past 0, rI cy 9 (vD_past 0)), (pD_past 1, rI cy 9 (vD_past 1)), (pD_past 2, rI cy 9 (vD_past 2)), (pD_past 3, rI cy 9 (vD_past 3)), (pD_past 4, rI cy 9 (vD_past 4)), (pD_past 5, rI cy 9 (vD_past 5)), (pD_past 6, rI cy 9 (vD_past 6)), (pD_past 7, rI cy 9 (vD_past 7)), (pD_past 8, rI cy 9 (vD_past 8)), (pD_past 9, rI cy 9 (vD_past 9)), (pD_past 10, rI cy 9 (vD_past 10)), (pD_past 11, rI cy 9 (vD_past 11)), (pD_past 12, rI cy 9 (vD_past 12)), (pD_past 13, rI cy 9 (vD_past 13)), (pD_past 14, rI cy 9 (vD_past 14)), (pD_past 15, rI cy 9 (vD_past 15)), (qD 0, rI cy 9 vD_now)]
theorem gatX1_takeBack_vD_past {cy : Nat → ClassId} (aD : Nat) (qD : Nat → Nat) (pD_past : Nat → Nat) (vD : Nat → Int32) (vD_past : Nat → Nat → Int32) (vD_now : Nat → Int32) {k : Nat} (h : k < 16) : (wX1_takeBack cy aD qD pD_past vD vD_past vD_now)[2 + k]? = some (pD_past k, rI cy 9 (vD_past k)) := by
  rcases (show k = 0 ∨ k = 1 ∨ k = 2 ∨ k = 3 ∨ k = 4 ∨ k = 5 ∨ k = 6 ∨ k = 7 ∨ k = 8 ∨ k = 9 ∨ k = 10 ∨ k = 11 ∨ k = 12 ∨ k = 13 ∨ k = 14 ∨ k = 15 by omega) with rfl | rfl | rfl | rfl | rfl | rfl | rfl | rfl | rfl | rfl | rfl | rfl | rfl | rfl | rfl | rfl <;> rfl
theorem gsetX1_takeBack_vD_past {cy : Nat → ClassId} (aD : Nat) (qD : Nat → Nat) (pD_past : Nat → Nat) (vD : Nat → Int32) (vD_past : Nat → Nat → Int32) (vD_now : Nat → Int32) {k : Nat} (h : k < 16) {f : Nat → Int32} : (wX1_takeBack cy aD qD pD_past vD vD_past vD_now).set (2 + k) (pD_past k, rI cy 9 f) = wX1_takeBack cy aD qD pD_past vD (va_up vD_past k f) vD_now := by
  rcases (show k = 0 ∨ k = 1 ∨ k = 2 ∨ k = 3 ∨ k = 4 ∨ k = 5 ∨ k = 6 ∨ k = 7 ∨ k = 8 ∨ k = 9 ∨ k = 10 ∨ k = 11 ∨ k = 12 ∨ k = 13 ∨ k = 14 ∨ k = 15 by omega) with rfl | rfl | rfl | rfl | rfl | rfl | rfl | rfl | rfl | rfl | rfl | rfl | rfl | rfl | rfl | rfl <;> rfl
set_option maxHeartbeats 4000000 in
set_option maxRecDepth 100000 in
theorem kX1_takeBack (l : Launch) (D : va_G) (cy : Nat → ClassId) (sz : Nat) (aD : Nat) (qD : Nat → Nat) (pD_past : Nat → Nat) (vD : Nat → Int32) (vD_past : Nat → Nat → Int32) (vD_now : Nat → Int32) (zr : Int32) (z_vD : Nat → Int32) (z_vD_now : Nat → Int32) (hok : fX1_takeBack vD vD_past vD_now = some (zr, z_vD, z_vD_now)) (A : Nat → Prop) (hAe : va_A (wX1_takeBack cy aD qD pD_past vD vD_past vD_now) sz = A) : Met l yX1_takeBack wsX1_takeBack ({ frames := 1, cells := 0, slots := 0, locals := 40 } : Room) (kPre D cy [.ref aD] (wX1_takeBack cy aD qD pD_past vD vD_past vD_now) sz) (kQi D cy zr A (wX1_takeBack cy aD qD pD_past z_vD vD_past z_vD_now)) 0 0 A := by
  refine Met.ofW (cc := cX1_takeBack) (maxL := 1) (ret := (some .boolean)) (by decide) rfl ?_
  intro p e s m args below meth c s₁ B hml hv
  obtain ⟨rfl, hsz, hP, hK, hD0, hN⟩ := hv
  have hx := B.exec
  have hb := B.bytes
  have hr := B.returns
  have ht0 : ∀ w ∈ W0, w.before _ s = true := fun w h => atoms_spec (ws := wsX1_takeBack) B.pre w (List.mem_cons_of_mem _ h)
  have hown : s.vm.findClass RX1 = some m.cls := findClass_of_methodNamed B.named
  have hlocks := B.notSynchronized
  subst hsz
  have hD : va_D A (wX1_takeBack cy aD qD pD_past vD vD_past vD_now) := by rw [← hAe]; exact hD0.self
  have hA : ∀ q : Nat, s.heap.size ≤ q → A q := fun q h => by rw [← hAe]; exact Or.inr h
  have hS : va_S A s.heap s.heap [] := va_S.rf
  have hl := lv_entry ([.ref aD]) (n := 1) (Nat.le_of_ble_eq_true rfl)
  rw [lg_entry_eq]
  generalize (lg_sl ([.ref aD]) ++ List.replicate (1 - (lg_sl ([.ref aD])).length) Slot.unset).toArray = ls at hl ⊢
  have hl : lv_has ls 1 [(0, .ref aD)] := hl
  generalize hQe : MQ below (kQi D cy zr A (wX1_takeBack cy aD qD pD_past z_vD vD_past z_vD_now)) ([.ref aD] : List Value).toArray s 0 0 A = Q
  have J37 : ∀ (t0_37 : Int32), ∀ (H : Heap) (locs : List Loc) (ls : Array Slot), va_P D vwCl (wX1_takeBack cy aD qD pD_past vD vD_past vD_now) H → va_D A (wX1_takeBack cy aD qD pD_past vD vD_past vD_now) → va_S A s.heap H locs → lv_has ls 1 [(0, .ref aD)] → fX1_takeBack_J37 vD vD_past vD_now t0_37 = some (zr, z_vD, z_vD_now) → W p l e ({ frames := 1, cells := 0, slots := 0, locals := 40 } : Room) s m ([.ref aD] : List Value).toArray below meth c H locs 0 0 Q (F0 m 37 ls [.int t0_37, .ref aD]) := by
    intro t0_37 H locs ls hP hD hS hl hok
    unfold fX1_takeBack_J37 at hok
    refine va_put (D := D) (ci := 1) (v := .int t0_37) (ty := .int) (C := RX1) (T := TX1) (N := 6) hx hb ht0 niX1 tyX1 tyX1_ok nmX1 hown hK hP hD hS 0 rfl rfl 4 (by decide) (ht0 _ wd59) (fun _ h9 => h9) rfl (by decide +kernel) rfl rfl (Nat.le_of_ble_eq_true rfl) dX1_takeBack_37 (fun H locs hP hD hS => ?_)
    have hP : va_P D vwCl (wX1_takeBack cy aD qD pD_past (upd vD 4 t0_37) vD_past vD_now) H := hP
    have hD : va_D A (wX1_takeBack cy aD qD pD_past (upd vD 4 t0_37) vD_past vD_now) := hD
    refine lv_aload_n hx hb dX1_takeBack_40 rfl (lv_at hl 0 rfl) ?_
    refine va_get (D := D) (ci := 1) (v := .ref (qD 1)) (C := RX1) (T := TX1) (N := 6) hx hb ht0 niX1 hown hK hP 0 rfl rfl 1 (by decide) (ht0 _ wd60) (fun _ h9 => h9) rfl dX1_takeBack_41 ?_
    refine lv_aload_n hx hb dX1_takeBack_44 rfl (lv_at hl 0 rfl) ?_
    refine va_get (D := D) (ci := 1) (v := .int t0_37) (C := RX1) (T := TX1) (N := 6) hx hb ht0 niX1 hown hK hP 0 rfl rfl 4 (by decide) (ht0 _ wd59) (fun _ h9 => h9) rfl dX1_takeBack_45 ?_
    obtain ⟨g48, hok⟩ := gd_some hok
    refine va_aldA hx hb hK hP 1 4 rfl rfl (okI_in g48) dX1_takeBack_48 ?_
    refine lv_iconst (v := 0) hx hb dX1_takeBack_49 (by decide) ?_
    refine lv_aload_n hx hb dX1_takeBack_50 rfl (lv_at hl 0 rfl) ?_
    refine va_get (D := D) (ci := 1) (v := .ref (qD 0)) (C := RX1) (T := TX1) (N := 6) hx hb ht0 niX1 hown hK hP 0 rfl rfl 0 (by decide) (ht0 _ wd50) (fun _ h9 => h9) rfl dX1_takeBack_51 ?_
    refine lv_iconst (v := 0) hx hb dX1_takeBack_54 (by decide) ?_
    refine lv_bipush (v := 9) hx hb dX1_takeBack_55 (by decide) ?_
    refine va_copyi hx hb (hml.trans hl.1.symm) hown (ht0 _ wd61) (ht0 _ wd62) (ht0 _ wd63) (ht0 _ wd64) hK hP hD hS (2 + t0_37.toNatClampNeg) 18 0 0 (gatX1_takeBack_vD_past aD qD pD_past (upd vD 4 t0_37) vD_past vD_now (okI_lt g48)) rfl rfl rfl rfl (by decide) (by decide) (by decide) (by decide) (by decide) (fun _ _ => rfl) (Nat.le_of_ble_eq_true rfl) (Nat.le_of_ble_eq_true rfl) dX1_takeBack_57 (fun H locs hP hD hS => ?_)
    have hP : va_P D vwCl (wX1_takeBack cy aD qD pD_past (upd vD 4 t0_37) vD_past (va_cpy (vD_past t0_37.toNatClampNeg) vD_now (0 : Int32).toNatClampNeg (0 : Int32).toNatClampNeg (9 : Int32).toNatClampNeg)) H := hP
    have hD : va_D A (wX1_takeBack cy aD qD pD_past (upd vD 4 t0_37) vD_past (va_cpy (vD_past t0_37.toNatClampNeg) vD_now (0 : Int32).toNatClampNeg (0 : Int32).toNatClampNeg (9 : Int32).toNatClampNeg)) := hD
    refine lv_aload_n hx hb dX1_takeBack_60 rfl (lv_at hl 0 rfl) ?_
    refine lv_dup hx hb dX1_takeBack_61 rfl ?_
    refine va_get (D := D) (ci := 1) (v := .int (vD 3)) (C := RX1) (T := TX1) (N := 6) hx hb ht0 niX1 hown hK hP 0 rfl rfl 3 (by decide) (ht0 _ wd48) (fun _ h9 => h9) rfl dX1_takeBack_62 ?_
    refine lv_iconst (v := 1) hx hb dX1_takeBack_65 (by decide) ?_
    refine lv_isub hx hb dX1_takeBack_66 ?_
    refine va_put (D := D) (ci := 1) (v := .int ((vD 3) - (1 : Int32))) (ty := .int) (C := RX1) (T := TX1) (N := 6) hx hb ht0 niX1 tyX1 tyX1_ok nmX1 hown hK hP hD hS 0 rfl rfl 3 (by decide) (ht0 _ wd48) (fun _ h9 => h9) rfl (by decide +kernel) rfl rfl (Nat.le_of_ble_eq_true rfl) dX1_takeBack_67 (fun H locs hP hD hS => ?_)
    have hP : va_P D vwCl (wX1_takeBack cy aD qD pD_past (upd (upd vD 3 ((vD 3) - (1 : Int32))) 4 t0_37) vD_past (va_cpy (vD_past t0_37.toNatClampNeg) vD_now (0 : Int32).toNatClampNeg (0 : Int32).toNatClampNeg (9 : Int32).toNatClampNeg)) H := hP
    have hD : va_D A (wX1_takeBack cy aD qD pD_past (upd (upd vD 3 ((vD 3) - (1 : Int32))) 4 t0_37) vD_past (va_cpy (vD_past t0_37.toNatClampNeg) vD_now (0 : Int32).toNatClampNeg (0 : Int32).toNatClampNeg (9 : Int32).toNatClampNeg)) := hD
    refine lv_iconst (v := 1) hx hb dX1_takeBack_70 (by decide) ?_
    cases hok
    subst hQe; exact W.zret hx hb hr rfl (fun t ht hW => ⟨⟨_, (), rfl, rfl, by rw [ht]; exact hP, va_K.moved hW.alike hK, hD⟩, hS.F ht⟩) hS.2.2 dX1_takeBack_71
  have J35 : ∀ (H : Heap) (locs : List Loc) (ls : Array Slot), va_P D vwCl (wX1_takeBack cy aD qD pD_past vD vD_past vD_now) H → va_D A (wX1_takeBack cy aD qD pD_past vD vD_past vD_now) → va_S A s.heap H locs → lv_has ls 1 [(0, .ref aD)] → fX1_takeBack_J35 vD vD_past vD_now = some (zr, z_vD, z_vD_now) → W p l e ({ frames := 1, cells := 0, slots := 0, locals := 40 } : Room) s m ([.ref aD] : List Value).toArray below meth c H locs 0 0 Q (F0 m 35 ls [.ref aD]) := by
    intro  H locs ls hP hD hS hl hok
    unfold fX1_takeBack_J35 at hok
    refine lv_bipush (v := 15) hx hb dX1_takeBack_35 (by decide) ?_
    exact J37 (15 : Int32) H locs ls hP hD hS (lv_sub hl [0] rfl) hok
  unfold fX1_takeBack at hok
  obtain ⟨H, hH⟩ : ∃ H, H = s.heap := ⟨_, rfl⟩
  obtain ⟨locs, hlc⟩ : ∃ x : List Loc, x = [] := ⟨_, rfl⟩
  have hP : va_P D vwCl (wX1_takeBack cy aD qD pD_past vD vD_past vD_now) H := by rw [hH]; exact hP
  have hS : va_S A s.heap H locs := by rw [hH, hlc]; exact hS
  rw [show W p l e _ s m _ below meth c s.heap [] = W p l e _ s m _ below meth c H locs from by rw [hH, hlc]]
  refine lv_aload_n hx hb dX1_takeBack_0 rfl (lv_at hl 0 rfl) ?_
  refine va_get (D := D) (ci := 1) (v := .int (vD 3)) (C := RX1) (T := TX1) (N := 6) hx hb ht0 niX1 hown hK hP 0 rfl rfl 3 (by decide) (ht0 _ wd48) (fun _ h9 => h9) rfl dX1_takeBack_1 ?_
  refine lv_if_gt (tgt := 9) hx hb dX1_takeBack_4 (by decide) (fun c4 => ?_) (fun c4 => ?_)
  · have hok := k_pos c4 hok
    refine lv_aload_n hx hb dX1_takeBack_9 rfl (lv_at hl 0 rfl) ?_
    refine lv_aload_n hx hb dX1_takeBack_10 rfl (lv_at hl 0 rfl) ?_
    refine va_get (D := D) (ci := 1) (v := .int (vD 4)) (C := RX1) (T := TX1) (N := 6) hx hb ht0 niX1 hown hK hP 0 rfl rfl 4 (by decide) (ht0 _ wd59) (fun _ h9 => h9) rfl dX1_takeBack_11 ?_
    refine lv_if_le (tgt := 35) hx hb dX1_takeBack_14 (by decide) (fun c14 => ?_) (fun c14 => ?_)
    · have hok := k_pos c14 hok
      exact J35  H locs ls hP hD hS (lv_sub hl [0] rfl) hok
    · have hok := k_neg c14 hok
      refine lv_aload_n hx hb dX1_takeBack_17 rfl (lv_at hl 0 rfl) ?_
      refine va_get (D := D) (ci := 1) (v := .int (vD 4)) (C := RX1) (T := TX1) (N := 6) hx hb ht0 niX1 hown hK hP 0 rfl rfl 4 (by decide) (ht0 _ wd59) (fun _ h9 => h9) rfl dX1_takeBack_18 ?_
      refine lv_bipush (v := 16) hx hb dX1_takeBack_21 (by decide) ?_
      refine lv_icmp_ge (tgt := 35) hx hb dX1_takeBack_23 (by decide) (fun c23 => ?_) (fun c23 => ?_)
      · have hok := k_pos c23 hok
        exact J35  H locs ls hP hD hS (lv_sub hl [0] rfl) hok
      · have hok := k_neg c23 hok
        refine lv_aload_n hx hb dX1_takeBack_26 rfl (lv_at hl 0 rfl) ?_
        refine va_get (D := D) (ci := 1) (v := .int (vD 4)) (C := RX1) (T := TX1) (N := 6) hx hb ht0 niX1 hown hK hP 0 rfl rfl 4 (by decide) (ht0 _ wd59) (fun _ h9 => h9) rfl dX1_takeBack_27 ?_
        refine lv_iconst (v := 1) hx hb dX1_takeBack_30 (by decide) ?_
        refine lv_isub hx hb dX1_takeBack_31 ?_
        refine lv_goto (tgt := 37) hx hb dX1_takeBack_32 (by decide) ?_
        exact J37 ((vD 4) - (1 : Int32)) H locs ls hP hD hS (lv_sub hl [0] rfl) hok
  · have hok := k_neg c4 hok
    refine lv_iconst (v := 0) hx hb dX1_takeBack_7 (by decide) ?_
    cases hok
    subst hQe; exact W.zret hx hb hr rfl (fun t ht hW => ⟨⟨_, (), rfl, rfl, by rw [ht]; exact hP, va_K.moved hW.alike hK, hD⟩, hS.F ht⟩) hS.2.2 dX1_takeBack_8
def wsX1_takeImage : List Cond := .code yX1_takeImage cX1_takeImage 1 (some .int) :: W0
abbrev wX1_takeImage (cy : Nat → ClassId) (aD : Nat) (qD : Nat → Nat) (pD_images : Nat → Nat) (vD : Nat → Int32) (vD_images : Nat → Nat → Int32) (vD_now : Nat → Int32) : va_W := [(aD, oX1 vD qD), (qD 2, rR cy 3 (fun j => some (pD_images j))), (pD_images 0, rI cy 9 (vD_images 0)), (pD_images 1, rI cy 9 (vD_images 1)), (pD_images 2, rI cy 9 (vD_images 2)), (qD 0, rI cy 9 vD_now)]
theorem gatX1_takeImage_vD_images {cy : Nat → ClassId} (aD : Nat) (qD : Nat → Nat) (pD_images : Nat → Nat) (vD : Nat → Int32) (vD_images : Nat → Nat → Int32) (vD_now : Nat → Int32) {k : Nat} (h : k < 3) : (wX1_takeImage cy aD qD pD_images vD vD_images vD_now)[2 + k]? = some (pD_images k, rI cy 9 (vD_images k)) := by
  rcases (show k = 0 ∨ k = 1 ∨ k = 2 by omega) with rfl | rfl | rfl <;> rfl
theorem gsetX1_takeImage_vD_images {cy : Nat → ClassId} (aD : Nat) (qD : Nat → Nat) (pD_images : Nat → Nat) (vD : Nat → Int32) (vD_images : Nat → Nat → Int32) (vD_now : Nat → Int32) {k : Nat} (h : k < 3) {f : Nat → Int32} : (wX1_takeImage cy aD qD pD_images vD vD_images vD_now).set (2 + k) (pD_images k, rI cy 9 f) = wX1_takeImage cy aD qD pD_images vD (va_up vD_images k f) vD_now := by
  rcases (show k = 0 ∨ k = 1 ∨ k = 2 by omega) with rfl | rfl | rfl <;> rfl
set_option maxHeartbeats 4000000 in
set_option maxRecDepth 100000 in
theorem kX1_takeImage (l : Launch) (D : va_G) (cy : Nat → ClassId) (sz : Nat) (aD : Nat) (qD : Nat → Nat) (pD_images : Nat → Nat) (vD : Nat → Int32) (vD_images : Nat → Nat → Int32) (vD_now : Nat → Int32) (zr : Int32) (z_vD : Nat → Int32) (z_vD_images : Nat → Nat → Int32) (hok : fX1_takeImage vD vD_images vD_now = some (zr, z_vD, z_vD_images)) (A : Nat → Prop) (hAe : va_A (wX1_takeImage cy aD qD pD_images vD vD_images vD_now) sz = A) : Met l yX1_takeImage wsX1_takeImage ({ frames := 1, cells := 0, slots := 0, locals := 40 } : Room) (kPre D cy [.ref aD] (wX1_takeImage cy aD qD pD_images vD vD_images vD_now) sz) (kQi D cy zr A (wX1_takeImage cy aD qD pD_images z_vD z_vD_images vD_now)) 0 0 A := by
  refine Met.ofW (cc := cX1_takeImage) (maxL := 1) (ret := (some .int)) (by decide) rfl ?_
  intro p e s m args below meth c s₁ B hml hv
  obtain ⟨rfl, hsz, hP, hK, hD0, hN⟩ := hv
  have hx := B.exec
  have hb := B.bytes
  have hr := B.returns
  have ht0 : ∀ w ∈ W0, w.before _ s = true := fun w h => atoms_spec (ws := wsX1_takeImage) B.pre w (List.mem_cons_of_mem _ h)
  have hown : s.vm.findClass RX1 = some m.cls := findClass_of_methodNamed B.named
  have hlocks := B.notSynchronized
  subst hsz
  have hD : va_D A (wX1_takeImage cy aD qD pD_images vD vD_images vD_now) := by rw [← hAe]; exact hD0.self
  have hA : ∀ q : Nat, s.heap.size ≤ q → A q := fun q h => by rw [← hAe]; exact Or.inr h
  have hS : va_S A s.heap s.heap [] := va_S.rf
  have hl := lv_entry ([.ref aD]) (n := 1) (Nat.le_of_ble_eq_true rfl)
  rw [lg_entry_eq]
  generalize (lg_sl ([.ref aD]) ++ List.replicate (1 - (lg_sl ([.ref aD])).length) Slot.unset).toArray = ls at hl ⊢
  have hl : lv_has ls 1 [(0, .ref aD)] := hl
  generalize hQe : MQ below (kQi D cy zr A (wX1_takeImage cy aD qD pD_images z_vD z_vD_images vD_now)) ([.ref aD] : List Value).toArray s 0 0 A = Q
  have J15 : ∀ (H : Heap) (locs : List Loc) (ls : Array Slot), va_P D vwCl (wX1_takeImage cy aD qD pD_images vD vD_images vD_now) H → va_D A (wX1_takeImage cy aD qD pD_images vD vD_images vD_now) → va_S A s.heap H locs → lv_has ls 1 [] → fX1_takeImage_J15 vD vD_images = some (zr, z_vD, z_vD_images) → W p l e ({ frames := 1, cells := 0, slots := 0, locals := 40 } : Room) s m ([.ref aD] : List Value).toArray below meth c H locs 0 0 Q (F0 m 15 ls []) := by
    intro  H locs ls hP hD hS hl hok
    unfold fX1_takeImage_J15 at hok
    refine lv_iconst (v := -1) hx hb dX1_takeImage_15 (by decide) ?_
    cases hok
    subst hQe; exact W.iret hx hb hr (fun t ht hW => ⟨⟨_, (), rfl, rfl, by rw [ht]; exact hP, va_K.moved hW.alike hK, hD⟩, hS.F ht⟩) hS.2.2 dX1_takeImage_16
  unfold fX1_takeImage at hok
  obtain ⟨H, hH⟩ : ∃ H, H = s.heap := ⟨_, rfl⟩
  obtain ⟨locs, hlc⟩ : ∃ x : List Loc, x = [] := ⟨_, rfl⟩
  have hP : va_P D vwCl (wX1_takeImage cy aD qD pD_images vD vD_images vD_now) H := by rw [hH]; exact hP
  have hS : va_S A s.heap H locs := by rw [hH, hlc]; exact hS
  rw [show W p l e _ s m _ below meth c s.heap [] = W p l e _ s m _ below meth c H locs from by rw [hH, hlc]]
  refine lv_aload_n hx hb dX1_takeImage_0 rfl (lv_at hl 0 rfl) ?_
  refine va_get (D := D) (ci := 1) (v := .int (vD 5)) (C := RX1) (T := TX1) (N := 6) hx hb ht0 niX1 hown hK hP 0 rfl rfl 5 (by decide) (ht0 _ wd49) (fun _ h9 => h9) rfl dX1_takeImage_1 ?_
  refine lv_if_lt (tgt := 15) hx hb dX1_takeImage_4 (by decide) (fun c4 => ?_) (fun c4 => ?_)
  · have hok := k_pos c4 hok
    exact J15  H locs ls hP hD hS (lv_sub hl [] rfl) hok
  · have hok := k_neg c4 hok
    refine lv_aload_n hx hb dX1_takeImage_7 rfl (lv_at hl 0 rfl) ?_
    refine va_get (D := D) (ci := 1) (v := .int (vD 5)) (C := RX1) (T := TX1) (N := 6) hx hb ht0 niX1 hown hK hP 0 rfl rfl 5 (by decide) (ht0 _ wd49) (fun _ h9 => h9) rfl dX1_takeImage_8 ?_
    refine lv_iconst (v := 3) hx hb dX1_takeImage_11 (by decide) ?_
    refine lv_icmp_lt (tgt := 17) hx hb dX1_takeImage_12 (by decide) (fun c12 => ?_) (fun c12 => ?_)
    · have hok := k_pos c12 hok
      refine lv_aload_n hx hb dX1_takeImage_17 rfl (lv_at hl 0 rfl) ?_
      refine va_get (D := D) (ci := 1) (v := .ref (qD 0)) (C := RX1) (T := TX1) (N := 6) hx hb ht0 niX1 hown hK hP 0 rfl rfl 0 (by decide) (ht0 _ wd50) (fun _ h9 => h9) rfl dX1_takeImage_18 ?_
      refine lv_iconst (v := 0) hx hb dX1_takeImage_21 (by decide) ?_
      refine lv_aload_n hx hb dX1_takeImage_22 rfl (lv_at hl 0 rfl) ?_
      refine va_get (D := D) (ci := 1) (v := .ref (qD 2)) (C := RX1) (T := TX1) (N := 6) hx hb ht0 niX1 hown hK hP 0 rfl rfl 2 (by decide) (ht0 _ wd65) (fun _ h9 => h9) rfl dX1_takeImage_23 ?_
      refine lv_aload_n hx hb dX1_takeImage_26 rfl (lv_at hl 0 rfl) ?_
      refine va_get (D := D) (ci := 1) (v := .int (vD 5)) (C := RX1) (T := TX1) (N := 6) hx hb ht0 niX1 hown hK hP 0 rfl rfl 5 (by decide) (ht0 _ wd49) (fun _ h9 => h9) rfl dX1_takeImage_27 ?_
      obtain ⟨g30, hok⟩ := gd_some hok
      refine va_aldA hx hb hK hP 1 4 rfl rfl (okI_in g30) dX1_takeImage_30 ?_
      refine lv_iconst (v := 0) hx hb dX1_takeImage_31 (by decide) ?_
      refine lv_bipush (v := 9) hx hb dX1_takeImage_32 (by decide) ?_
      refine va_copyi hx hb (hml.trans hl.1.symm) hown (ht0 _ wd61) (ht0 _ wd62) (ht0 _ wd63) (ht0 _ wd64) hK hP hD hS 5 (2 + (vD 5).toNatClampNeg) 0 0 rfl (gatX1_takeImage_vD_images aD qD pD_images vD vD_images vD_now (okI_lt g30)) rfl rfl rfl (by decide) (by decide) (by decide) (by decide) (by decide) (fun _ _ => rfl) (Nat.le_of_ble_eq_true rfl) (Nat.le_of_ble_eq_true rfl) dX1_takeImage_34 (fun H locs hP hD hS => ?_)
      rw [gsetX1_takeImage_vD_images aD qD pD_images vD vD_images vD_now (okI_lt g30)] at hP hD
      have hP : va_P D vwCl (wX1_takeImage cy aD qD pD_images vD (va_up vD_images ((vD 5).toNatClampNeg) (va_cpy vD_now (vD_images ((vD 5).toNatClampNeg)) (0 : Int32).toNatClampNeg (0 : Int32).toNatClampNeg (9 : Int32).toNatClampNeg)) vD_now) H := hP
      have hD : va_D A (wX1_takeImage cy aD qD pD_images vD (va_up vD_images ((vD 5).toNatClampNeg) (va_cpy vD_now (vD_images ((vD 5).toNatClampNeg)) (0 : Int32).toNatClampNeg (0 : Int32).toNatClampNeg (9 : Int32).toNatClampNeg)) vD_now) := hD
      refine lv_aload_n hx hb dX1_takeImage_37 rfl (lv_at hl 0 rfl) ?_
      refine lv_dup hx hb dX1_takeImage_38 rfl ?_
      refine va_get (D := D) (ci := 1) (v := .int (vD 5)) (C := RX1) (T := TX1) (N := 6) hx hb ht0 niX1 hown hK hP 0 rfl rfl 5 (by decide) (ht0 _ wd49) (fun _ h9 => h9) rfl dX1_takeImage_39 ?_
      refine lv_iconst (v := 1) hx hb dX1_takeImage_42 (by decide) ?_
      refine lv_iadd hx hb dX1_takeImage_43 ?_
      refine va_put (D := D) (ci := 1) (v := .int ((vD 5) + (1 : Int32))) (ty := .int) (C := RX1) (T := TX1) (N := 6) hx hb ht0 niX1 tyX1 tyX1_ok nmX1 hown hK hP hD hS 0 rfl rfl 5 (by decide) (ht0 _ wd49) (fun _ h9 => h9) rfl (by decide +kernel) rfl rfl (Nat.le_of_ble_eq_true rfl) dX1_takeImage_44 (fun H locs hP hD hS => ?_)
      have hP : va_P D vwCl (wX1_takeImage cy aD qD pD_images (upd vD 5 ((vD 5) + (1 : Int32))) (va_up vD_images ((vD 5).toNatClampNeg) (va_cpy vD_now (vD_images ((vD 5).toNatClampNeg)) (0 : Int32).toNatClampNeg (0 : Int32).toNatClampNeg (9 : Int32).toNatClampNeg)) vD_now) H := hP
      have hD : va_D A (wX1_takeImage cy aD qD pD_images (upd vD 5 ((vD 5) + (1 : Int32))) (va_up vD_images ((vD 5).toNatClampNeg) (va_cpy vD_now (vD_images ((vD 5).toNatClampNeg)) (0 : Int32).toNatClampNeg (0 : Int32).toNatClampNeg (9 : Int32).toNatClampNeg)) vD_now) := hD
      refine lv_aload_n hx hb dX1_takeImage_47 rfl (lv_at hl 0 rfl) ?_
      refine va_get (D := D) (ci := 1) (v := .int ((vD 5) + (1 : Int32))) (C := RX1) (T := TX1) (N := 6) hx hb ht0 niX1 hown hK hP 0 rfl rfl 5 (by decide) (ht0 _ wd49) (fun _ h9 => h9) rfl dX1_takeImage_48 ?_
      refine lv_iconst (v := 1) hx hb dX1_takeImage_51 (by decide) ?_
      refine lv_isub hx hb dX1_takeImage_52 ?_
      cases hok
      subst hQe; exact W.iret hx hb hr (fun t ht hW => ⟨⟨_, (), rfl, rfl, by rw [ht]; exact hP, va_K.moved hW.alike hK, hD⟩, hS.F ht⟩) hS.2.2 dX1_takeImage_53
    · have hok := k_neg c12 hok
      exact J15  H locs ls hP hD hS (lv_sub hl [] rfl) hok
def wsX1_returnTo : List Cond := .code yX1_returnTo cX1_returnTo 2 (some .boolean) :: W0
abbrev wX1_returnTo (cy : Nat → ClassId) (aD : Nat) (qD : Nat → Nat) (pD_images : Nat → Nat) (vD : Nat → Int32) (vD_images : Nat → Nat → Int32) (vD_now : Nat → Int32) : va_W := [(aD, oX1 vD qD), (qD 2, rR cy 3 (fun j => some (pD_images j))), (pD_images 0, rI cy 9 (vD_images 0)), (pD_images 1, rI cy 9 (vD_images 1)), (pD_images 2, rI cy 9 (vD_images 2)), (qD 0, rI cy 9 vD_now)]
theorem gatX1_returnTo_vD_images {cy : Nat → ClassId} (aD : Nat) (qD : Nat → Nat) (pD_images : Nat → Nat) (vD : Nat → Int32) (vD_images : Nat → Nat → Int32) (vD_now : Nat → Int32) {k : Nat} (h : k < 3) : (wX1_returnTo cy aD qD pD_images vD vD_images vD_now)[2 + k]? = some (pD_images k, rI cy 9 (vD_images k)) := by
  rcases (show k = 0 ∨ k = 1 ∨ k = 2 by omega) with rfl | rfl | rfl <;> rfl
theorem gsetX1_returnTo_vD_images {cy : Nat → ClassId} (aD : Nat) (qD : Nat → Nat) (pD_images : Nat → Nat) (vD : Nat → Int32) (vD_images : Nat → Nat → Int32) (vD_now : Nat → Int32) {k : Nat} (h : k < 3) {f : Nat → Int32} : (wX1_returnTo cy aD qD pD_images vD vD_images vD_now).set (2 + k) (pD_images k, rI cy 9 f) = wX1_returnTo cy aD qD pD_images vD (va_up vD_images k f) vD_now := by
  rcases (show k = 0 ∨ k = 1 ∨ k = 2 by omega) with rfl | rfl | rfl <;> rfl
set_option maxHeartbeats 4000000 in
set_option maxRecDepth 100000 in
theorem kX1_returnTo (l : Launch) (D : va_G) (cy : Nat → ClassId) (sz : Nat) (aD : Nat) (qD : Nat → Nat) (pD_images : Nat → Nat) (vD : Nat → Int32) (vD_images : Nat → Nat → Int32) (vD_now : Nat → Int32) (x1 : Int32) (zr : Int32) (z_vD : Nat → Int32) (z_vD_now : Nat → Int32) (hok : fX1_returnTo vD vD_images vD_now x1 = some (zr, z_vD, z_vD_now)) (A : Nat → Prop) (hAe : va_A (wX1_returnTo cy aD qD pD_images vD vD_images vD_now) sz = A) : Met l yX1_returnTo wsX1_returnTo ({ frames := 1, cells := 0, slots := 0, locals := 40 } : Room) (kPre D cy [.ref aD, .int x1] (wX1_returnTo cy aD qD pD_images vD vD_images vD_now) sz) (kQi D cy zr A (wX1_returnTo cy aD qD pD_images z_vD vD_images z_vD_now)) 0 0 A := by
  refine Met.ofW (cc := cX1_returnTo) (maxL := 2) (ret := (some .boolean)) (by decide) rfl ?_
  intro p e s m args below meth c s₁ B hml hv
  obtain ⟨rfl, hsz, hP, hK, hD0, hN⟩ := hv
  have hx := B.exec
  have hb := B.bytes
  have hr := B.returns
  have ht0 : ∀ w ∈ W0, w.before _ s = true := fun w h => atoms_spec (ws := wsX1_returnTo) B.pre w (List.mem_cons_of_mem _ h)
  have hown : s.vm.findClass RX1 = some m.cls := findClass_of_methodNamed B.named
  have hlocks := B.notSynchronized
  subst hsz
  have hD : va_D A (wX1_returnTo cy aD qD pD_images vD vD_images vD_now) := by rw [← hAe]; exact hD0.self
  have hA : ∀ q : Nat, s.heap.size ≤ q → A q := fun q h => by rw [← hAe]; exact Or.inr h
  have hS : va_S A s.heap s.heap [] := va_S.rf
  have hl := lv_entry ([.ref aD, .int x1]) (n := 2) (Nat.le_of_ble_eq_true rfl)
  rw [lg_entry_eq]
  generalize (lg_sl ([.ref aD, .int x1]) ++ List.replicate (2 - (lg_sl ([.ref aD, .int x1])).length) Slot.unset).toArray = ls at hl ⊢
  have hl : lv_has ls 2 [(0, .ref aD), (1, .int x1)] := hl
  generalize hQe : MQ below (kQi D cy zr A (wX1_returnTo cy aD qD pD_images z_vD vD_images z_vD_now)) ([.ref aD, .int x1] : List Value).toArray s 0 0 A = Q
  have J17 : ∀ (H : Heap) (locs : List Loc) (ls : Array Slot), va_P D vwCl (wX1_returnTo cy aD qD pD_images vD vD_images vD_now) H → va_D A (wX1_returnTo cy aD qD pD_images vD vD_images vD_now) → va_S A s.heap H locs → lv_has ls 2 [] → fX1_returnTo_J17 vD vD_now = some (zr, z_vD, z_vD_now) → W p l e ({ frames := 1, cells := 0, slots := 0, locals := 40 } : Room) s m ([.ref aD, .int x1] : List Value).toArray below meth c H locs 0 0 Q (F0 m 17 ls []) := by
    intro  H locs ls hP hD hS hl hok
    unfold fX1_returnTo_J17 at hok
    refine lv_iconst (v := 0) hx hb dX1_returnTo_17 (by decide) ?_
    cases hok
    subst hQe; exact W.zret hx hb hr rfl (fun t ht hW => ⟨⟨_, (), rfl, rfl, by rw [ht]; exact hP, va_K.moved hW.alike hK, hD⟩, hS.F ht⟩) hS.2.2 dX1_returnTo_18
  unfold fX1_returnTo at hok
  obtain ⟨H, hH⟩ : ∃ H, H = s.heap := ⟨_, rfl⟩
  obtain ⟨locs, hlc⟩ : ∃ x : List Loc, x = [] := ⟨_, rfl⟩
  have hP : va_P D vwCl (wX1_returnTo cy aD qD pD_images vD vD_images vD_now) H := by rw [hH]; exact hP
  have hS : va_S A s.heap H locs := by rw [hH, hlc]; exact hS
  rw [show W p l e _ s m _ below meth c s.heap [] = W p l e _ s m _ below meth c H locs from by rw [hH, hlc]]
  refine lv_iload_n hx hb dX1_returnTo_0 rfl (lv_at hl 1 rfl) ?_
  refine lv_if_lt (tgt := 17) hx hb dX1_returnTo_1 (by decide) (fun c1 => ?_) (fun c1 => ?_)
  · have hok := k_pos c1 hok
    exact J17  H locs ls hP hD hS (lv_sub hl [] rfl) hok
  · have hok := k_neg c1 hok
    refine lv_iload_n hx hb dX1_returnTo_4 rfl (lv_at hl 1 rfl) ?_
    refine lv_aload_n hx hb dX1_returnTo_5 rfl (lv_at hl 0 rfl) ?_
    refine va_get (D := D) (ci := 1) (v := .int (vD 5)) (C := RX1) (T := TX1) (N := 6) hx hb ht0 niX1 hown hK hP 0 rfl rfl 5 (by decide) (ht0 _ wd49) (fun _ h9 => h9) rfl dX1_returnTo_6 ?_
    refine lv_icmp_ge (tgt := 17) hx hb dX1_returnTo_9 (by decide) (fun c9 => ?_) (fun c9 => ?_)
    · have hok := k_pos c9 hok
      exact J17  H locs ls hP hD hS (lv_sub hl [] rfl) hok
    · have hok := k_neg c9 hok
      refine lv_iload_n hx hb dX1_returnTo_12 rfl (lv_at hl 1 rfl) ?_
      refine lv_iconst (v := 3) hx hb dX1_returnTo_13 (by decide) ?_
      refine lv_icmp_lt (tgt := 19) hx hb dX1_returnTo_14 (by decide) (fun c14 => ?_) (fun c14 => ?_)
      · have hok := k_pos c14 hok
        refine lv_aload_n hx hb dX1_returnTo_19 rfl (lv_at hl 0 rfl) ?_
        refine va_get (D := D) (ci := 1) (v := .ref (qD 2)) (C := RX1) (T := TX1) (N := 6) hx hb ht0 niX1 hown hK hP 0 rfl rfl 2 (by decide) (ht0 _ wd65) (fun _ h9 => h9) rfl dX1_returnTo_20 ?_
        refine lv_iload_n hx hb dX1_returnTo_23 rfl (lv_at hl 1 rfl) ?_
        obtain ⟨g24, hok⟩ := gd_some hok
        refine va_aldA hx hb hK hP 1 4 rfl rfl (okI_in g24) dX1_returnTo_24 ?_
        refine lv_iconst (v := 0) hx hb dX1_returnTo_25 (by decide) ?_
        refine lv_aload_n hx hb dX1_returnTo_26 rfl (lv_at hl 0 rfl) ?_
        refine va_get (D := D) (ci := 1) (v := .ref (qD 0)) (C := RX1) (T := TX1) (N := 6) hx hb ht0 niX1 hown hK hP 0 rfl rfl 0 (by decide) (ht0 _ wd50) (fun _ h9 => h9) rfl dX1_returnTo_27 ?_
        refine lv_iconst (v := 0) hx hb dX1_returnTo_30 (by decide) ?_
        refine lv_bipush (v := 9) hx hb dX1_returnTo_31 (by decide) ?_
        refine va_copyi hx hb (hml.trans hl.1.symm) hown (ht0 _ wd61) (ht0 _ wd62) (ht0 _ wd63) (ht0 _ wd64) hK hP hD hS (2 + x1.toNatClampNeg) 5 0 0 (gatX1_returnTo_vD_images aD qD pD_images vD vD_images vD_now (okI_lt g24)) rfl rfl rfl rfl (by decide) (by decide) (by decide) (by decide) (by decide) (fun _ _ => rfl) (Nat.le_of_ble_eq_true rfl) (Nat.le_of_ble_eq_true rfl) dX1_returnTo_33 (fun H locs hP hD hS => ?_)
        have hP : va_P D vwCl (wX1_returnTo cy aD qD pD_images vD vD_images (va_cpy (vD_images x1.toNatClampNeg) vD_now (0 : Int32).toNatClampNeg (0 : Int32).toNatClampNeg (9 : Int32).toNatClampNeg)) H := hP
        have hD : va_D A (wX1_returnTo cy aD qD pD_images vD vD_images (va_cpy (vD_images x1.toNatClampNeg) vD_now (0 : Int32).toNatClampNeg (0 : Int32).toNatClampNeg (9 : Int32).toNatClampNeg)) := hD
        refine lv_aload_n hx hb dX1_returnTo_36 rfl (lv_at hl 0 rfl) ?_
        refine lv_iconst (v := 0) hx hb dX1_returnTo_37 (by decide) ?_
        refine va_put (D := D) (ci := 1) (v := .int 0) (ty := .int) (C := RX1) (T := TX1) (N := 6) hx hb ht0 niX1 tyX1 tyX1_ok nmX1 hown hK hP hD hS 0 rfl rfl 3 (by decide) (ht0 _ wd48) (fun _ h9 => h9) rfl (by decide +kernel) rfl rfl (Nat.le_of_ble_eq_true rfl) dX1_returnTo_38 (fun H locs hP hD hS => ?_)
        have hP : va_P D vwCl (wX1_returnTo cy aD qD pD_images (upd vD 3 (0 : Int32)) vD_images (va_cpy (vD_images x1.toNatClampNeg) vD_now (0 : Int32).toNatClampNeg (0 : Int32).toNatClampNeg (9 : Int32).toNatClampNeg)) H := hP
        have hD : va_D A (wX1_returnTo cy aD qD pD_images (upd vD 3 (0 : Int32)) vD_images (va_cpy (vD_images x1.toNatClampNeg) vD_now (0 : Int32).toNatClampNeg (0 : Int32).toNatClampNeg (9 : Int32).toNatClampNeg)) := hD
        refine lv_iconst (v := 1) hx hb dX1_returnTo_41 (by decide) ?_
        cases hok
        subst hQe; exact W.zret hx hb hr rfl (fun t ht hW => ⟨⟨_, (), rfl, rfl, by rw [ht]; exact hP, va_K.moved hW.alike hK, hD⟩, hS.F ht⟩) hS.2.2 dX1_returnTo_42
      · have hok := k_neg c14 hok
        exact J17  H locs ls hP hD hS (lv_sub hl [] rfl) hok
def wsX2_gain : List Cond := .code yX2_gain cX2_gain 4 (some .int) :: W0
abbrev wX2_gain (cy : Nat → ClassId)  : va_W := []
set_option maxHeartbeats 4000000 in
set_option maxRecDepth 100000 in
theorem kX2_gain (l : Launch) (D : va_G) (cy : Nat → ClassId) (sz : Nat) (x0 : Int32) (x1 : Int32) (x2 : Int32) (zr : Int32) (hok : fX2_gain x0 x1 x2 = some zr) (A : Nat → Prop) (hAe : va_A (wX2_gain cy ) sz = A) : Met l yX2_gain wsX2_gain ({ frames := 0, cells := 0, slots := 0, locals := 0 } : Room) (kPre D cy [.int x0, .int x1, .int x2] (wX2_gain cy ) sz) (kQi D cy zr A (wX2_gain cy )) 0 0 A := by
  refine Met.ofW (cc := cX2_gain) (maxL := 4) (ret := (some .int)) (by decide) rfl ?_
  intro p e s m args below meth c s₁ B hml hv
  obtain ⟨rfl, hsz, hP, hK, hD0, hN⟩ := hv
  have hx := B.exec
  have hb := B.bytes
  have hr := B.returns
  have ht0 : ∀ w ∈ W0, w.before _ s = true := fun w h => atoms_spec (ws := wsX2_gain) B.pre w (List.mem_cons_of_mem _ h)
  have hown : s.vm.findClass RX2 = some m.cls := findClass_of_methodNamed B.named
  have hlocks := B.notSynchronized
  subst hsz
  have hD : va_D A (wX2_gain cy ) := by rw [← hAe]; exact hD0.self
  have hA : ∀ q : Nat, s.heap.size ≤ q → A q := fun q h => by rw [← hAe]; exact Or.inr h
  have hS : va_S A s.heap s.heap [] := va_S.rf
  have hl := lv_entry ([.int x0, .int x1, .int x2]) (n := 4) (Nat.le_of_ble_eq_true rfl)
  rw [lg_entry_eq]
  generalize (lg_sl ([.int x0, .int x1, .int x2]) ++ List.replicate (4 - (lg_sl ([.int x0, .int x1, .int x2])).length) Slot.unset).toArray = ls at hl ⊢
  have hl : lv_has ls 4 [(0, .int x0), (1, .int x1), (2, .int x2)] := hl
  generalize hQe : MQ below (kQi D cy zr A (wX2_gain cy )) ([.int x0, .int x1, .int x2] : List Value).toArray s 0 0 A = Q
  have J21 : ∀ (y3_21 : Int32), ∀ (H : Heap) (locs : List Loc) (ls : Array Slot), va_P D vwCl (wX2_gain cy ) H → va_D A (wX2_gain cy ) → va_S A s.heap H locs → lv_has ls 4 [(1, .int x1), (3, .int y3_21)] → fX2_gain_J21 x1 y3_21 = some zr → W p l e ({ frames := 0, cells := 0, slots := 0, locals := 0 } : Room) s m ([.int x0, .int x1, .int x2] : List Value).toArray below meth c H locs 0 0 Q (F0 m 21 ls []) := by
    intro y3_21 H locs ls hP hD hS hl hok
    unfold fX2_gain_J21 at hok
    refine lv_iload_n hx hb dX2_gain_21 rfl (lv_at hl 1 rfl) ?_
    refine lv_iload_n hx hb dX2_gain_22 rfl (lv_at hl 0 rfl) ?_
    refine lv_iload_n hx hb dX2_gain_23 rfl (lv_at hl 0 rfl) ?_
    refine lv_imul hx hb dX2_gain_24 ?_
    refine lv_isub hx hb dX2_gain_25 ?_
    cases hok
    subst hQe; exact W.iret hx hb hr (fun t ht hW => ⟨⟨_, (), rfl, rfl, by rw [ht]; exact hP, va_K.moved hW.alike hK, hD⟩, hS.F ht⟩) hS.2.2 dX2_gain_26
  unfold fX2_gain at hok
  obtain ⟨H, hH⟩ : ∃ H, H = s.heap := ⟨_, rfl⟩
  obtain ⟨locs, hlc⟩ : ∃ x : List Loc, x = [] := ⟨_, rfl⟩
  have hP : va_P D vwCl (wX2_gain cy ) H := by rw [hH]; exact hP
  have hS : va_S A s.heap H locs := by rw [hH, hlc]; exact hS
  rw [show W p l e _ s m _ below meth c s.heap [] = W p l e _ s m _ below meth c H locs from by rw [hH, hlc]]
  refine lv_iconst (v := 0) hx hb dX2_gain_0 (by decide) ?_
  refine lv_istore_n (lv' := [(3, .int 0), (0, .int x0), (1, .int x1), (2, .int x2)]) hx hb dX2_gain_1 rfl hl (by decide) rfl (fun ls hl => ?_)
  refine lv_iload_n hx hb dX2_gain_2 rfl (lv_at hl 2 rfl) ?_
  refine lv_iload_n hx hb dX2_gain_3 rfl (lv_at hl 3 rfl) ?_
  refine lv_icmp_le (tgt := 12) hx hb dX2_gain_4 (by decide) (fun c4 => ?_) (fun c4 => ?_)
  · have hok := k_pos c4 hok
    refine lv_iload_n hx hb dX2_gain_12 rfl (lv_at hl 2 rfl) ?_
    refine lv_iload_n hx hb dX2_gain_13 rfl (lv_at hl 3 rfl) ?_
    refine lv_icmp_ne (tgt := 21) hx hb dX2_gain_14 (by decide) (fun c14 => ?_) (fun c14 => ?_)
    · have hok := k_neg c14 hok
      exact J21 (0 : Int32) H locs ls hP hD hS (lv_sub hl [2, 0] rfl) hok
    · have hok := k_pos c14 hok
      refine lv_iload_n hx hb dX2_gain_17 rfl (lv_at hl 1 rfl) ?_
      refine lv_iconst (v := 2) hx hb dX2_gain_18 (by decide) ?_
      refine lv_idiv hx hb dX2_gain_19 (by decide) ?_
      refine lv_istore_n (lv' := [(3, .int (x0 / (2 : Int32))), (0, .int x0), (1, .int x1), (2, .int x2)]) hx hb dX2_gain_20 rfl hl (by decide) rfl (fun ls hl => ?_)
      exact J21 (x0 / (2 : Int32)) H locs ls hP hD hS (lv_sub hl [2, 0] rfl) hok
  · have hok := k_neg c4 hok
    refine lv_iload_n hx hb dX2_gain_7 rfl (lv_at hl 1 rfl) ?_
    refine lv_istore_n (lv' := [(3, .int x0), (0, .int x0), (1, .int x1), (2, .int x2)]) hx hb dX2_gain_8 rfl hl (by decide) rfl (fun ls hl => ?_)
    refine lv_goto (tgt := 21) hx hb dX2_gain_9 (by decide) ?_
    exact J21 x0 H locs ls hP hD hS (lv_sub hl [2, 0] rfl) hok
def wsX2_areAtRest : List Cond := .code yX2_areAtRest cX2_areAtRest 6 (some .boolean) :: W0
abbrev wX2_areAtRest (cy : Nat → ClassId)  : va_W := []
set_option maxHeartbeats 4000000 in
set_option maxRecDepth 100000 in
theorem kX2_areAtRest (l : Launch) (D : va_G) (cy : Nat → ClassId) (sz : Nat) (x0 : Int32) (x1 : Int32) (x2 : Int32) (zr : Int32) (hok : fX2_areAtRest x0 x1 x2 = some zr) (A : Nat → Prop) (hAe : va_A (wX2_areAtRest cy ) sz = A) : Met l yX2_areAtRest wsX2_areAtRest ({ frames := 1, cells := 0, slots := 0, locals := 23 } : Room) (kPre D cy [.int x0, .int x1, .int x2] (wX2_areAtRest cy ) sz) (kQi D cy zr A (wX2_areAtRest cy )) 0 0 A := by
  refine Met.ofW (cc := cX2_areAtRest) (maxL := 6) (ret := (some .boolean)) (by decide) rfl ?_
  intro p e s m args below meth c s₁ B hml hv
  obtain ⟨rfl, hsz, hP, hK, hD0, hN⟩ := hv
  have hx := B.exec
  have hb := B.bytes
  have hr := B.returns
  have ht0 : ∀ w ∈ W0, w.before _ s = true := fun w h => atoms_spec (ws := wsX2_areAtRest) B.pre w (List.mem_cons_of_mem _ h)
  have hown : s.vm.findClass RX2 = some m.cls := findClass_of_methodNamed B.named
  have hlocks := B.notSynchronized
  subst hsz
  have hD : va_D A (wX2_areAtRest cy ) := by rw [← hAe]; exact hD0.self
  have hA : ∀ q : Nat, s.heap.size ≤ q → A q := fun q h => by rw [← hAe]; exact Or.inr h
  have hS : va_S A s.heap s.heap [] := va_S.rf
  have hl := lv_entry ([.int x0, .int x1, .int x2]) (n := 6) (Nat.le_of_ble_eq_true rfl)
  rw [lg_entry_eq]
  generalize (lg_sl ([.int x0, .int x1, .int x2]) ++ List.replicate (6 - (lg_sl ([.int x0, .int x1, .int x2])).length) Slot.unset).toArray = ls at hl ⊢
  have hl : lv_has ls 6 [(0, .int x0), (1, .int x1), (2, .int x2)] := hl
  generalize hQe : MQ below (kQi D cy zr A (wX2_areAtRest cy )) ([.int x0, .int x1, .int x2] : List Value).toArray s 0 0 A = Q
  have J48 : ∀ (H : Heap) (locs : List Loc) (ls : Array Slot), va_P D vwCl (wX2_areAtRest cy ) H → va_D A (wX2_areAtRest cy ) → va_S A s.heap H locs → lv_has ls 6 [] → fX2_areAtRest_J48 = some zr → W p l e ({ frames := 1, cells := 0, slots := 0, locals := 23 } : Room) s m ([.int x0, .int x1, .int x2] : List Value).toArray below meth c H locs 0 0 Q (F0 m 48 ls []) := by
    intro  H locs ls hP hD hS hl hok
    unfold fX2_areAtRest_J48 at hok
    refine lv_iconst (v := 0) hx hb dX2_areAtRest_48 (by decide) ?_
    cases hok
    subst hQe; exact W.zret hx hb hr rfl (fun t ht hW => ⟨⟨_, (), rfl, rfl, by rw [ht]; exact hP, va_K.moved hW.alike hK, hD⟩, hS.F ht⟩) hS.2.2 dX2_areAtRest_49
  have L18 : ∀ (fuel : Nat) (y3_18 : Int32) (y4_18 : Int32) (y5_18 : Int32), ∀ (H : Heap) (locs : List Loc) (ls : Array Slot), va_P D vwCl (wX2_areAtRest cy ) H → va_D A (wX2_areAtRest cy ) → va_S A s.heap H locs → lv_has ls 6 [(0, .int x0), (1, .int x1), (2, .int x2), (3, .int y3_18), (4, .int y4_18), (5, .int y5_18)] → lp (fX2_areAtRest_B18 x0 x1 x2) fuel (y3_18, y4_18, y5_18) = some zr → W p l e ({ frames := 1, cells := 0, slots := 0, locals := 23 } : Room) s m ([.int x0, .int x1, .int x2] : List Value).toArray below meth c H locs 0 0 Q (F0 m 18 ls []) := by
    intro fuel
    induction fuel with
    | zero => intro y3_18 y4_18 y5_18 H locs ls hP hD hS hl hok; exact (lp_0 hok).elim
    | succ fuel ih18 =>
      intro y3_18 y4_18 y5_18 H locs ls hP hD hS hl hok
      obtain ⟨y18, hok, hL18, hR18⟩ := lp_step hok
      unfold fX2_areAtRest_B18 at hok
      try dsimp only at hok
      refine lv_iload hx hb dX2_areAtRest_18 (lv_at hl 5 rfl) ?_
      refine lv_bipush (v := 6) hx hb dX2_areAtRest_20 (by decide) ?_
      refine lv_icmp_gt (tgt := 56) hx hb dX2_areAtRest_22 (by decide) (fun c22 => ?_) (fun c22 => ?_)
      · have hok := k_pos c22 hok
        obtain ⟨e18, hok, he18⟩ := ex_some hok
        have hok := hok.trans (congrArg some (hL18 _ he18))
        refine lv_iconst (v := 1) hx hb dX2_areAtRest_56 (by decide) ?_
        cases hok
        subst hQe; exact W.zret hx hb hr rfl (fun t ht hW => ⟨⟨_, (), rfl, rfl, by rw [ht]; exact hP, va_K.moved hW.alike hK, hD⟩, hS.F ht⟩) hS.2.2 dX2_areAtRest_57
      · have hok := k_neg c22 hok
        refine lv_iload_n hx hb dX2_areAtRest_25 rfl (lv_at hl 0 rfl) ?_
        refine lv_iload hx hb dX2_areAtRest_26 (lv_at hl 5 rfl) ?_
        refine lv_iload_n hx hb dX2_areAtRest_28 rfl (lv_at hl 2 rfl) ?_
        obtain ⟨r29, hc29, hok⟩ := k_bind hok
        refine kCi (wc := (wX2_gain cy )) (wc2 := (wX2_gain cy )) (wr := []) (ws2 := (wX2_areAtRest cy )) (kRunS (As := [.int x0, .int y5_18, .int x2]) (rest := []) ⟨hx, hb, hml, hown, ht0⟩ (kX2_gain l D cy _ x0 y5_18 x2 r29 hc29 _ rfl) (va_cwS 3 ht0 (gS wd66 wd67 wd68 wd69) rfl rfl rfl (by decide +kernel) ⟨Nat.le_of_ble_eq_true rfl, Nat.le_of_ble_eq_true rfl⟩) hK hN hP hD [] rfl (by decide) rfl hl.1 rfl (Nat.le_of_ble_eq_true rfl) dX2_areAtRest_29 ⟨Nat.zero_le _, Nat.zero_le _⟩) hP hD hS hA [] [] rfl rfl (by decide) (by decide) [] (by decide) rfl rfl (fun H locs hP hD hS => ?_)
        refine lv_iload_n hx hb dX2_areAtRest_32 rfl (lv_at hl 3 rfl) ?_
        refine lv_icmp_gt (tgt := 48) hx hb dX2_areAtRest_33 (by decide) (fun c33 => ?_) (fun c33 => ?_)
        · have hok := k_pos c33 hok
          obtain ⟨e18, hok, he18⟩ := ex_some hok
          have hok := hok.trans (congrArg some (hL18 _ he18))
          exact J48  H locs ls hP hD hS (lv_sub hl [] rfl) hok
        · have hok := k_neg c33 hok
          refine lv_iload_n hx hb dX2_areAtRest_36 rfl (lv_at hl 0 rfl) ?_
          refine lv_iload hx hb dX2_areAtRest_37 (lv_at hl 5 rfl) ?_
          refine lv_iload_n hx hb dX2_areAtRest_39 rfl (lv_at hl 1 rfl) ?_
          obtain ⟨r40, hc40, hok⟩ := k_bind hok
          refine kCi (wc := (wX2_gain cy )) (wc2 := (wX2_gain cy )) (wr := []) (ws2 := (wX2_areAtRest cy )) (kRunS (As := [.int x0, .int y5_18, .int x1]) (rest := []) ⟨hx, hb, hml, hown, ht0⟩ (kX2_gain l D cy _ x0 y5_18 x1 r40 hc40 _ rfl) (va_cwS 3 ht0 (gS wd66 wd67 wd68 wd69) rfl rfl rfl (by decide +kernel) ⟨Nat.le_of_ble_eq_true rfl, Nat.le_of_ble_eq_true rfl⟩) hK hN hP hD [] rfl (by decide) rfl hl.1 rfl (Nat.le_of_ble_eq_true rfl) dX2_areAtRest_40 ⟨Nat.zero_le _, Nat.zero_le _⟩) hP hD hS hA [] [] rfl rfl (by decide) (by decide) [] (by decide) rfl rfl (fun H locs hP hD hS => ?_)
          refine lv_iload hx hb dX2_areAtRest_43 (lv_at hl 4 rfl) ?_
          refine lv_icmp_le (tgt := 50) hx hb dX2_areAtRest_45 (by decide) (fun c45 => ?_) (fun c45 => ?_)
          · have hok := k_pos c45 hok
            refine lv_iinc (v := (y5_18 + 1)) (lv' := [(5, .int (y5_18 + 1)), (0, .int x0), (1, .int x1), (2, .int x2), (3, .int y3_18), (4, .int y4_18)]) hx hb dX2_areAtRest_50 hl (k := 5) rfl (by first | rfl | decide) (by decide) rfl (fun ls hl => ?_)
            refine lv_goto (tgt := 18) hx hb dX2_areAtRest_53 (by decide) ?_
            exact ih18 y3_18 y4_18 (y5_18 + 1) H locs ls hP hD hS (lv_sub hl [1, 2, 3, 4, 5, 0] rfl) (hR18 _ (Option.some.inj hok).symm)
          · have hok := k_neg c45 hok
            obtain ⟨e18, hok, he18⟩ := ex_some hok
            have hok := hok.trans (congrArg some (hL18 _ he18))
            exact J48  H locs ls hP hD hS (lv_sub hl [] rfl) hok
  unfold fX2_areAtRest at hok
  obtain ⟨H, hH⟩ : ∃ H, H = s.heap := ⟨_, rfl⟩
  obtain ⟨locs, hlc⟩ : ∃ x : List Loc, x = [] := ⟨_, rfl⟩
  have hP : va_P D vwCl (wX2_areAtRest cy ) H := by rw [hH]; exact hP
  have hS : va_S A s.heap H locs := by rw [hH, hlc]; exact hS
  rw [show W p l e _ s m _ below meth c s.heap [] = W p l e _ s m _ below meth c H locs from by rw [hH, hlc]]
  refine lv_iload_n hx hb dX2_areAtRest_0 rfl (lv_at hl 0 rfl) ?_
  refine lv_iload_n hx hb dX2_areAtRest_1 rfl (lv_at hl 1 rfl) ?_
  refine lv_iload_n hx hb dX2_areAtRest_2 rfl (lv_at hl 2 rfl) ?_
  obtain ⟨r3, hc3, hok⟩ := k_bind hok
  refine kCi (wc := (wX2_gain cy )) (wc2 := (wX2_gain cy )) (wr := []) (ws2 := (wX2_areAtRest cy )) (kRunS (As := [.int x0, .int x1, .int x2]) (rest := []) ⟨hx, hb, hml, hown, ht0⟩ (kX2_gain l D cy _ x0 x1 x2 r3 hc3 _ rfl) (va_cwS 3 ht0 (gS wd66 wd67 wd68 wd69) rfl rfl rfl (by decide +kernel) ⟨Nat.le_of_ble_eq_true rfl, Nat.le_of_ble_eq_true rfl⟩) hK hN hP hD [] rfl (by decide) rfl hl.1 rfl (Nat.le_of_ble_eq_true rfl) dX2_areAtRest_3 ⟨Nat.zero_le _, Nat.zero_le _⟩) hP hD hS hA [] [] rfl rfl (by decide) (by decide) [] (by decide) rfl rfl (fun H locs hP hD hS => ?_)
  refine lv_istore_n (lv' := [(3, .int r3), (0, .int x0), (1, .int x1), (2, .int x2)]) hx hb dX2_areAtRest_6 rfl hl (by decide) rfl (fun ls hl => ?_)
  refine lv_iload_n hx hb dX2_areAtRest_7 rfl (lv_at hl 1 rfl) ?_
  refine lv_iload_n hx hb dX2_areAtRest_8 rfl (lv_at hl 3 rfl) ?_
  refine lv_iload_n hx hb dX2_areAtRest_9 rfl (lv_at hl 2 rfl) ?_
  obtain ⟨r10, hc10, hok⟩ := k_bind hok
  refine kCi (wc := (wX2_gain cy )) (wc2 := (wX2_gain cy )) (wr := []) (ws2 := (wX2_areAtRest cy )) (kRunS (As := [.int x0, .int x2, .int x1]) (rest := []) ⟨hx, hb, hml, hown, ht0⟩ (kX2_gain l D cy _ x0 x2 x1 r10 hc10 _ rfl) (va_cwS 3 ht0 (gS wd66 wd67 wd68 wd69) rfl rfl rfl (by decide +kernel) ⟨Nat.le_of_ble_eq_true rfl, Nat.le_of_ble_eq_true rfl⟩) hK hN hP hD [] rfl (by decide) rfl hl.1 rfl (Nat.le_of_ble_eq_true rfl) dX2_areAtRest_10 ⟨Nat.zero_le _, Nat.zero_le _⟩) hP hD hS hA [] [] rfl rfl (by decide) (by decide) [] (by decide) rfl rfl (fun H locs hP hD hS => ?_)
  refine lv_istore (lv' := [(4, .int r10), (3, .int r3), (0, .int x0), (1, .int x1), (2, .int x2)]) hx hb dX2_areAtRest_13 hl (by decide) rfl (fun ls hl => ?_)
  refine lv_iconst (v := 0) hx hb dX2_areAtRest_15 (by decide) ?_
  refine lv_istore (lv' := [(5, .int 0), (4, .int r10), (3, .int r3), (0, .int x0), (1, .int x1), (2, .int x2)]) hx hb dX2_areAtRest_16 hl (by decide) rfl (fun ls hl => ?_)
  exact L18 5000 r3 r10 (0 : Int32) H locs ls hP hD hS (lv_sub hl [3, 4, 5, 2, 1, 0] rfl) hok
def wsX4_kindOf : List Cond := .code yX4_kindOf cX4_kindOf 2 (some .int) :: W0
abbrev wX4_kindOf (cy : Nat → ClassId) (aH : Nat) (qH : Nat → Nat) (vH : Nat → Int32) (vH_kinds : Nat → Int32) : va_W := [(aH, oX4 vH qH), (qH 14, rI cy 7 vH_kinds)]
set_option maxHeartbeats 4000000 in
set_option maxRecDepth 100000 in
theorem kX4_kindOf (l : Launch) (D : va_G) (cy : Nat → ClassId) (sz : Nat) (aH : Nat) (qH : Nat → Nat) (vH : Nat → Int32) (vH_kinds : Nat → Int32) (x1 : Int32) (zr : Int32) (hok : fX4_kindOf vH vH_kinds x1 = some zr) (A : Nat → Prop) (hAe : va_A (wX4_kindOf cy aH qH vH vH_kinds) sz = A) : Met l yX4_kindOf wsX4_kindOf ({ frames := 0, cells := 0, slots := 0, locals := 0 } : Room) (kPre D cy [.ref aH, .int x1] (wX4_kindOf cy aH qH vH vH_kinds) sz) (kQi D cy zr A (wX4_kindOf cy aH qH vH vH_kinds)) 0 0 A := by
  refine Met.ofW (cc := cX4_kindOf) (maxL := 2) (ret := (some .int)) (by decide) rfl ?_
  intro p e s m args below meth c s₁ B hml hv
  obtain ⟨rfl, hsz, hP, hK, hD0, hN⟩ := hv
  have hx := B.exec
  have hb := B.bytes
  have hr := B.returns
  have ht0 : ∀ w ∈ W0, w.before _ s = true := fun w h => atoms_spec (ws := wsX4_kindOf) B.pre w (List.mem_cons_of_mem _ h)
  have hown : s.vm.findClass RX4 = some m.cls := findClass_of_methodNamed B.named
  have hlocks := B.notSynchronized
  subst hsz
  have hD : va_D A (wX4_kindOf cy aH qH vH vH_kinds) := by rw [← hAe]; exact hD0.self
  have hA : ∀ q : Nat, s.heap.size ≤ q → A q := fun q h => by rw [← hAe]; exact Or.inr h
  have hS : va_S A s.heap s.heap [] := va_S.rf
  have hl := lv_entry ([.ref aH, .int x1]) (n := 2) (Nat.le_of_ble_eq_true rfl)
  rw [lg_entry_eq]
  generalize (lg_sl ([.ref aH, .int x1]) ++ List.replicate (2 - (lg_sl ([.ref aH, .int x1])).length) Slot.unset).toArray = ls at hl ⊢
  have hl : lv_has ls 2 [(0, .ref aH), (1, .int x1)] := hl
  generalize hQe : MQ below (kQi D cy zr A (wX4_kindOf cy aH qH vH vH_kinds)) ([.ref aH, .int x1] : List Value).toArray s 0 0 A = Q
  have J20 : ∀ (t0_20 : Int32), ∀ (H : Heap) (locs : List Loc) (ls : Array Slot), va_P D vwCl (wX4_kindOf cy aH qH vH vH_kinds) H → va_D A (wX4_kindOf cy aH qH vH vH_kinds) → va_S A s.heap H locs → lv_has ls 2 [] → fX4_kindOf_J20 t0_20 = some zr → W p l e ({ frames := 0, cells := 0, slots := 0, locals := 0 } : Room) s m ([.ref aH, .int x1] : List Value).toArray below meth c H locs 0 0 Q (F0 m 20 ls [.int t0_20]) := by
    intro t0_20 H locs ls hP hD hS hl hok
    unfold fX4_kindOf_J20 at hok
    cases hok
    subst hQe; exact W.iret hx hb hr (fun t ht hW => ⟨⟨_, (), rfl, rfl, by rw [ht]; exact hP, va_K.moved hW.alike hK, hD⟩, hS.F ht⟩) hS.2.2 dX4_kindOf_20
  have J19 : ∀ (H : Heap) (locs : List Loc) (ls : Array Slot), va_P D vwCl (wX4_kindOf cy aH qH vH vH_kinds) H → va_D A (wX4_kindOf cy aH qH vH vH_kinds) → va_S A s.heap H locs → lv_has ls 2 [] → fX4_kindOf_J19 = some zr → W p l e ({ frames := 0, cells := 0, slots := 0, locals := 0 } : Room) s m ([.ref aH, .int x1] : List Value).toArray below meth c H locs 0 0 Q (F0 m 19 ls []) := by
    intro  H locs ls hP hD hS hl hok
    unfold fX4_kindOf_J19 at hok
    refine lv_iconst (v := 0) hx hb dX4_kindOf_19 (by decide) ?_
    exact J20 (0 : Int32) H locs ls hP hD hS (lv_sub hl [] rfl) hok
  unfold fX4_kindOf at hok
  obtain ⟨H, hH⟩ : ∃ H, H = s.heap := ⟨_, rfl⟩
  obtain ⟨locs, hlc⟩ : ∃ x : List Loc, x = [] := ⟨_, rfl⟩
  have hP : va_P D vwCl (wX4_kindOf cy aH qH vH vH_kinds) H := by rw [hH]; exact hP
  have hS : va_S A s.heap H locs := by rw [hH, hlc]; exact hS
  rw [show W p l e _ s m _ below meth c s.heap [] = W p l e _ s m _ below meth c H locs from by rw [hH, hlc]]
  refine lv_iload_n hx hb dX4_kindOf_0 rfl (lv_at hl 1 rfl) ?_
  refine lv_if_lt (tgt := 19) hx hb dX4_kindOf_1 (by decide) (fun c1 => ?_) (fun c1 => ?_)
  · have hok := k_pos c1 hok
    exact J19  H locs ls hP hD hS (lv_sub hl [] rfl) hok
  · have hok := k_neg c1 hok
    refine lv_iload_n hx hb dX4_kindOf_4 rfl (lv_at hl 1 rfl) ?_
    refine lv_bipush (v := 7) hx hb dX4_kindOf_5 (by decide) ?_
    refine lv_icmp_ge (tgt := 19) hx hb dX4_kindOf_7 (by decide) (fun c7 => ?_) (fun c7 => ?_)
    · have hok := k_pos c7 hok
      exact J19  H locs ls hP hD hS (lv_sub hl [] rfl) hok
    · have hok := k_neg c7 hok
      refine lv_aload_n hx hb dX4_kindOf_10 rfl (lv_at hl 0 rfl) ?_
      refine va_get (D := D) (ci := 3) (v := .ref (qH 14)) (C := RX4) (T := TX4) (N := 20) hx hb ht0 niX4 hown hK hP 0 rfl rfl 14 (by decide) (ht0 _ wd70) (fun _ h9 => h9) rfl dX4_kindOf_11 ?_
      refine lv_iload_n hx hb dX4_kindOf_14 rfl (lv_at hl 1 rfl) ?_
      obtain ⟨g15, hok⟩ := gd_some hok
      refine va_iald hx hb hK hP 1 0 rfl rfl (okI_in g15) dX4_kindOf_15 ?_
      refine lv_goto (tgt := 20) hx hb dX4_kindOf_16 (by decide) ?_
      exact J20 (vH_kinds x1.toNatClampNeg) H locs ls hP hD hS (lv_sub hl [] rfl) hok
def wsX3_freeIn : List Cond := .code yX3_freeIn cX3_freeIn 6 (some .int) :: W0
abbrev wX3_freeIn (cy : Nat → ClassId) (aH : Nat) (aD : Nat) (qH : Nat → Nat) (qD : Nat → Nat) (vH : Nat → Int32) (vD : Nat → Int32) (vD_now : Nat → Int32) (vH_kinds : Nat → Int32) : va_W := [(aH, oX4 vH qH), (aD, oX1 vD qD), (qD 0, rI cy 9 vD_now), (qH 14, rI cy 7 vH_kinds)]
set_option maxHeartbeats 4000000 in
set_option maxRecDepth 100000 in
theorem kX3_freeIn (l : Launch) (D : va_G) (cy : Nat → ClassId) (sz : Nat) (aH : Nat) (aD : Nat) (qH : Nat → Nat) (qD : Nat → Nat) (vH : Nat → Int32) (vD : Nat → Int32) (vD_now : Nat → Int32) (vH_kinds : Nat → Int32) (x2 : Int32) (zr : Int32) (hok : fX3_freeIn vH vD vD_now vH_kinds x2 = some zr) (A : Nat → Prop) (hAe : va_A (wX3_freeIn cy aH aD qH qD vH vD vD_now vH_kinds) sz = A) : Met l yX3_freeIn wsX3_freeIn ({ frames := 1, cells := 0, slots := 0, locals := 21 } : Room) (kPre D cy [.ref aH, .ref aD, .int x2] (wX3_freeIn cy aH aD qH qD vH vD vD_now vH_kinds) sz) (kQi D cy zr A (wX3_freeIn cy aH aD qH qD vH vD vD_now vH_kinds)) 0 0 A := by
  refine Met.ofW (cc := cX3_freeIn) (maxL := 6) (ret := (some .int)) (by decide) rfl ?_
  intro p e s m args below meth c s₁ B hml hv
  obtain ⟨rfl, hsz, hP, hK, hD0, hN⟩ := hv
  have hx := B.exec
  have hb := B.bytes
  have hr := B.returns
  have ht0 : ∀ w ∈ W0, w.before _ s = true := fun w h => atoms_spec (ws := wsX3_freeIn) B.pre w (List.mem_cons_of_mem _ h)
  have hown : s.vm.findClass RX3 = some m.cls := findClass_of_methodNamed B.named
  have hlocks := B.notSynchronized
  subst hsz
  have hD : va_D A (wX3_freeIn cy aH aD qH qD vH vD vD_now vH_kinds) := by rw [← hAe]; exact hD0.self
  have hA : ∀ q : Nat, s.heap.size ≤ q → A q := fun q h => by rw [← hAe]; exact Or.inr h
  have hS : va_S A s.heap s.heap [] := va_S.rf
  have hl := lv_entry ([.ref aH, .ref aD, .int x2]) (n := 6) (Nat.le_of_ble_eq_true rfl)
  rw [lg_entry_eq]
  generalize (lg_sl ([.ref aH, .ref aD, .int x2]) ++ List.replicate (6 - (lg_sl ([.ref aH, .ref aD, .int x2])).length) Slot.unset).toArray = ls at hl ⊢
  have hl : lv_has ls 6 [(0, .ref aH), (1, .ref aD), (2, .int x2)] := hl
  generalize hQe : MQ below (kQi D cy zr A (wX3_freeIn cy aH aD qH qD vH vD vD_now vH_kinds)) ([.ref aH, .ref aD, .int x2] : List Value).toArray s 0 0 A = Q
  have L5 : ∀ (fuel : Nat) (y3_5 : Int32) (y4_5 : Int32), ∀ (H : Heap) (locs : List Loc) (ls : Array Slot), va_P D vwCl (wX3_freeIn cy aH aD qH qD vH vD vD_now vH_kinds) H → va_D A (wX3_freeIn cy aH aD qH qD vH vD vD_now vH_kinds) → va_S A s.heap H locs → lv_has ls 6 [(0, .ref aH), (1, .ref aD), (2, .int x2), (3, .int y3_5), (4, .int y4_5)] → lp (fX3_freeIn_B5 vH vD vD_now vH_kinds x2) fuel (y3_5, y4_5) = some zr → W p l e ({ frames := 1, cells := 0, slots := 0, locals := 21 } : Room) s m ([.ref aH, .ref aD, .int x2] : List Value).toArray below meth c H locs 0 0 Q (F0 m 5 ls []) := by
    intro fuel
    induction fuel with
    | zero => intro y3_5 y4_5 H locs ls hP hD hS hl hok; exact (lp_0 hok).elim
    | succ fuel ih5 =>
      intro y3_5 y4_5 H locs ls hP hD hS hl hok
      obtain ⟨y5, hok, hL5, hR5⟩ := lp_step hok
      have J68 : ∀ (y3_68 : Int32), ∀ (H : Heap) (locs : List Loc) (ls : Array Slot), va_P D vwCl (wX3_freeIn cy aH aD qH qD vH vD vD_now vH_kinds) H → va_D A (wX3_freeIn cy aH aD qH qD vH vD vD_now vH_kinds) → va_S A s.heap H locs → lv_has ls 6 [(0, .ref aH), (1, .ref aD), (2, .int x2), (3, .int y3_68), (4, .int y4_5)] → fX3_freeIn_J68 y4_5 y3_68 = some y5 → W p l e ({ frames := 1, cells := 0, slots := 0, locals := 21 } : Room) s m ([.ref aH, .ref aD, .int x2] : List Value).toArray below meth c H locs 0 0 Q (F0 m 68 ls []) := by
        intro y3_68 H locs ls hP hD hS hl hok
        unfold fX3_freeIn_J68 at hok
        refine lv_iinc (v := (y4_5 + 1)) (lv' := [(4, .int (y4_5 + 1)), (0, .ref aH), (1, .ref aD), (2, .int x2), (3, .int y3_68)]) hx hb dX3_freeIn_68 hl (k := 4) rfl (by first | rfl | decide) (by decide) rfl (fun ls hl => ?_)
        refine lv_goto (tgt := 5) hx hb dX3_freeIn_71 (by decide) ?_
        exact ih5 y3_68 (y4_5 + 1) H locs ls hP hD hS (lv_sub hl [1, 2, 3, 4, 0] rfl) (hR5 _ (Option.some.inj hok).symm)
      have J35 : ∀ (t0_35 : Int32), ∀ (H : Heap) (locs : List Loc) (ls : Array Slot), va_P D vwCl (wX3_freeIn cy aH aD qH qD vH vD vD_now vH_kinds) H → va_D A (wX3_freeIn cy aH aD qH qD vH vD vD_now vH_kinds) → va_S A s.heap H locs → lv_has ls 6 [(0, .ref aH), (1, .ref aD), (2, .int x2), (3, .int y3_5), (4, .int y4_5)] → fX3_freeIn_J35 vH vD vD_now vH_kinds y3_5 y4_5 t0_35 = some y5 → W p l e ({ frames := 1, cells := 0, slots := 0, locals := 21 } : Room) s m ([.ref aH, .ref aD, .int x2] : List Value).toArray below meth c H locs 0 0 Q (F0 m 35 ls [.int t0_35]) := by
        intro t0_35 H locs ls hP hD hS hl hok
        unfold fX3_freeIn_J35 at hok
        refine lv_istore (lv' := [(5, .int t0_35), (0, .ref aH), (1, .ref aD), (2, .int x2), (3, .int y3_5), (4, .int y4_5)]) hx hb dX3_freeIn_35 hl (by decide) rfl (fun ls hl => ?_)
        refine lv_iload hx hb dX3_freeIn_37 (lv_at hl 0 rfl) ?_
        refine lv_if_eq (tgt := 68) hx hb dX3_freeIn_39 (by decide) (fun c39 => ?_) (fun c39 => ?_)
        · have hok := k_pos c39 hok
          exact J68 y3_5 H locs ls hP hD hS (lv_sub hl [1, 2, 3, 4, 5] rfl) hok
        · have hok := k_neg c39 hok
          refine lv_aload_n hx hb dX3_freeIn_42 rfl (lv_at hl 2 rfl) ?_
          refine lv_iload hx hb dX3_freeIn_43 (lv_at hl 5 rfl) ?_
          obtain ⟨r45, hc45, hok⟩ := k_bind hok
          refine kCi (wc := (wX1_isHeld cy aD qD vD vD_now)) (wc2 := (wX1_isHeld cy aD qD vD vD_now)) (wr := [(aH, oX4 vH qH), (qH 14, rI cy 7 vH_kinds)]) (ws2 := (wX3_freeIn cy aH aD qH qD vH vD vD_now vH_kinds)) (kRunV (As := [.int y4_5]) (rest := []) ⟨hx, hb, hml, hown, ht0⟩ (kX1_isHeld l D cy _ aD qD vD vD_now y4_5 r45 hc45 _ rfl) (cwV 1 ht0 (gV wd71 wd72 wd73 wd74 wd75) rfl rfl rfl (by decide +kernel) ⟨Nat.le_of_ble_eq_true rfl, Nat.le_of_ble_eq_true rfl⟩) hK hN hP hD [1, 2] rfl (by decide) 1 1 rfl rfl rfl hl.1 rfl (Nat.le_of_ble_eq_true rfl) dX3_freeIn_45 ⟨Nat.zero_le _, Nat.zero_le _⟩) hP hD hS hA [1, 2] [0, 3] rfl rfl (by decide) (by decide) [0, 2, 3, 1] (by decide) rfl rfl (fun H locs hP hD hS => ?_)
          refine lv_if_ne (tgt := 68) hx hb dX3_freeIn_48 (by decide) (fun c48 => ?_) (fun c48 => ?_)
          · have hok := k_neg c48 hok
            exact J68 y3_5 H locs ls hP hD hS (lv_sub hl [1, 2, 3, 4, 5] rfl) hok
          · have hok := k_pos c48 hok
            refine lv_aload_n hx hb dX3_freeIn_51 rfl (lv_at hl 1 rfl) ?_
            refine lv_iload hx hb dX3_freeIn_52 (lv_at hl 5 rfl) ?_
            obtain ⟨r54, hc54, hok⟩ := k_bind hok
            refine kCi (wc := (wX4_kindOf cy aH qH vH vH_kinds)) (wc2 := (wX4_kindOf cy aH qH vH vH_kinds)) (wr := [(aD, oX1 vD qD), (qD 0, rI cy 9 vD_now)]) (ws2 := (wX3_freeIn cy aH aD qH qD vH vD vD_now vH_kinds)) (kRunV (As := [.int y4_5]) (rest := []) ⟨hx, hb, hml, hown, ht0⟩ (kX4_kindOf l D cy _ aH qH vH vH_kinds y4_5 r54 hc54 _ rfl) (cwV 1 ht0 (gV wd76 wd77 wd78 wd9 wd79) rfl rfl rfl (by decide +kernel) ⟨Nat.le_of_ble_eq_true rfl, Nat.le_of_ble_eq_true rfl⟩) hK hN hP hD [0, 3] rfl (by decide) 0 3 rfl rfl rfl hl.1 rfl (Nat.le_of_ble_eq_true rfl) dX3_freeIn_54 ⟨Nat.zero_le _, Nat.zero_le _⟩) hP hD hS hA [0, 3] [1, 2] rfl rfl (by decide) (by decide) [2, 0, 1, 3] (by decide) rfl rfl (fun H locs hP hD hS => ?_)
            refine lv_iconst (v := 2) hx hb dX3_freeIn_57 (by decide) ?_
            refine lv_icmp_eq (tgt := 68) hx hb dX3_freeIn_58 (by decide) (fun c58 => ?_) (fun c58 => ?_)
            · have hok := k_pos c58 hok
              exact J68 y3_5 H locs ls hP hD hS (lv_sub hl [1, 2, 3, 4, 5] rfl) hok
            · have hok := k_neg c58 hok
              refine lv_iload_n hx hb dX3_freeIn_61 rfl (lv_at hl 4 rfl) ?_
              refine lv_iconst (v := 1) hx hb dX3_freeIn_62 (by decide) ?_
              refine lv_iload hx hb dX3_freeIn_63 (lv_at hl 5 rfl) ?_
              refine lv_ishl hx hb dX3_freeIn_65 ?_
              refine lv_ior hx hb dX3_freeIn_66 ?_
              refine lv_istore_n (lv' := [(3, .int (y3_5 ||| (isl (1 : Int32) y4_5))), (5, .int t0_35), (0, .ref aH), (1, .ref aD), (2, .int x2), (4, .int y4_5)]) hx hb dX3_freeIn_67 rfl hl (by decide) rfl (fun ls hl => ?_)
              exact J68 (y3_5 ||| (isl (1 : Int32) y4_5)) H locs ls hP hD hS (lv_sub hl [2, 3, 4, 0, 5] rfl) hok
      unfold fX3_freeIn_B5 at hok
      try dsimp only at hok
      refine lv_iload hx hb dX3_freeIn_5 (lv_at hl 4 rfl) ?_
      refine lv_aload_n hx hb dX3_freeIn_7 rfl (lv_at hl 0 rfl) ?_
      refine va_get (D := D) (ci := 3) (v := .int (vH 5)) (C := RX4) (T := TX4) (N := 20) hx hb ht0 niX4 hown hK hP 0 rfl rfl 5 (by decide) (ht0 _ wd80) (fun _ h9 => h9) rfl dX3_freeIn_8 ?_
      refine lv_icmp_ge (tgt := 74) hx hb dX3_freeIn_11 (by decide) (fun c11 => ?_) (fun c11 => ?_)
      · have hok := k_pos c11 hok
        obtain ⟨e5, hok, he5⟩ := ex_some hok
        have hok := hok.trans (congrArg some (hL5 _ he5))
        refine lv_iload_n hx hb dX3_freeIn_74 rfl (lv_at hl 3 rfl) ?_
        cases hok
        subst hQe; exact W.iret hx hb hr (fun t ht hW => ⟨⟨_, (), rfl, rfl, by rw [ht]; exact hP, va_K.moved hW.alike hK, hD⟩, hS.F ht⟩) hS.2.2 dX3_freeIn_75
      · have hok := k_neg c11 hok
        refine lv_iload_n hx hb dX3_freeIn_14 rfl (lv_at hl 2 rfl) ?_
        refine lv_aload_n hx hb dX3_freeIn_15 rfl (lv_at hl 1 rfl) ?_
        refine lv_iload hx hb dX3_freeIn_16 (lv_at hl 4 rfl) ?_
        obtain ⟨r18, hc18, hok⟩ := k_bind hok
        refine kCi (wc := (wX1_cellOf cy aD qD vD vD_now)) (wc2 := (wX1_cellOf cy aD qD vD vD_now)) (wr := [(aH, oX4 vH qH), (qH 14, rI cy 7 vH_kinds)]) (ws2 := (wX3_freeIn cy aH aD qH qD vH vD vD_now vH_kinds)) (kRunV (As := [.int y4_5]) (rest := [.int x2]) ⟨hx, hb, hml, hown, ht0⟩ (kX1_cellOf l D cy _ aD qD vD vD_now y4_5 r18 hc18 _ rfl) (cwV 1 ht0 (gV wd81 wd82 wd83 wd74 wd84) rfl rfl rfl (by decide +kernel) ⟨Nat.le_of_ble_eq_true rfl, Nat.le_of_ble_eq_true rfl⟩) hK hN hP hD [1, 2] rfl (by decide) 1 1 rfl rfl rfl hl.1 rfl (Nat.le_of_ble_eq_true rfl) dX3_freeIn_18 ⟨Nat.zero_le _, Nat.zero_le _⟩) hP hD hS hA [1, 2] [0, 3] rfl rfl (by decide) (by decide) [0, 2, 3, 1] (by decide) rfl rfl (fun H locs hP hD hS => ?_)
        obtain ⟨r21, hc21, hok⟩ := k_bind hok
        refine kCi (wc := (wX8_ringOfCell cy )) (wc2 := (wX8_ringOfCell cy )) (wr := [(aH, oX4 vH qH), (aD, oX1 vD qD), (qD 0, rI cy 9 vD_now), (qH 14, rI cy 7 vH_kinds)]) (ws2 := (wX3_freeIn cy aH aD qH qD vH vD vD_now vH_kinds)) (kRunSN (As := [.int r18]) (rest := [.int x2]) ⟨hx, hb, hml, hown, ht0⟩ (kX8_ringOfCell l D cy _ r18 r21 hc21 _ rfl) ⟨va_cnB 1 ht0 (gN wd56) rfl rfl rfl (hN _ (List.mem_of_getElem? (i := 2) rfl)) (ht0 _ wd57) (by decide +kernel) ⟨Nat.le_of_ble_eq_true rfl, Nat.le_of_ble_eq_true rfl⟩, ht0 _ wd58, trivial⟩ hK hN hP hD [] rfl (by decide) rfl hl.1 rfl (Nat.le_of_ble_eq_true rfl) dX3_freeIn_21 ⟨Nat.zero_le _, Nat.zero_le _⟩) hP hD hS hA [] [0, 1, 2, 3] rfl rfl (by decide) (by decide) [0, 1, 2, 3] (by decide) rfl rfl (fun H locs hP hD hS => ?_)
        refine lv_ishr hx hb dX3_freeIn_24 ?_
        refine lv_iconst (v := 1) hx hb dX3_freeIn_25 (by decide) ?_
        refine lv_iand hx hb dX3_freeIn_26 ?_
        refine lv_if_eq (tgt := 34) hx hb dX3_freeIn_27 (by decide) (fun c27 => ?_) (fun c27 => ?_)
        · have hok := k_pos c27 hok
          refine lv_iconst (v := 0) hx hb dX3_freeIn_34 (by decide) ?_
          exact J35 (0 : Int32) H locs ls hP hD hS (lv_sub hl [0, 1, 2, 3, 4] rfl) hok
        · have hok := k_neg c27 hok
          refine lv_iconst (v := 1) hx hb dX3_freeIn_30 (by decide) ?_
          refine lv_goto (tgt := 35) hx hb dX3_freeIn_31 (by decide) ?_
          exact J35 (1 : Int32) H locs ls hP hD hS (lv_sub hl [0, 1, 2, 3, 4] rfl) hok
  unfold fX3_freeIn at hok
  obtain ⟨H, hH⟩ : ∃ H, H = s.heap := ⟨_, rfl⟩
  obtain ⟨locs, hlc⟩ : ∃ x : List Loc, x = [] := ⟨_, rfl⟩
  have hP : va_P D vwCl (wX3_freeIn cy aH aD qH qD vH vD vD_now vH_kinds) H := by rw [hH]; exact hP
  have hS : va_S A s.heap H locs := by rw [hH, hlc]; exact hS
  rw [show W p l e _ s m _ below meth c s.heap [] = W p l e _ s m _ below meth c H locs from by rw [hH, hlc]]
  refine lv_iconst (v := 0) hx hb dX3_freeIn_0 (by decide) ?_
  refine lv_istore_n (lv' := [(3, .int 0), (0, .ref aH), (1, .ref aD), (2, .int x2)]) hx hb dX3_freeIn_1 rfl hl (by decide) rfl (fun ls hl => ?_)
  refine lv_iconst (v := 0) hx hb dX3_freeIn_2 (by decide) ?_
  refine lv_istore (lv' := [(4, .int 0), (3, .int 0), (0, .ref aH), (1, .ref aD), (2, .int x2)]) hx hb dX3_freeIn_3 hl (by decide) rfl (fun ls hl => ?_)
  exact L5 5000 (0 : Int32) (0 : Int32) H locs ls hP hD hS (lv_sub hl [2, 3, 4, 1, 0] rfl) hok
def wsJ6_bitCount_0f7a4 : List Cond := .code yJ6_bitCount_0f7a4 cJ6_bitCount_0f7a4 1 (some .int) :: W0
abbrev wJ6_bitCount_0f7a4 (cy : Nat → ClassId)  : va_W := []
set_option maxHeartbeats 4000000 in
set_option maxRecDepth 100000 in
theorem kJ6_bitCount_0f7a4 (l : Launch) (D : va_G) (cy : Nat → ClassId) (sz : Nat) (x0 : Int32) (zr : Int32) (hok : fJ6_bitCount_0f7a4 x0 = some zr) (A : Nat → Prop) (hAe : va_A (wJ6_bitCount_0f7a4 cy ) sz = A) : Met l yJ6_bitCount_0f7a4 wsJ6_bitCount_0f7a4 ({ frames := 0, cells := 0, slots := 0, locals := 0 } : Room) (kPre D cy [.int x0] (wJ6_bitCount_0f7a4 cy ) sz) (kQi D cy zr A (wJ6_bitCount_0f7a4 cy )) 0 0 A := by
  refine Met.ofW (cc := cJ6_bitCount_0f7a4) (maxL := 1) (ret := (some .int)) (by decide) rfl ?_
  intro p e s m args below meth c s₁ B hml hv
  obtain ⟨rfl, hsz, hP, hK, hD0, hN⟩ := hv
  have hx := B.exec
  have hb := B.bytes
  have hr := B.returns
  have ht0 : ∀ w ∈ W0, w.before _ s = true := fun w h => atoms_spec (ws := wsJ6_bitCount_0f7a4) B.pre w (List.mem_cons_of_mem _ h)
  have hown : s.vm.findClass RJ6 = some m.cls := findClass_of_methodNamed B.named
  have hlocks := B.notSynchronized
  subst hsz
  have hD : va_D A (wJ6_bitCount_0f7a4 cy ) := by rw [← hAe]; exact hD0.self
  have hA : ∀ q : Nat, s.heap.size ≤ q → A q := fun q h => by rw [← hAe]; exact Or.inr h
  have hS : va_S A s.heap s.heap [] := va_S.rf
  have hl := lv_entry ([.int x0]) (n := 1) (Nat.le_of_ble_eq_true rfl)
  rw [lg_entry_eq]
  generalize (lg_sl ([.int x0]) ++ List.replicate (1 - (lg_sl ([.int x0])).length) Slot.unset).toArray = ls at hl ⊢
  have hl : lv_has ls 1 [(0, .int x0)] := hl
  unfold fJ6_bitCount_0f7a4 at hok
  obtain ⟨H, hH⟩ : ∃ H, H = s.heap := ⟨_, rfl⟩
  obtain ⟨locs, hlc⟩ : ∃ x : List Loc, x = [] := ⟨_, rfl⟩
  have hP : va_P D vwCl (wJ6_bitCount_0f7a4 cy ) H := by rw [hH]; exact hP
  have hS : va_S A s.heap H locs := by rw [hH, hlc]; exact hS
  rw [show W p l e _ s m _ below meth c s.heap [] = W p l e _ s m _ below meth c H locs from by rw [hH, hlc]]
  refine lv_iload_n hx hb dJ6_bitCount_0f7a4_0 rfl (lv_at hl 0 rfl) ?_
  refine lv_iload_n hx hb dJ6_bitCount_0f7a4_1 rfl (lv_at hl 0 rfl) ?_
  refine lv_iconst (v := 1) hx hb dJ6_bitCount_0f7a4_2 (by decide) ?_
  refine lv_iushr (v := (ius x0 (1 : Int32))) hx hb dJ6_bitCount_0f7a4_3 rfl ?_
  refine lv_ldcw (v := 1431655765) hx hb hown (ht0 _ wd85) dJ6_bitCount_0f7a4_4 ?_
  refine lv_iand hx hb dJ6_bitCount_0f7a4_7 ?_
  refine lv_isub hx hb dJ6_bitCount_0f7a4_8 ?_
  refine lv_istore_n (lv' := [(0, .int (x0 - ((ius x0 (1 : Int32)) &&& (1431655765 : Int32))))]) hx hb dJ6_bitCount_0f7a4_9 rfl hl (by decide) rfl (fun ls hl => ?_)
  refine lv_iload_n hx hb dJ6_bitCount_0f7a4_10 rfl (lv_at hl 0 rfl) ?_
  refine lv_ldcw (v := 858993459) hx hb hown (ht0 _ wd86) dJ6_bitCount_0f7a4_11 ?_
  refine lv_iand hx hb dJ6_bitCount_0f7a4_14 ?_
  refine lv_iload_n hx hb dJ6_bitCount_0f7a4_15 rfl (lv_at hl 0 rfl) ?_
  refine lv_iconst (v := 2) hx hb dJ6_bitCount_0f7a4_16 (by decide) ?_
  refine lv_iushr (v := (ius (x0 - ((ius x0 (1 : Int32)) &&& (1431655765 : Int32))) (2 : Int32))) hx hb dJ6_bitCount_0f7a4_17 rfl ?_
  refine lv_ldcw (v := 858993459) hx hb hown (ht0 _ wd86) dJ6_bitCount_0f7a4_18 ?_
  refine lv_iand hx hb dJ6_bitCount_0f7a4_21 ?_
  refine lv_iadd hx hb dJ6_bitCount_0f7a4_22 ?_
  refine lv_istore_n (lv' := [(0, .int (((x0 - ((ius x0 (1 : Int32)) &&& (1431655765 : Int32))) &&& (858993459 : Int32)) + ((ius (x0 - ((ius x0 (1 : Int32)) &&& (1431655765 : Int32))) (2 : Int32)) &&& (858993459 : Int32))))]) hx hb dJ6_bitCount_0f7a4_23 rfl hl (by decide) rfl (fun ls hl => ?_)
  refine lv_iload_n hx hb dJ6_bitCount_0f7a4_24 rfl (lv_at hl 0 rfl) ?_
  refine lv_iload_n hx hb dJ6_bitCount_0f7a4_25 rfl (lv_at hl 0 rfl) ?_
  refine lv_iconst (v := 4) hx hb dJ6_bitCount_0f7a4_26 (by decide) ?_
  refine lv_iushr (v := (ius (((x0 - ((ius x0 (1 : Int32)) &&& (1431655765 : Int32))) &&& (858993459 : Int32)) + ((ius (x0 - ((ius x0 (1 : Int32)) &&& (1431655765 : Int32))) (2 : Int32)) &&& (858993459 : Int32))) (4 : Int32))) hx hb dJ6_bitCount_0f7a4_27 rfl ?_
  refine lv_iadd hx hb dJ6_bitCount_0f7a4_28 ?_
  refine lv_ldcw (v := 252645135) hx hb hown (ht0 _ wd87) dJ6_bitCount_0f7a4_29 ?_
  refine lv_iand hx hb dJ6_bitCount_0f7a4_32 ?_
  refine lv_istore_n (lv' := [(0, .int (((((x0 - ((ius x0 (1 : Int32)) &&& (1431655765 : Int32))) &&& (858993459 : Int32)) + ((ius (x0 - ((ius x0 (1 : Int32)) &&& (1431655765 : Int32))) (2 : Int32)) &&& (858993459 : Int32))) + (ius (((x0 - ((ius x0 (1 : Int32)) &&& (1431655765 : Int32))) &&& (858993459 : Int32)) + ((ius (x0 - ((ius x0 (1 : Int32)) &&& (1431655765 : Int32))) (2 : Int32)) &&& (858993459 : Int32))) (4 : Int32))) &&& (252645135 : Int32)))]) hx hb dJ6_bitCount_0f7a4_33 rfl hl (by decide) rfl (fun ls hl => ?_)
  refine lv_iload_n hx hb dJ6_bitCount_0f7a4_34 rfl (lv_at hl 0 rfl) ?_
  refine lv_iload_n hx hb dJ6_bitCount_0f7a4_35 rfl (lv_at hl 0 rfl) ?_
  refine lv_bipush (v := 8) hx hb dJ6_bitCount_0f7a4_36 (by decide) ?_
  refine lv_iushr (v := (ius (((((x0 - ((ius x0 (1 : Int32)) &&& (1431655765 : Int32))) &&& (858993459 : Int32)) + ((ius (x0 - ((ius x0 (1 : Int32)) &&& (1431655765 : Int32))) (2 : Int32)) &&& (858993459 : Int32))) + (ius (((x0 - ((ius x0 (1 : Int32)) &&& (1431655765 : Int32))) &&& (858993459 : Int32)) + ((ius (x0 - ((ius x0 (1 : Int32)) &&& (1431655765 : Int32))) (2 : Int32)) &&& (858993459 : Int32))) (4 : Int32))) &&& (252645135 : Int32)) (8 : Int32))) hx hb dJ6_bitCount_0f7a4_38 rfl ?_
  refine lv_iadd hx hb dJ6_bitCount_0f7a4_39 ?_
  refine lv_istore_n (lv' := [(0, .int ((((((x0 - ((ius x0 (1 : Int32)) &&& (1431655765 : Int32))) &&& (858993459 : Int32)) + ((ius (x0 - ((ius x0 (1 : Int32)) &&& (1431655765 : Int32))) (2 : Int32)) &&& (858993459 : Int32))) + (ius (((x0 - ((ius x0 (1 : Int32)) &&& (1431655765 : Int32))) &&& (858993459 : Int32)) + ((ius (x0 - ((ius x0 (1 : Int32)) &&& (1431655765 : Int32))) (2 : Int32)) &&& (858993459 : Int32))) (4 : Int32))) &&& (252645135 : Int32)) + (ius (((((x0 - ((ius x0 (1 : Int32)) &&& (1431655765 : Int32))) &&& (858993459 : Int32)) + ((ius (x0 - ((ius x0 (1 : Int32)) &&& (1431655765 : Int32))) (2 : Int32)) &&& (858993459 : Int32))) + (ius (((x0 - ((ius x0 (1 : Int32)) &&& (1431655765 : Int32))) &&& (858993459 : Int32)) + ((ius (x0 - ((ius x0 (1 : Int32)) &&& (1431655765 : Int32))) (2 : Int32)) &&& (858993459 : Int32))) (4 : Int32))) &&& (252645135 : Int32)) (8 : Int32))))]) hx hb dJ6_bitCount_0f7a4_40 rfl hl (by decide) rfl (fun ls hl => ?_)
  refine lv_iload_n hx hb dJ6_bitCount_0f7a4_41 rfl (lv_at hl 0 rfl) ?_
  refine lv_iload_n hx hb dJ6_bitCount_0f7a4_42 rfl (lv_at hl 0 rfl) ?_
  refine lv_bipush (v := 16) hx hb dJ6_bitCount_0f7a4_43 (by decide) ?_
  refine lv_iushr (v := (ius ((((((x0 - ((ius x0 (1 : Int32)) &&& (1431655765 : Int32))) &&& (858993459 : Int32)) + ((ius (x0 - ((ius x0 (1 : Int32)) &&& (1431655765 : Int32))) (2 : Int32)) &&& (858993459 : Int32))) + (ius (((x0 - ((ius x0 (1 : Int32)) &&& (1431655765 : Int32))) &&& (858993459 : Int32)) + ((ius (x0 - ((ius x0 (1 : Int32)) &&& (1431655765 : Int32))) (2 : Int32)) &&& (858993459 : Int32))) (4 : Int32))) &&& (252645135 : Int32)) + (ius (((((x0 - ((ius x0 (1 : Int32)) &&& (1431655765 : Int32))) &&& (858993459 : Int32)) + ((ius (x0 - ((ius x0 (1 : Int32)) &&& (1431655765 : Int32))) (2 : Int32)) &&& (858993459 : Int32))) + (ius (((x0 - ((ius x0 (1 : Int32)) &&& (1431655765 : Int32))) &&& (858993459 : Int32)) + ((ius (x0 - ((ius x0 (1 : Int32)) &&& (1431655765 : Int32))) (2 : Int32)) &&& (858993459 : Int32))) (4 : Int32))) &&& (252645135 : Int32)) (8 : Int32))) (16 : Int32))) hx hb dJ6_bitCount_0f7a4_45 rfl ?_
  refine lv_iadd hx hb dJ6_bitCount_0f7a4_46 ?_
  refine lv_istore_n (lv' := [(0, .int (((((((x0 - ((ius x0 (1 : Int32)) &&& (1431655765 : Int32))) &&& (858993459 : Int32)) + ((ius (x0 - ((ius x0 (1 : Int32)) &&& (1431655765 : Int32))) (2 : Int32)) &&& (858993459 : Int32))) + (ius (((x0 - ((ius x0 (1 : Int32)) &&& (1431655765 : Int32))) &&& (858993459 : Int32)) + ((ius (x0 - ((ius x0 (1 : Int32)) &&& (1431655765 : Int32))) (2 : Int32)) &&& (858993459 : Int32))) (4 : Int32))) &&& (252645135 : Int32)) + (ius (((((x0 - ((ius x0 (1 : Int32)) &&& (1431655765 : Int32))) &&& (858993459 : Int32)) + ((ius (x0 - ((ius x0 (1 : Int32)) &&& (1431655765 : Int32))) (2 : Int32)) &&& (858993459 : Int32))) + (ius (((x0 - ((ius x0 (1 : Int32)) &&& (1431655765 : Int32))) &&& (858993459 : Int32)) + ((ius (x0 - ((ius x0 (1 : Int32)) &&& (1431655765 : Int32))) (2 : Int32)) &&& (858993459 : Int32))) (4 : Int32))) &&& (252645135 : Int32)) (8 : Int32))) + (ius ((((((x0 - ((ius x0 (1 : Int32)) &&& (1431655765 : Int32))) &&& (858993459 : Int32)) + ((ius (x0 - ((ius x0 (1 : Int32)) &&& (1431655765 : Int32))) (2 : Int32)) &&& (858993459 : Int32))) + (ius (((x0 - ((ius x0 (1 : Int32)) &&& (1431655765 : Int32))) &&& (858993459 : Int32)) + ((ius (x0 - ((ius x0 (1 : Int32)) &&& (1431655765 : Int32))) (2 : Int32)) &&& (858993459 : Int32))) (4 : Int32))) &&& (252645135 : Int32)) + (ius (((((x0 - ((ius x0 (1 : Int32)) &&& (1431655765 : Int32))) &&& (858993459 : Int32)) + ((ius (x0 - ((ius x0 (1 : Int32)) &&& (1431655765 : Int32))) (2 : Int32)) &&& (858993459 : Int32))) + (ius (((x0 - ((ius x0 (1 : Int32)) &&& (1431655765 : Int32))) &&& (858993459 : Int32)) + ((ius (x0 - ((ius x0 (1 : Int32)) &&& (1431655765 : Int32))) (2 : Int32)) &&& (858993459 : Int32))) (4 : Int32))) &&& (252645135 : Int32)) (8 : Int32))) (16 : Int32))))]) hx hb dJ6_bitCount_0f7a4_47 rfl hl (by decide) rfl (fun ls hl => ?_)
  refine lv_iload_n hx hb dJ6_bitCount_0f7a4_48 rfl (lv_at hl 0 rfl) ?_
  refine lv_bipush (v := 63) hx hb dJ6_bitCount_0f7a4_49 (by decide) ?_
  refine lv_iand hx hb dJ6_bitCount_0f7a4_51 ?_
  cases hok
  exact W.iret hx hb hr (fun t ht hW => ⟨⟨_, (), rfl, rfl, by rw [ht]; exact hP, va_K.moved hW.alike hK, hD⟩, hS.F ht⟩) hS.2.2 dJ6_bitCount_0f7a4_52
def wsX3_isOfThese : List Cond := .code yX3_isOfThese cX3_isOfThese 3 (some .boolean) :: W0
abbrev wX3_isOfThese (cy : Nat → ClassId)  : va_W := []
set_option maxHeartbeats 4000000 in
set_option maxRecDepth 100000 in
theorem kX3_isOfThese (l : Launch) (D : va_G) (cy : Nat → ClassId) (sz : Nat) (x0 : Int32) (x1 : Int32) (x2 : Int32) (zr : Int32) (hok : fX3_isOfThese x0 x1 x2 = some zr) (A : Nat → Prop) (hAe : va_A (wX3_isOfThese cy ) sz = A) : Met l yX3_isOfThese wsX3_isOfThese ({ frames := 1, cells := 0, slots := 0, locals := 20 } : Room) (kPre D cy [.int x0, .int x1, .int x2] (wX3_isOfThese cy ) sz) (kQi D cy zr A (wX3_isOfThese cy )) 0 0 A := by
  refine Met.ofW (cc := cX3_isOfThese) (maxL := 3) (ret := (some .boolean)) (by decide) rfl ?_
  intro p e s m args below meth c s₁ B hml hv
  obtain ⟨rfl, hsz, hP, hK, hD0, hN⟩ := hv
  have hx := B.exec
  have hb := B.bytes
  have hr := B.returns
  have ht0 : ∀ w ∈ W0, w.before _ s = true := fun w h => atoms_spec (ws := wsX3_isOfThese) B.pre w (List.mem_cons_of_mem _ h)
  have hown : s.vm.findClass RX3 = some m.cls := findClass_of_methodNamed B.named
  have hlocks := B.notSynchronized
  subst hsz
  have hD : va_D A (wX3_isOfThese cy ) := by rw [← hAe]; exact hD0.self
  have hA : ∀ q : Nat, s.heap.size ≤ q → A q := fun q h => by rw [← hAe]; exact Or.inr h
  have hS : va_S A s.heap s.heap [] := va_S.rf
  have hl := lv_entry ([.int x0, .int x1, .int x2]) (n := 3) (Nat.le_of_ble_eq_true rfl)
  rw [lg_entry_eq]
  generalize (lg_sl ([.int x0, .int x1, .int x2]) ++ List.replicate (3 - (lg_sl ([.int x0, .int x1, .int x2])).length) Slot.unset).toArray = ls at hl ⊢
  have hl : lv_has ls 3 [(0, .int x0), (1, .int x1), (2, .int x2)] := hl
  generalize hQe : MQ below (kQi D cy zr A (wX3_isOfThese cy )) ([.int x0, .int x1, .int x2] : List Value).toArray s 0 0 A = Q
  have J21 : ∀ (t0_21 : Int32), ∀ (H : Heap) (locs : List Loc) (ls : Array Slot), va_P D vwCl (wX3_isOfThese cy ) H → va_D A (wX3_isOfThese cy ) → va_S A s.heap H locs → lv_has ls 3 [] → fX3_isOfThese_J21 t0_21 = some zr → W p l e ({ frames := 1, cells := 0, slots := 0, locals := 20 } : Room) s m ([.int x0, .int x1, .int x2] : List Value).toArray below meth c H locs 0 0 Q (F0 m 21 ls [.int t0_21]) := by
    intro t0_21 H locs ls hP hD hS hl hok
    unfold fX3_isOfThese_J21 at hok
    obtain ⟨g21, hok⟩ := gd_some hok
    cases hok
    subst hQe; exact W.zret hx hb hr (isB_nar g21) (fun t ht hW => ⟨⟨_, (), rfl, rfl, by rw [ht]; exact hP, va_K.moved hW.alike hK, hD⟩, hS.F ht⟩) hS.2.2 dX3_isOfThese_21
  have J20 : ∀ (H : Heap) (locs : List Loc) (ls : Array Slot), va_P D vwCl (wX3_isOfThese cy ) H → va_D A (wX3_isOfThese cy ) → va_S A s.heap H locs → lv_has ls 3 [] → fX3_isOfThese_J20 = some zr → W p l e ({ frames := 1, cells := 0, slots := 0, locals := 20 } : Room) s m ([.int x0, .int x1, .int x2] : List Value).toArray below meth c H locs 0 0 Q (F0 m 20 ls []) := by
    intro  H locs ls hP hD hS hl hok
    unfold fX3_isOfThese_J20 at hok
    refine lv_iconst (v := 0) hx hb dX3_isOfThese_20 (by decide) ?_
    exact J21 (0 : Int32) H locs ls hP hD hS (lv_sub hl [] rfl) hok
  unfold fX3_isOfThese at hok
  obtain ⟨H, hH⟩ : ∃ H, H = s.heap := ⟨_, rfl⟩
  obtain ⟨locs, hlc⟩ : ∃ x : List Loc, x = [] := ⟨_, rfl⟩
  have hP : va_P D vwCl (wX3_isOfThese cy ) H := by rw [hH]; exact hP
  have hS : va_S A s.heap H locs := by rw [hH, hlc]; exact hS
  rw [show W p l e _ s m _ below meth c s.heap [] = W p l e _ s m _ below meth c H locs from by rw [hH, hlc]]
  refine lv_iload_n hx hb dX3_isOfThese_0 rfl (lv_at hl 0 rfl) ?_
  refine lv_iload_n hx hb dX3_isOfThese_1 rfl (lv_at hl 2 rfl) ?_
  refine lv_iconst (v := -1) hx hb dX3_isOfThese_2 (by decide) ?_
  refine lv_ixor hx hb dX3_isOfThese_3 ?_
  refine lv_iand hx hb dX3_isOfThese_4 ?_
  refine lv_if_ne (tgt := 20) hx hb dX3_isOfThese_5 (by decide) (fun c5 => ?_) (fun c5 => ?_)
  · have hok := k_neg c5 hok
    exact J20  H locs ls hP hD hS (lv_sub hl [] rfl) hok
  · have hok := k_pos c5 hok
    refine lv_iload_n hx hb dX3_isOfThese_8 rfl (lv_at hl 0 rfl) ?_
    obtain ⟨r9, hc9, hok⟩ := k_bind hok
    refine kCi (wc := (wJ6_bitCount_0f7a4 cy )) (wc2 := (wJ6_bitCount_0f7a4 cy )) (wr := []) (ws2 := (wX3_isOfThese cy )) (kRunS (As := [.int x0]) (rest := []) ⟨hx, hb, hml, hown, ht0⟩ (kJ6_bitCount_0f7a4 l D cy _ x0 r9 hc9 _ rfl) (va_cwS 1 ht0 (gS wd88 wd89 wd90 wd91) rfl rfl rfl (by decide +kernel) ⟨Nat.le_of_ble_eq_true rfl, Nat.le_of_ble_eq_true rfl⟩) hK hN hP hD [] rfl (by decide) rfl hl.1 rfl (Nat.le_of_ble_eq_true rfl) dX3_isOfThese_9 ⟨Nat.zero_le _, Nat.zero_le _⟩) hP hD hS hA [] [] rfl rfl (by decide) (by decide) [] (by decide) rfl rfl (fun H locs hP hD hS => ?_)
    refine lv_iload_n hx hb dX3_isOfThese_12 rfl (lv_at hl 1 rfl) ?_
    refine lv_icmp_ne (tgt := 20) hx hb dX3_isOfThese_13 (by decide) (fun c13 => ?_) (fun c13 => ?_)
    · have hok := k_neg c13 hok
      exact J20  H locs ls hP hD hS (lv_sub hl [] rfl) hok
    · have hok := k_pos c13 hok
      refine lv_iconst (v := 1) hx hb dX3_isOfThese_16 (by decide) ?_
      refine lv_goto (tgt := 21) hx hb dX3_isOfThese_17 (by decide) ?_
      exact J21 (1 : Int32) H locs ls hP hD hS (lv_sub hl [] rfl) hok
def wsX6_seat : List Cond := .code yX6_seat cX6_seat 3 none :: W0
abbrev wX6_seat (cy : Nat → ClassId) (aW : Nat) (qW : Nat → Nat) (aH : Nat) (vW : Nat → Int32) (vW_who : Nat → Int32) : va_W := [(aW, oX6 vW qW aH), (qW 1, rI cy 36 vW_who)]
set_option maxHeartbeats 4000000 in
set_option maxRecDepth 100000 in
theorem kX6_seat (l : Launch) (D : va_G) (cy : Nat → ClassId) (sz : Nat) (aW : Nat) (qW : Nat → Nat) (aH : Nat) (vW : Nat → Int32) (vW_who : Nat → Int32) (x1 : Int32) (x2 : Int32) (z_vW_who : Nat → Int32) (hok : fX6_seat vW vW_who x1 x2 = some z_vW_who) (A : Nat → Prop) (hAe : va_A (wX6_seat cy aW qW aH vW vW_who) sz = A) : Met l yX6_seat wsX6_seat ({ frames := 0, cells := 0, slots := 0, locals := 0 } : Room) (kPre D cy [.ref aW, .int x1, .int x2] (wX6_seat cy aW qW aH vW vW_who) sz) (kQv D cy A (wX6_seat cy aW qW aH vW z_vW_who)) 0 0 A := by
  refine Met.ofW (cc := cX6_seat) (maxL := 3) (ret := none) (by decide) rfl ?_
  intro p e s m args below meth c s₁ B hml hv
  obtain ⟨rfl, hsz, hP, hK, hD0, hN⟩ := hv
  have hx := B.exec
  have hb := B.bytes
  have hr := B.returns
  have ht0 : ∀ w ∈ W0, w.before _ s = true := fun w h => atoms_spec (ws := wsX6_seat) B.pre w (List.mem_cons_of_mem _ h)
  have hown : s.vm.findClass RX6 = some m.cls := findClass_of_methodNamed B.named
  have hlocks := B.notSynchronized
  subst hsz
  have hD : va_D A (wX6_seat cy aW qW aH vW vW_who) := by rw [← hAe]; exact hD0.self
  have hA : ∀ q : Nat, s.heap.size ≤ q → A q := fun q h => by rw [← hAe]; exact Or.inr h
  have hS : va_S A s.heap s.heap [] := va_S.rf
  have hl := lv_entry ([.ref aW, .int x1, .int x2]) (n := 3) (Nat.le_of_ble_eq_true rfl)
  rw [lg_entry_eq]
  generalize (lg_sl ([.ref aW, .int x1, .int x2]) ++ List.replicate (3 - (lg_sl ([.ref aW, .int x1, .int x2])).length) Slot.unset).toArray = ls at hl ⊢
  have hl : lv_has ls 3 [(0, .ref aW), (1, .int x1), (2, .int x2)] := hl
  generalize hQe : MQ below (kQv D cy A (wX6_seat cy aW qW aH vW z_vW_who)) ([.ref aW, .int x1, .int x2] : List Value).toArray s 0 0 A = Q
  have J17 : ∀ (vW_who_17 : Nat → Int32), ∀ (H : Heap) (locs : List Loc) (ls : Array Slot), va_P D vwCl (wX6_seat cy aW qW aH vW vW_who_17) H → va_D A (wX6_seat cy aW qW aH vW vW_who_17) → va_S A s.heap H locs → lv_has ls 3 [] → fX6_seat_J17 vW_who_17 = some z_vW_who → W p l e ({ frames := 0, cells := 0, slots := 0, locals := 0 } : Room) s m ([.ref aW, .int x1, .int x2] : List Value).toArray below meth c H locs 0 0 Q (F0 m 17 ls []) := by
    intro vW_who_17 H locs ls hP hD hS hl hok
    unfold fX6_seat_J17 at hok
    cases hok
    subst hQe; exact W.vret hx hb hr (fun t ht hW => ⟨⟨(), rfl, trivial, by rw [ht]; exact hP, va_K.moved hW.alike hK, hD⟩, hS.F ht⟩) hS.2.2 dX6_seat_17
  unfold fX6_seat at hok
  obtain ⟨H, hH⟩ : ∃ H, H = s.heap := ⟨_, rfl⟩
  obtain ⟨locs, hlc⟩ : ∃ x : List Loc, x = [] := ⟨_, rfl⟩
  have hP : va_P D vwCl (wX6_seat cy aW qW aH vW vW_who) H := by rw [hH]; exact hP
  have hS : va_S A s.heap H locs := by rw [hH, hlc]; exact hS
  rw [show W p l e _ s m _ below meth c s.heap [] = W p l e _ s m _ below meth c H locs from by rw [hH, hlc]]
  refine lv_iload_n hx hb dX6_seat_0 rfl (lv_at hl 2 rfl) ?_
  refine lv_if_lt (tgt := 17) hx hb dX6_seat_1 (by decide) (fun c1 => ?_) (fun c1 => ?_)
  · have hok := k_pos c1 hok
    exact J17 vW_who H locs ls hP hD hS (lv_sub hl [] rfl) hok
  · have hok := k_neg c1 hok
    refine lv_iload_n hx hb dX6_seat_4 rfl (lv_at hl 2 rfl) ?_
    refine lv_bipush (v := 36) hx hb dX6_seat_5 (by decide) ?_
    refine lv_icmp_ge (tgt := 17) hx hb dX6_seat_7 (by decide) (fun c7 => ?_) (fun c7 => ?_)
    · have hok := k_pos c7 hok
      exact J17 vW_who H locs ls hP hD hS (lv_sub hl [] rfl) hok
    · have hok := k_neg c7 hok
      refine lv_aload_n hx hb dX6_seat_10 rfl (lv_at hl 0 rfl) ?_
      refine va_get (D := D) (ci := 5) (v := .ref (qW 1)) (C := RX6) (T := TX6) (N := 13) hx hb ht0 niX6 hown hK hP 0 rfl rfl 1 (by decide) (ht0 _ wd92) (fun _ h9 => h9) rfl dX6_seat_11 ?_
      refine lv_iload_n hx hb dX6_seat_14 rfl (lv_at hl 2 rfl) ?_
      refine lv_iload_n hx hb dX6_seat_15 rfl (lv_at hl 1 rfl) ?_
      obtain ⟨g16, hok⟩ := gd_some hok
      refine va_iast hx hb hK hP hD hS 1 0 rfl rfl (okI_in g16) dX6_seat_16 (fun H locs hP hD hS => ?_)
      have hP : va_P D vwCl (wX6_seat cy aW qW aH vW (upd vW_who x2.toNatClampNeg x1)) H := hP
      have hD : va_D A (wX6_seat cy aW qW aH vW (upd vW_who x2.toNatClampNeg x1)) := hD
      exact J17 (upd vW_who x2.toNatClampNeg x1) H locs ls hP hD hS (lv_sub hl [] rfl) hok
def wsX4_hasRing : List Cond := .code yX4_hasRing cX4_hasRing 2 (some .boolean) :: W0
abbrev wX4_hasRing (cy : Nat → ClassId) (aH : Nat) (qH : Nat → Nat) (vH : Nat → Int32) : va_W := [(aH, oX4 vH qH)]
set_option maxHeartbeats 4000000 in
set_option maxRecDepth 100000 in
theorem kX4_hasRing (l : Launch) (D : va_G) (cy : Nat → ClassId) (sz : Nat) (aH : Nat) (qH : Nat → Nat) (vH : Nat → Int32) (x1 : Int32) (zr : Int32) (hok : fX4_hasRing vH x1 = some zr) (A : Nat → Prop) (hAe : va_A (wX4_hasRing cy aH qH vH) sz = A) : Met l yX4_hasRing wsX4_hasRing ({ frames := 0, cells := 0, slots := 0, locals := 0 } : Room) (kPre D cy [.ref aH, .int x1] (wX4_hasRing cy aH qH vH) sz) (kQi D cy zr A (wX4_hasRing cy aH qH vH)) 0 0 A := by
  refine Met.ofW (cc := cX4_hasRing) (maxL := 2) (ret := (some .boolean)) (by decide) rfl ?_
  intro p e s m args below meth c s₁ B hml hv
  obtain ⟨rfl, hsz, hP, hK, hD0, hN⟩ := hv
  have hx := B.exec
  have hb := B.bytes
  have hr := B.returns
  have ht0 : ∀ w ∈ W0, w.before _ s = true := fun w h => atoms_spec (ws := wsX4_hasRing) B.pre w (List.mem_cons_of_mem _ h)
  have hown : s.vm.findClass RX4 = some m.cls := findClass_of_methodNamed B.named
  have hlocks := B.notSynchronized
  subst hsz
  have hD : va_D A (wX4_hasRing cy aH qH vH) := by rw [← hAe]; exact hD0.self
  have hA : ∀ q : Nat, s.heap.size ≤ q → A q := fun q h => by rw [← hAe]; exact Or.inr h
  have hS : va_S A s.heap s.heap [] := va_S.rf
  have hl := lv_entry ([.ref aH, .int x1]) (n := 2) (Nat.le_of_ble_eq_true rfl)
  rw [lg_entry_eq]
  generalize (lg_sl ([.ref aH, .int x1]) ++ List.replicate (2 - (lg_sl ([.ref aH, .int x1])).length) Slot.unset).toArray = ls at hl ⊢
  have hl : lv_has ls 2 [(0, .ref aH), (1, .int x1)] := hl
  generalize hQe : MQ below (kQi D cy zr A (wX4_hasRing cy aH qH vH)) ([.ref aH, .int x1] : List Value).toArray s 0 0 A = Q
  have J22 : ∀ (t0_22 : Int32), ∀ (H : Heap) (locs : List Loc) (ls : Array Slot), va_P D vwCl (wX4_hasRing cy aH qH vH) H → va_D A (wX4_hasRing cy aH qH vH) → va_S A s.heap H locs → lv_has ls 2 [] → fX4_hasRing_J22 t0_22 = some zr → W p l e ({ frames := 0, cells := 0, slots := 0, locals := 0 } : Room) s m ([.ref aH, .int x1] : List Value).toArray below meth c H locs 0 0 Q (F0 m 22 ls [.int t0_22]) := by
    intro t0_22 H locs ls hP hD hS hl hok
    unfold fX4_hasRing_J22 at hok
    obtain ⟨g22, hok⟩ := gd_some hok
    cases hok
    subst hQe; exact W.zret hx hb hr (isB_nar g22) (fun t ht hW => ⟨⟨_, (), rfl, rfl, by rw [ht]; exact hP, va_K.moved hW.alike hK, hD⟩, hS.F ht⟩) hS.2.2 dX4_hasRing_22
  have J21 : ∀ (H : Heap) (locs : List Loc) (ls : Array Slot), va_P D vwCl (wX4_hasRing cy aH qH vH) H → va_D A (wX4_hasRing cy aH qH vH) → va_S A s.heap H locs → lv_has ls 2 [] → fX4_hasRing_J21 = some zr → W p l e ({ frames := 0, cells := 0, slots := 0, locals := 0 } : Room) s m ([.ref aH, .int x1] : List Value).toArray below meth c H locs 0 0 Q (F0 m 21 ls []) := by
    intro  H locs ls hP hD hS hl hok
    unfold fX4_hasRing_J21 at hok
    refine lv_iconst (v := 0) hx hb dX4_hasRing_21 (by decide) ?_
    exact J22 (0 : Int32) H locs ls hP hD hS (lv_sub hl [] rfl) hok
  unfold fX4_hasRing at hok
  obtain ⟨H, hH⟩ : ∃ H, H = s.heap := ⟨_, rfl⟩
  obtain ⟨locs, hlc⟩ : ∃ x : List Loc, x = [] := ⟨_, rfl⟩
  have hP : va_P D vwCl (wX4_hasRing cy aH qH vH) H := by rw [hH]; exact hP
  have hS : va_S A s.heap H locs := by rw [hH, hlc]; exact hS
  rw [show W p l e _ s m _ below meth c s.heap [] = W p l e _ s m _ below meth c H locs from by rw [hH, hlc]]
  refine lv_iload_n hx hb dX4_hasRing_0 rfl (lv_at hl 1 rfl) ?_
  refine lv_if_lt (tgt := 21) hx hb dX4_hasRing_1 (by decide) (fun c1 => ?_) (fun c1 => ?_)
  · have hok := k_pos c1 hok
    exact J21  H locs ls hP hD hS (lv_sub hl [] rfl) hok
  · have hok := k_neg c1 hok
    refine lv_iload_n hx hb dX4_hasRing_4 rfl (lv_at hl 1 rfl) ?_
    refine lv_aload_n hx hb dX4_hasRing_5 rfl (lv_at hl 0 rfl) ?_
    refine va_get (D := D) (ci := 3) (v := .int (vH 2)) (C := RX4) (T := TX4) (N := 20) hx hb ht0 niX4 hown hK hP 0 rfl rfl 2 (by decide) (ht0 _ wd93) (fun _ h9 => h9) rfl dX4_hasRing_6 ?_
    refine lv_icmp_ge (tgt := 21) hx hb dX4_hasRing_9 (by decide) (fun c9 => ?_) (fun c9 => ?_)
    · have hok := k_pos c9 hok
      exact J21  H locs ls hP hD hS (lv_sub hl [] rfl) hok
    · have hok := k_neg c9 hok
      refine lv_iload_n hx hb dX4_hasRing_12 rfl (lv_at hl 1 rfl) ?_
      refine lv_iconst (v := 4) hx hb dX4_hasRing_13 (by decide) ?_
      refine lv_icmp_ge (tgt := 21) hx hb dX4_hasRing_14 (by decide) (fun c14 => ?_) (fun c14 => ?_)
      · have hok := k_pos c14 hok
        exact J21  H locs ls hP hD hS (lv_sub hl [] rfl) hok
      · have hok := k_neg c14 hok
        refine lv_iconst (v := 1) hx hb dX4_hasRing_17 (by decide) ?_
        refine lv_goto (tgt := 22) hx hb dX4_hasRing_18 (by decide) ?_
        exact J22 (1 : Int32) H locs ls hP hD hS (lv_sub hl [] rfl) hok
def wsX4_sortOf : List Cond := .code yX4_sortOf cX4_sortOf 2 (some .int) :: W0
abbrev wX4_sortOf (cy : Nat → ClassId) (aH : Nat) (qH : Nat → Nat) (vH : Nat → Int32) (vH_sorts : Nat → Int32) : va_W := [(aH, oX4 vH qH), (qH 8, rI cy 4 vH_sorts)]
set_option maxHeartbeats 4000000 in
set_option maxRecDepth 100000 in
theorem kX4_sortOf (l : Launch) (D : va_G) (cy : Nat → ClassId) (sz : Nat) (aH : Nat) (qH : Nat → Nat) (vH : Nat → Int32) (vH_sorts : Nat → Int32) (x1 : Int32) (zr : Int32) (hok : fX4_sortOf vH vH_sorts x1 = some zr) (A : Nat → Prop) (hAe : va_A (wX4_sortOf cy aH qH vH vH_sorts) sz = A) : Met l yX4_sortOf wsX4_sortOf ({ frames := 1, cells := 0, slots := 0, locals := 21 } : Room) (kPre D cy [.ref aH, .int x1] (wX4_sortOf cy aH qH vH vH_sorts) sz) (kQi D cy zr A (wX4_sortOf cy aH qH vH vH_sorts)) 0 0 A := by
  refine Met.ofW (cc := cX4_sortOf) (maxL := 2) (ret := (some .int)) (by decide) rfl ?_
  intro p e s m args below meth c s₁ B hml hv
  obtain ⟨rfl, hsz, hP, hK, hD0, hN⟩ := hv
  have hx := B.exec
  have hb := B.bytes
  have hr := B.returns
  have ht0 : ∀ w ∈ W0, w.before _ s = true := fun w h => atoms_spec (ws := wsX4_sortOf) B.pre w (List.mem_cons_of_mem _ h)
  have hown : s.vm.findClass RX4 = some m.cls := findClass_of_methodNamed B.named
  have hlocks := B.notSynchronized
  subst hsz
  have hD : va_D A (wX4_sortOf cy aH qH vH vH_sorts) := by rw [← hAe]; exact hD0.self
  have hA : ∀ q : Nat, s.heap.size ≤ q → A q := fun q h => by rw [← hAe]; exact Or.inr h
  have hS : va_S A s.heap s.heap [] := va_S.rf
  have hl := lv_entry ([.ref aH, .int x1]) (n := 2) (Nat.le_of_ble_eq_true rfl)
  rw [lg_entry_eq]
  generalize (lg_sl ([.ref aH, .int x1]) ++ List.replicate (2 - (lg_sl ([.ref aH, .int x1])).length) Slot.unset).toArray = ls at hl ⊢
  have hl : lv_has ls 2 [(0, .ref aH), (1, .int x1)] := hl
  generalize hQe : MQ below (kQi D cy zr A (wX4_sortOf cy aH qH vH vH_sorts)) ([.ref aH, .int x1] : List Value).toArray s 0 0 A = Q
  have J18 : ∀ (t0_18 : Int32), ∀ (H : Heap) (locs : List Loc) (ls : Array Slot), va_P D vwCl (wX4_sortOf cy aH qH vH vH_sorts) H → va_D A (wX4_sortOf cy aH qH vH vH_sorts) → va_S A s.heap H locs → lv_has ls 2 [] → fX4_sortOf_J18 t0_18 = some zr → W p l e ({ frames := 1, cells := 0, slots := 0, locals := 21 } : Room) s m ([.ref aH, .int x1] : List Value).toArray below meth c H locs 0 0 Q (F0 m 18 ls [.int t0_18]) := by
    intro t0_18 H locs ls hP hD hS hl hok
    unfold fX4_sortOf_J18 at hok
    cases hok
    subst hQe; exact W.iret hx hb hr (fun t ht hW => ⟨⟨_, (), rfl, rfl, by rw [ht]; exact hP, va_K.moved hW.alike hK, hD⟩, hS.F ht⟩) hS.2.2 dX4_sortOf_18
  unfold fX4_sortOf at hok
  obtain ⟨H, hH⟩ : ∃ H, H = s.heap := ⟨_, rfl⟩
  obtain ⟨locs, hlc⟩ : ∃ x : List Loc, x = [] := ⟨_, rfl⟩
  have hP : va_P D vwCl (wX4_sortOf cy aH qH vH vH_sorts) H := by rw [hH]; exact hP
  have hS : va_S A s.heap H locs := by rw [hH, hlc]; exact hS
  rw [show W p l e _ s m _ below meth c s.heap [] = W p l e _ s m _ below meth c H locs from by rw [hH, hlc]]
  refine lv_aload_n hx hb dX4_sortOf_0 rfl (lv_at hl 0 rfl) ?_
  refine lv_iload_n hx hb dX4_sortOf_1 rfl (lv_at hl 1 rfl) ?_
  obtain ⟨r2, hc2, hok⟩ := k_bind hok
  refine kCi (wc := (wX4_hasRing cy aH qH vH)) (wc2 := (wX4_hasRing cy aH qH vH)) (wr := [(qH 8, rI cy 4 vH_sorts)]) (ws2 := (wX4_sortOf cy aH qH vH vH_sorts)) (kRunV (As := [.int x1]) (rest := []) ⟨hx, hb, hml, hown, ht0⟩ (kX4_hasRing l D cy _ aH qH vH x1 r2 hc2 _ rfl) (cwV 1 ht0 (gV wd94 wd95 wd96 wd9 wd97) rfl rfl rfl (by decide +kernel) ⟨Nat.le_of_ble_eq_true rfl, Nat.le_of_ble_eq_true rfl⟩) hK hN hP hD [0] rfl (by decide) 0 3 rfl rfl rfl hl.1 rfl (Nat.le_of_ble_eq_true rfl) dX4_sortOf_2 ⟨Nat.zero_le _, Nat.zero_le _⟩) hP hD hS hA [0] [1] rfl rfl (by decide) (by decide) [1, 0] (by decide) rfl rfl (fun H locs hP hD hS => ?_)
  refine lv_if_eq (tgt := 17) hx hb dX4_sortOf_5 (by decide) (fun c5 => ?_) (fun c5 => ?_)
  · have hok := k_pos c5 hok
    refine lv_iconst (v := 0) hx hb dX4_sortOf_17 (by decide) ?_
    exact J18 (0 : Int32) H locs ls hP hD hS (lv_sub hl [] rfl) hok
  · have hok := k_neg c5 hok
    refine lv_aload_n hx hb dX4_sortOf_8 rfl (lv_at hl 0 rfl) ?_
    refine va_get (D := D) (ci := 3) (v := .ref (qH 8)) (C := RX4) (T := TX4) (N := 20) hx hb ht0 niX4 hown hK hP 0 rfl rfl 8 (by decide) (ht0 _ wd98) (fun _ h9 => h9) rfl dX4_sortOf_9 ?_
    refine lv_iload_n hx hb dX4_sortOf_12 rfl (lv_at hl 1 rfl) ?_
    obtain ⟨g13, hok⟩ := gd_some hok
    refine va_iald hx hb hK hP 1 0 rfl rfl (okI_in g13) dX4_sortOf_13 ?_
    refine lv_goto (tgt := 18) hx hb dX4_sortOf_14 (by decide) ?_
    exact J18 (vH_sorts x1.toNatClampNeg) H locs ls hP hD hS (lv_sub hl [] rfl) hok
def wsX6_start : List Cond := .code yX6_start cX6_start 7 none :: W0
abbrev wX6_start (cy : Nat → ClassId) (aW : Nat) (aH : Nat) (aD : Nat) (qW : Nat → Nat) (aH0 : Nat) (qD : Nat → Nat) (qH : Nat → Nat) (vW : Nat → Int32) (vD : Nat → Int32) (vD_now : Nat → Int32) (vW_who : Nat → Int32) (vH : Nat → Int32) (vH_kinds : Nat → Int32) (vW_cells : Nat → Int32) (vH_sorts : Nat → Int32) : va_W := [(aW, oX6 vW qW aH0), (aD, oX1 vD qD), (qD 0, rI cy 9 vD_now), (qW 1, rI cy 36 vW_who), (aH, oX4 vH qH), (qH 14, rI cy 7 vH_kinds), (qW 0, rI cy 7 vW_cells), (qH 8, rI cy 4 vH_sorts)]
set_option maxHeartbeats 4000000 in
set_option maxRecDepth 100000 in
theorem kX6_start (l : Launch) (D : va_G) (cy : Nat → ClassId) (sz : Nat) (aW : Nat) (aH : Nat) (aD : Nat) (qW : Nat → Nat) (aH0 : Nat) (qD : Nat → Nat) (qH : Nat → Nat) (vW : Nat → Int32) (vD : Nat → Int32) (vD_now : Nat → Int32) (vW_who : Nat → Int32) (vH : Nat → Int32) (vH_kinds : Nat → Int32) (vW_cells : Nat → Int32) (vH_sorts : Nat → Int32) (x3 : Int32) (z_vW : Nat → Int32) (z_vW_who : Nat → Int32) (z_vW_cells : Nat → Int32) (hok : fX6_start vW vD vD_now vW_who vH vH_kinds vW_cells vH_sorts x3 = some (z_vW, z_vW_who, z_vW_cells)) (A : Nat → Prop) (hAe : va_A (wX6_start cy aW aH aD qW aH0 qD qH vW vD vD_now vW_who vH vH_kinds vW_cells vH_sorts) sz = A) : Met l yX6_start wsX6_start ({ frames := 2, cells := 0, slots := 0, locals := 42 } : Room) (kPre D cy [.ref aW, .ref aH, .ref aD, .int x3] (wX6_start cy aW aH aD qW aH0 qD qH vW vD vD_now vW_who vH vH_kinds vW_cells vH_sorts) sz) (kQv D cy A (wX6_start cy aW aH aD qW aH qD qH z_vW vD vD_now z_vW_who vH vH_kinds z_vW_cells vH_sorts)) 0 0 A := by
  refine Met.ofW (cc := cX6_start) (maxL := 7) (ret := none) (by decide) rfl ?_
  intro p e s m args below meth c s₁ B hml hv
  obtain ⟨rfl, hsz, hP, hK, hD0, hN⟩ := hv
  have hx := B.exec
  have hb := B.bytes
  have hr := B.returns
  have ht0 : ∀ w ∈ W0, w.before _ s = true := fun w h => atoms_spec (ws := wsX6_start) B.pre w (List.mem_cons_of_mem _ h)
  have hown : s.vm.findClass RX6 = some m.cls := findClass_of_methodNamed B.named
  have hlocks := B.notSynchronized
  subst hsz
  have hD : va_D A (wX6_start cy aW aH aD qW aH0 qD qH vW vD vD_now vW_who vH vH_kinds vW_cells vH_sorts) := by rw [← hAe]; exact hD0.self
  have hA : ∀ q : Nat, s.heap.size ≤ q → A q := fun q h => by rw [← hAe]; exact Or.inr h
  have hS : va_S A s.heap s.heap [] := va_S.rf
  have hl := lv_entry ([.ref aW, .ref aH, .ref aD, .int x3]) (n := 7) (Nat.le_of_ble_eq_true rfl)
  rw [lg_entry_eq]
  generalize (lg_sl ([.ref aW, .ref aH, .ref aD, .int x3]) ++ List.replicate (7 - (lg_sl ([.ref aW, .ref aH, .ref aD, .int x3])).length) Slot.unset).toArray = ls at hl ⊢
  have hl : lv_has ls 7 [(0, .ref aW), (1, .ref aH), (2, .ref aD), (3, .int x3)] := hl
  generalize hQe : MQ below (kQv D cy A (wX6_start cy aW aH aD qW aH qD qH z_vW vD vD_now z_vW_who vH vH_kinds z_vW_cells vH_sorts)) ([.ref aW, .ref aH, .ref aD, .int x3] : List Value).toArray s 0 0 A = Q
  have J189 : ∀ (vW_cells_189 : Nat → Int32) (vW_who_189 : Nat → Int32) (vW_189 : Nat → Int32), ∀ (H : Heap) (locs : List Loc) (ls : Array Slot), va_P D vwCl (wX6_start cy aW aH aD qW aH qD qH vW_189 vD vD_now vW_who_189 vH vH_kinds vW_cells_189 vH_sorts) H → va_D A (wX6_start cy aW aH aD qW aH qD qH vW_189 vD vD_now vW_who_189 vH vH_kinds vW_cells_189 vH_sorts) → va_S A s.heap H locs → lv_has ls 7 [] → fX6_start_J189 vW_cells_189 vW_who_189 vW_189 = some (z_vW, z_vW_who, z_vW_cells) → W p l e ({ frames := 2, cells := 0, slots := 0, locals := 42 } : Room) s m ([.ref aW, .ref aH, .ref aD, .int x3] : List Value).toArray below meth c H locs 0 0 Q (F0 m 189 ls []) := by
    intro vW_cells_189 vW_who_189 vW_189 H locs ls hP hD hS hl hok
    unfold fX6_start_J189 at hok
    cases hok
    subst hQe; exact W.vret hx hb hr (fun t ht hW => ⟨⟨(), rfl, trivial, by rw [ht]; exact hP, va_K.moved hW.alike hK, hD⟩, hS.F ht⟩) hS.2.2 dX6_start_189
  have L49 : ∀ (fuel : Nat) (y4_49 : Int32) (vW_cells_49 : Nat → Int32) (vW_who_49 : Nat → Int32) (vW_49 : Nat → Int32), ∀ (H : Heap) (locs : List Loc) (ls : Array Slot), va_P D vwCl (wX6_start cy aW aH aD qW aH qD qH vW_49 vD vD_now vW_who_49 vH vH_kinds vW_cells_49 vH_sorts) H → va_D A (wX6_start cy aW aH aD qW aH qD qH vW_49 vD vD_now vW_who_49 vH vH_kinds vW_cells_49 vH_sorts) → va_S A s.heap H locs → lv_has ls 7 [(0, .ref aW), (2, .ref aD), (4, .int y4_49)] → lp (fX6_start_B49 vD vD_now vH vH_kinds vH_sorts) fuel (y4_49, vW_cells_49, vW_who_49, vW_49) = some (z_vW, z_vW_who, z_vW_cells) → W p l e ({ frames := 2, cells := 0, slots := 0, locals := 42 } : Room) s m ([.ref aW, .ref aH, .ref aD, .int x3] : List Value).toArray below meth c H locs 0 0 Q (F0 m 49 ls []) := by
    intro fuel
    induction fuel with
    | zero => intro y4_49 vW_cells_49 vW_who_49 vW_49 H locs ls hP hD hS hl hok; exact (lp_0 hok).elim
    | succ fuel ih49 =>
      intro y4_49 vW_cells_49 vW_who_49 vW_49 H locs ls hP hD hS hl hok
      obtain ⟨y49, hok, hL49, hR49⟩ := lp_step hok
      have J179 : ∀ (t0_179 : Int32) (t1_179 : Int32) (vW_cells_179 : Nat → Int32) (vW_who_179 : Nat → Int32) (vW_179 : Nat → Int32), ∀ (H : Heap) (locs : List Loc) (ls : Array Slot), va_P D vwCl (wX6_start cy aW aH aD qW aH qD qH vW_179 vD vD_now vW_who_179 vH vH_kinds vW_cells_179 vH_sorts) H → va_D A (wX6_start cy aW aH aD qW aH qD qH vW_179 vD vD_now vW_who_179 vH vH_kinds vW_cells_179 vH_sorts) → va_S A s.heap H locs → lv_has ls 7 [(0, .ref aW), (2, .ref aD), (4, .int y4_49)] → fX6_start_J179 y4_49 t0_179 t1_179 vW_cells_179 vW_who_179 vW_179 = some y49 → W p l e ({ frames := 2, cells := 0, slots := 0, locals := 42 } : Room) s m ([.ref aW, .ref aH, .ref aD, .int x3] : List Value).toArray below meth c H locs 0 0 Q (F0 m 179 ls [.int t0_179, .int t1_179, .ref aW]) := by
        intro t0_179 t1_179 vW_cells_179 vW_who_179 vW_179 H locs ls hP hD hS hl hok
        unfold fX6_start_J179 at hok
        refine lv_ior hx hb dX6_start_179 ?_
        refine va_put (D := D) (ci := 5) (v := .int (t1_179 ||| t0_179)) (ty := .int) (C := RX6) (T := TX6) (N := 13) hx hb ht0 niX6 tyX6 tyX6_ok nmX6 hown hK hP hD hS 0 rfl rfl 8 (by decide) (ht0 _ wd99) (fun _ h9 => h9) rfl (by decide +kernel) rfl rfl (Nat.le_of_ble_eq_true rfl) dX6_start_180 (fun H locs hP hD hS => ?_)
        have hP : va_P D vwCl (wX6_start cy aW aH aD qW aH qD qH (upd vW_179 8 (t1_179 ||| t0_179)) vD vD_now vW_who_179 vH vH_kinds vW_cells_179 vH_sorts) H := hP
        have hD : va_D A (wX6_start cy aW aH aD qW aH qD qH (upd vW_179 8 (t1_179 ||| t0_179)) vD vD_now vW_who_179 vH vH_kinds vW_cells_179 vH_sorts) := hD
        refine lv_iinc (v := (y4_49 + 1)) (lv' := [(4, .int (y4_49 + 1)), (0, .ref aW), (2, .ref aD)]) hx hb dX6_start_183 hl (k := 2) rfl (by first | rfl | decide) (by decide) rfl (fun ls hl => ?_)
        refine lv_goto (tgt := 49) hx hb dX6_start_186 (by decide) ?_
        exact ih49 (y4_49 + 1) vW_cells_179 vW_who_179 (upd vW_179 8 (t1_179 ||| t0_179)) H locs ls hP hD hS (lv_sub hl [1, 2, 0] rfl) (hR49 _ (Option.some.inj hok).symm)
      have J146 : ∀ (y5_146 : Int32) (t0_146 : Int32) (vW_cells_146 : Nat → Int32) (vW_who_146 : Nat → Int32) (vW_146 : Nat → Int32), ∀ (H : Heap) (locs : List Loc) (ls : Array Slot), va_P D vwCl (wX6_start cy aW aH aD qW aH qD qH vW_146 vD vD_now vW_who_146 vH vH_kinds vW_cells_146 vH_sorts) H → va_D A (wX6_start cy aW aH aD qW aH qD qH vW_146 vD vD_now vW_who_146 vH vH_kinds vW_cells_146 vH_sorts) → va_S A s.heap H locs → lv_has ls 7 [(0, .ref aW), (2, .ref aD), (4, .int y4_49), (5, .int y5_146)] → fX6_start_J146 vH vH_sorts y4_49 vW_49 y5_146 t0_146 vW_cells_146 vW_who_146 vW_146 = some y49 → W p l e ({ frames := 2, cells := 0, slots := 0, locals := 42 } : Room) s m ([.ref aW, .ref aH, .ref aD, .int x3] : List Value).toArray below meth c H locs 0 0 Q (F0 m 146 ls [.int t0_146, .int (vW_49 7), .ref aW]) := by
        intro y5_146 t0_146 vW_cells_146 vW_who_146 vW_146 H locs ls hP hD hS hl hok
        unfold fX6_start_J146 at hok
        refine lv_ior hx hb dX6_start_146 ?_
        refine va_put (D := D) (ci := 5) (v := .int ((vW_49 7) ||| t0_146)) (ty := .int) (C := RX6) (T := TX6) (N := 13) hx hb ht0 niX6 tyX6 tyX6_ok nmX6 hown hK hP hD hS 0 rfl rfl 7 (by decide) (ht0 _ wd100) (fun _ h9 => h9) rfl (by decide +kernel) rfl rfl (Nat.le_of_ble_eq_true rfl) dX6_start_147 (fun H locs hP hD hS => ?_)
        have hP : va_P D vwCl (wX6_start cy aW aH aD qW aH qD qH (upd vW_146 7 ((vW_49 7) ||| t0_146)) vD vD_now vW_who_146 vH vH_kinds vW_cells_146 vH_sorts) H := hP
        have hD : va_D A (wX6_start cy aW aH aD qW aH qD qH (upd vW_146 7 ((vW_49 7) ||| t0_146)) vD vD_now vW_who_146 vH vH_kinds vW_cells_146 vH_sorts) := hD
        refine lv_aload_n hx hb dX6_start_150 rfl (lv_at hl 0 rfl) ?_
        refine lv_dup hx hb dX6_start_151 rfl ?_
        refine va_get (D := D) (ci := 5) (v := .int (vW_146 8)) (C := RX6) (T := TX6) (N := 13) hx hb ht0 niX6 hown hK hP 0 rfl rfl 8 (by decide) (ht0 _ wd99) (fun _ h9 => h9) rfl dX6_start_152 ?_
        refine lv_aload_n hx hb dX6_start_155 rfl (lv_at hl 0 rfl) ?_
        refine va_get (D := D) (ci := 5) (v := .ref aH) (C := RX6) (T := TX6) (N := 13) hx hb ht0 niX6 hown hK hP 0 rfl rfl 4 (by decide) (ht0 _ wd101) (fun _ h9 => h9) rfl dX6_start_156 ?_
        refine lv_iload hx hb dX6_start_159 (lv_at hl 3 rfl) ?_
        obtain ⟨r161, hc161, hok⟩ := k_bind hok
        refine kCi (wc := (wX8_ringOfCell cy )) (wc2 := (wX8_ringOfCell cy )) (wr := [(aW, oX6 (upd vW_146 7 ((vW_49 7) ||| t0_146)) qW aH), (aD, oX1 vD qD), (qD 0, rI cy 9 vD_now), (qW 1, rI cy 36 vW_who_146), (aH, oX4 vH qH), (qH 14, rI cy 7 vH_kinds), (qW 0, rI cy 7 vW_cells_146), (qH 8, rI cy 4 vH_sorts)]) (ws2 := (wX6_start cy aW aH aD qW aH qD qH (upd vW_146 7 ((vW_49 7) ||| t0_146)) vD vD_now vW_who_146 vH vH_kinds vW_cells_146 vH_sorts)) (kRunSN (As := [.int y5_146]) (rest := [.ref aH, .int (vW_146 8), .ref aW]) ⟨hx, hb, hml, hown, ht0⟩ (kX8_ringOfCell l D cy _ y5_146 r161 hc161 _ rfl) ⟨va_cnB 1 ht0 (gN wd56) rfl rfl rfl (hN _ (List.mem_of_getElem? (i := 6) rfl)) (ht0 _ wd57) (by decide +kernel) ⟨Nat.le_of_ble_eq_true rfl, Nat.le_of_ble_eq_true rfl⟩, ht0 _ wd58, trivial⟩ hK hN hP hD [] rfl (by decide) rfl hl.1 rfl (Nat.le_of_ble_eq_true rfl) dX6_start_161 ⟨Nat.zero_le _, Nat.zero_le _⟩) hP hD hS hA [] [0, 1, 2, 3, 4, 5, 6, 7] rfl rfl (by decide) (by decide) [0, 1, 2, 3, 4, 5, 6, 7] (by decide) rfl rfl (fun H locs hP hD hS => ?_)
        obtain ⟨r164, hc164, hok⟩ := k_bind hok
        refine kCi (wc := (wX4_sortOf cy aH qH vH vH_sorts)) (wc2 := (wX4_sortOf cy aH qH vH vH_sorts)) (wr := [(aW, oX6 (upd vW_146 7 ((vW_49 7) ||| t0_146)) qW aH), (aD, oX1 vD qD), (qD 0, rI cy 9 vD_now), (qW 1, rI cy 36 vW_who_146), (qH 14, rI cy 7 vH_kinds), (qW 0, rI cy 7 vW_cells_146)]) (ws2 := (wX6_start cy aW aH aD qW aH qD qH (upd vW_146 7 ((vW_49 7) ||| t0_146)) vD vD_now vW_who_146 vH vH_kinds vW_cells_146 vH_sorts)) (kRunV (As := [.int r161]) (rest := [.int (vW_146 8), .ref aW]) ⟨hx, hb, hml, hown, ht0⟩ (kX4_sortOf l D cy _ aH qH vH vH_sorts r161 r164 hc164 _ rfl) (cwV 1 ht0 (gV wd102 wd103 wd104 wd9 wd105) rfl rfl rfl (by decide +kernel) ⟨Nat.le_of_ble_eq_true rfl, Nat.le_of_ble_eq_true rfl⟩) hK hN hP hD [4, 7] rfl (by decide) 4 3 rfl rfl rfl hl.1 rfl (Nat.le_of_ble_eq_true rfl) dX6_start_164 ⟨Nat.zero_le _, Nat.zero_le _⟩) hP hD hS hA [4, 7] [0, 1, 2, 3, 5, 6] rfl rfl (by decide) (by decide) [0, 1, 2, 3, 6, 4, 5, 7] (by decide) rfl rfl (fun H locs hP hD hS => ?_)
        refine lv_iconst (v := 1) hx hb dX6_start_167 (by decide) ?_
        refine lv_icmp_ne (tgt := 178) hx hb dX6_start_168 (by decide) (fun c168 => ?_) (fun c168 => ?_)
        · have hok := k_neg c168 hok
          refine lv_iconst (v := 0) hx hb dX6_start_178 (by decide) ?_
          exact J179 (0 : Int32) (vW_146 8) vW_cells_146 vW_who_146 (upd vW_146 7 ((vW_49 7) ||| t0_146)) H locs ls hP hD hS (lv_sub hl [0, 1, 2] rfl) hok
        · have hok := k_pos c168 hok
          refine lv_iconst (v := 1) hx hb dX6_start_171 (by decide) ?_
          refine lv_iload hx hb dX6_start_172 (lv_at hl 2 rfl) ?_
          refine lv_ishl hx hb dX6_start_174 ?_
          refine lv_goto (tgt := 179) hx hb dX6_start_175 (by decide) ?_
          exact J179 (isl (1 : Int32) y4_49) (vW_146 8) vW_cells_146 vW_who_146 (upd vW_146 7 ((vW_49 7) ||| t0_146)) H locs ls hP hD hS (lv_sub hl [0, 1, 2] rfl) hok
      have J123 : ∀ (y5_123 : Int32) (y6_123 : Int32) (t0_123 : Int32) (vW_cells_123 : Nat → Int32) (vW_who_123 : Nat → Int32), ∀ (H : Heap) (locs : List Loc) (ls : Array Slot), va_P D vwCl (wX6_start cy aW aH aD qW aH qD qH vW_49 vD vD_now vW_who_123 vH vH_kinds vW_cells_123 vH_sorts) H → va_D A (wX6_start cy aW aH aD qW aH qD qH vW_49 vD vD_now vW_who_123 vH vH_kinds vW_cells_123 vH_sorts) → va_S A s.heap H locs → lv_has ls 7 [(0, .ref aW), (2, .ref aD), (4, .int y4_49), (5, .int y5_123), (6, .int y6_123)] → fX6_start_J123 vH vH_sorts y4_49 vW_49 y5_123 y6_123 t0_123 vW_cells_123 vW_who_123 = some y49 → W p l e ({ frames := 2, cells := 0, slots := 0, locals := 42 } : Room) s m ([.ref aW, .ref aH, .ref aD, .int x3] : List Value).toArray below meth c H locs 0 0 Q (F0 m 123 ls [.int t0_123, .int (vW_49 6), .ref aW]) := by
        intro y5_123 y6_123 t0_123 vW_cells_123 vW_who_123 H locs ls hP hD hS hl hok
        unfold fX6_start_J123 at hok
        refine lv_ior hx hb dX6_start_123 ?_
        refine va_put (D := D) (ci := 5) (v := .int ((vW_49 6) ||| t0_123)) (ty := .int) (C := RX6) (T := TX6) (N := 13) hx hb ht0 niX6 tyX6 tyX6_ok nmX6 hown hK hP hD hS 0 rfl rfl 6 (by decide) (ht0 _ wd106) (fun _ h9 => h9) rfl (by decide +kernel) rfl rfl (Nat.le_of_ble_eq_true rfl) dX6_start_124 (fun H locs hP hD hS => ?_)
        have hP : va_P D vwCl (wX6_start cy aW aH aD qW aH qD qH (upd vW_49 6 ((vW_49 6) ||| t0_123)) vD vD_now vW_who_123 vH vH_kinds vW_cells_123 vH_sorts) H := hP
        have hD : va_D A (wX6_start cy aW aH aD qW aH qD qH (upd vW_49 6 ((vW_49 6) ||| t0_123)) vD vD_now vW_who_123 vH vH_kinds vW_cells_123 vH_sorts) := hD
        refine lv_aload_n hx hb dX6_start_127 rfl (lv_at hl 0 rfl) ?_
        refine lv_dup hx hb dX6_start_128 rfl ?_
        refine va_get (D := D) (ci := 5) (v := .int (vW_49 7)) (C := RX6) (T := TX6) (N := 13) hx hb ht0 niX6 hown hK hP 0 rfl rfl 7 (by decide) (ht0 _ wd100) (fun _ h9 => h9) rfl dX6_start_129 ?_
        refine lv_iload hx hb dX6_start_132 (lv_at hl 4 rfl) ?_
        refine lv_iconst (v := 1) hx hb dX6_start_134 (by decide) ?_
        refine lv_icmp_ne (tgt := 145) hx hb dX6_start_135 (by decide) (fun c135 => ?_) (fun c135 => ?_)
        · have hok := k_neg c135 hok
          refine lv_iconst (v := 0) hx hb dX6_start_145 (by decide) ?_
          exact J146 y5_123 (0 : Int32) vW_cells_123 vW_who_123 (upd vW_49 6 ((vW_49 6) ||| t0_123)) H locs ls hP hD hS (lv_sub hl [0, 1, 2, 3] rfl) hok
        · have hok := k_pos c135 hok
          refine lv_iconst (v := 1) hx hb dX6_start_138 (by decide) ?_
          refine lv_iload hx hb dX6_start_139 (lv_at hl 2 rfl) ?_
          refine lv_ishl hx hb dX6_start_141 ?_
          refine lv_goto (tgt := 146) hx hb dX6_start_142 (by decide) ?_
          exact J146 y5_123 (isl (1 : Int32) y4_49) vW_cells_123 vW_who_123 (upd vW_49 6 ((vW_49 6) ||| t0_123)) H locs ls hP hD hS (lv_sub hl [0, 1, 2, 3] rfl) hok
      unfold fX6_start_B49 at hok
      try dsimp only at hok
      refine lv_iload hx hb dX6_start_49 (lv_at hl 2 rfl) ?_
      refine lv_aload_n hx hb dX6_start_51 rfl (lv_at hl 0 rfl) ?_
      refine va_get (D := D) (ci := 5) (v := .ref aH) (C := RX6) (T := TX6) (N := 13) hx hb ht0 niX6 hown hK hP 0 rfl rfl 4 (by decide) (ht0 _ wd101) (fun _ h9 => h9) rfl dX6_start_52 ?_
      refine va_get (D := D) (ci := 3) (v := .int (vH 5)) (C := RX4) (T := TX4) (N := 20) hx hb ht0 niX4 hown hK hP 4 rfl rfl 5 (by decide) (ht0 _ wd107) (fun _ h9 => h9) rfl dX6_start_55 ?_
      refine lv_icmp_ge (tgt := 189) hx hb dX6_start_58 (by decide) (fun c58 => ?_) (fun c58 => ?_)
      · have hok := k_pos c58 hok
        obtain ⟨e49, hok, he49⟩ := ex_some hok
        have hok := hok.trans (congrArg some (hL49 _ he49))
        exact J189 vW_cells_49 vW_who_49 vW_49 H locs ls hP hD hS (lv_sub hl [] rfl) hok
      · have hok := k_neg c58 hok
        refine lv_iload hx hb dX6_start_61 (lv_at hl 2 rfl) ?_
        refine lv_bipush (v := 7) hx hb dX6_start_63 (by decide) ?_
        refine lv_icmp_ge (tgt := 189) hx hb dX6_start_65 (by decide) (fun c65 => ?_) (fun c65 => ?_)
        · have hok := k_pos c65 hok
          obtain ⟨e49, hok, he49⟩ := ex_some hok
          have hok := hok.trans (congrArg some (hL49 _ he49))
          exact J189 vW_cells_49 vW_who_49 vW_49 H locs ls hP hD hS (lv_sub hl [] rfl) hok
        · have hok := k_neg c65 hok
          refine lv_aload_n hx hb dX6_start_68 rfl (lv_at hl 1 rfl) ?_
          refine lv_iload hx hb dX6_start_69 (lv_at hl 2 rfl) ?_
          obtain ⟨r71, hc71, hok⟩ := k_bind hok
          refine kCi (wc := (wX1_cellOf cy aD qD vD vD_now)) (wc2 := (wX1_cellOf cy aD qD vD vD_now)) (wr := [(aW, oX6 vW_49 qW aH), (qW 1, rI cy 36 vW_who_49), (aH, oX4 vH qH), (qH 14, rI cy 7 vH_kinds), (qW 0, rI cy 7 vW_cells_49), (qH 8, rI cy 4 vH_sorts)]) (ws2 := (wX6_start cy aW aH aD qW aH qD qH vW_49 vD vD_now vW_who_49 vH vH_kinds vW_cells_49 vH_sorts)) (kRunV (As := [.int y4_49]) (rest := []) ⟨hx, hb, hml, hown, ht0⟩ (kX1_cellOf l D cy _ aD qD vD vD_now y4_49 r71 hc71 _ rfl) (cwV 1 ht0 (gV wd108 wd82 wd83 wd74 wd84) rfl rfl rfl (by decide +kernel) ⟨Nat.le_of_ble_eq_true rfl, Nat.le_of_ble_eq_true rfl⟩) hK hN hP hD [1, 2] rfl (by decide) 1 1 rfl rfl rfl hl.1 rfl (Nat.le_of_ble_eq_true rfl) dX6_start_71 ⟨Nat.zero_le _, Nat.zero_le _⟩) hP hD hS hA [1, 2] [0, 3, 4, 5, 6, 7] rfl rfl (by decide) (by decide) [0, 6, 7, 1, 2, 3, 4, 5] (by decide) rfl rfl (fun H locs hP hD hS => ?_)
          refine lv_istore (lv' := [(5, .int r71), (0, .ref aW), (2, .ref aD), (4, .int y4_49)]) hx hb dX6_start_74 hl (by decide) rfl (fun ls hl => ?_)
          refine lv_aload_n hx hb dX6_start_76 rfl (lv_at hl 1 rfl) ?_
          refine va_get (D := D) (ci := 5) (v := .ref aH) (C := RX6) (T := TX6) (N := 13) hx hb ht0 niX6 hown hK hP 0 rfl rfl 4 (by decide) (ht0 _ wd101) (fun _ h9 => h9) rfl dX6_start_77 ?_
          refine lv_iload hx hb dX6_start_80 (lv_at hl 3 rfl) ?_
          obtain ⟨r82, hc82, hok⟩ := k_bind hok
          refine kCi (wc := (wX4_kindOf cy aH qH vH vH_kinds)) (wc2 := (wX4_kindOf cy aH qH vH vH_kinds)) (wr := [(aW, oX6 vW_49 qW aH), (aD, oX1 vD qD), (qD 0, rI cy 9 vD_now), (qW 1, rI cy 36 vW_who_49), (qW 0, rI cy 7 vW_cells_49), (qH 8, rI cy 4 vH_sorts)]) (ws2 := (wX6_start cy aW aH aD qW aH qD qH vW_49 vD vD_now vW_who_49 vH vH_kinds vW_cells_49 vH_sorts)) (kRunV (As := [.int y4_49]) (rest := []) ⟨hx, hb, hml, hown, ht0⟩ (kX4_kindOf l D cy _ aH qH vH vH_kinds y4_49 r82 hc82 _ rfl) (cwV 1 ht0 (gV wd109 wd77 wd78 wd9 wd79) rfl rfl rfl (by decide +kernel) ⟨Nat.le_of_ble_eq_true rfl, Nat.le_of_ble_eq_true rfl⟩) hK hN hP hD [4, 5] rfl (by decide) 4 3 rfl rfl rfl hl.1 rfl (Nat.le_of_ble_eq_true rfl) dX6_start_82 ⟨Nat.zero_le _, Nat.zero_le _⟩) hP hD hS hA [4, 5] [0, 1, 2, 3, 6, 7] rfl rfl (by decide) (by decide) [0, 1, 2, 3, 6, 7, 4, 5] (by decide) rfl rfl (fun H locs hP hD hS => ?_)
          refine lv_istore (lv' := [(6, .int r82), (5, .int r71), (0, .ref aW), (2, .ref aD), (4, .int y4_49)]) hx hb dX6_start_85 hl (by decide) rfl (fun ls hl => ?_)
          refine lv_aload_n hx hb dX6_start_87 rfl (lv_at hl 2 rfl) ?_
          refine va_get (D := D) (ci := 5) (v := .ref (qW 0)) (C := RX6) (T := TX6) (N := 13) hx hb ht0 niX6 hown hK hP 0 rfl rfl 0 (by decide) (ht0 _ wd110) (fun _ h9 => h9) rfl dX6_start_88 ?_
          refine lv_iload hx hb dX6_start_91 (lv_at hl 4 rfl) ?_
          refine lv_iload hx hb dX6_start_93 (lv_at hl 1 rfl) ?_
          obtain ⟨g95, hok⟩ := gd_some hok
          refine va_iast hx hb hK hP hD hS 6 0 rfl rfl (okI_in g95) dX6_start_95 (fun H locs hP hD hS => ?_)
          have hP : va_P D vwCl (wX6_start cy aW aH aD qW aH qD qH vW_49 vD vD_now vW_who_49 vH vH_kinds (upd vW_cells_49 y4_49.toNatClampNeg r71) vH_sorts) H := hP
          have hD : va_D A (wX6_start cy aW aH aD qW aH qD qH vW_49 vD vD_now vW_who_49 vH vH_kinds (upd vW_cells_49 y4_49.toNatClampNeg r71) vH_sorts) := hD
          refine lv_aload_n hx hb dX6_start_96 rfl (lv_at hl 2 rfl) ?_
          refine lv_iload hx hb dX6_start_97 (lv_at hl 4 rfl) ?_
          refine lv_iload hx hb dX6_start_99 (lv_at hl 1 rfl) ?_
          obtain ⟨vW_who_101, hc101, hok⟩ := k_bind hok
          refine kCv (wc := (wX6_seat cy aW qW aH vW_49 vW_who_49)) (wc2 := (wX6_seat cy aW qW aH vW_49 vW_who_101)) (wr := [(aD, oX1 vD qD), (qD 0, rI cy 9 vD_now), (aH, oX4 vH qH), (qH 14, rI cy 7 vH_kinds), (qW 0, rI cy 7 (upd vW_cells_49 y4_49.toNatClampNeg r71)), (qH 8, rI cy 4 vH_sorts)]) (ws2 := (wX6_start cy aW aH aD qW aH qD qH vW_49 vD vD_now vW_who_101 vH vH_kinds (upd vW_cells_49 y4_49.toNatClampNeg r71) vH_sorts)) (kRunV (As := [.int y4_49, .int r71]) (rest := []) ⟨hx, hb, hml, hown, ht0⟩ (kX6_seat l D cy _ aW qW aH vW_49 vW_who_49 y4_49 r71 vW_who_101 hc101 _ rfl) (cwV 2 ht0 (gV wd111 wd112 wd113 wd114 wd115) rfl rfl rfl (by decide +kernel) ⟨Nat.le_of_ble_eq_true rfl, Nat.le_of_ble_eq_true rfl⟩) hK hN hP hD [0, 3] rfl (by decide) 0 5 rfl rfl rfl hl.1 rfl (Nat.le_of_ble_eq_true rfl) dX6_start_101 ⟨Nat.zero_le _, Nat.zero_le _⟩) hP hD hS hA [0, 3] [1, 2, 4, 5, 6, 7] rfl rfl (by decide) (by decide) [6, 0, 1, 7, 2, 3, 4, 5] (by decide) rfl rfl (fun H locs hP hD hS => ?_)
          refine lv_aload_n hx hb dX6_start_104 rfl (lv_at hl 2 rfl) ?_
          refine lv_dup hx hb dX6_start_105 rfl ?_
          refine va_get (D := D) (ci := 5) (v := .int (vW_49 6)) (C := RX6) (T := TX6) (N := 13) hx hb ht0 niX6 hown hK hP 0 rfl rfl 6 (by decide) (ht0 _ wd106) (fun _ h9 => h9) rfl dX6_start_106 ?_
          refine lv_iload hx hb dX6_start_109 (lv_at hl 0 rfl) ?_
          refine lv_iconst (v := 2) hx hb dX6_start_111 (by decide) ?_
          refine lv_icmp_ne (tgt := 122) hx hb dX6_start_112 (by decide) (fun c112 => ?_) (fun c112 => ?_)
          · have hok := k_neg c112 hok
            refine lv_iconst (v := 0) hx hb dX6_start_122 (by decide) ?_
            exact J123 r71 r82 (0 : Int32) (upd vW_cells_49 y4_49.toNatClampNeg r71) vW_who_101 H locs ls hP hD hS (lv_sub hl [2, 3, 4, 1, 0] rfl) hok
          · have hok := k_pos c112 hok
            refine lv_iconst (v := 1) hx hb dX6_start_115 (by decide) ?_
            refine lv_iload hx hb dX6_start_116 (lv_at hl 4 rfl) ?_
            refine lv_ishl hx hb dX6_start_118 ?_
            refine lv_goto (tgt := 123) hx hb dX6_start_119 (by decide) ?_
            exact J123 r71 r82 (isl (1 : Int32) y4_49) (upd vW_cells_49 y4_49.toNatClampNeg r71) vW_who_101 H locs ls hP hD hS (lv_sub hl [2, 3, 4, 1, 0] rfl) hok
  unfold fX6_start at hok
  obtain ⟨H, hH⟩ : ∃ H, H = s.heap := ⟨_, rfl⟩
  obtain ⟨locs, hlc⟩ : ∃ x : List Loc, x = [] := ⟨_, rfl⟩
  have hP : va_P D vwCl (wX6_start cy aW aH aD qW aH0 qD qH vW vD vD_now vW_who vH vH_kinds vW_cells vH_sorts) H := by rw [hH]; exact hP
  have hS : va_S A s.heap H locs := by rw [hH, hlc]; exact hS
  rw [show W p l e _ s m _ below meth c s.heap [] = W p l e _ s m _ below meth c H locs from by rw [hH, hlc]]
  refine lv_aload_n hx hb dX6_start_0 rfl (lv_at hl 0 rfl) ?_
  refine lv_aload_n hx hb dX6_start_1 rfl (lv_at hl 1 rfl) ?_
  refine va_put (D := D) (ci := 5) (v := .ref aH) (ty := (.object "NightRound$House")) (C := RX6) (T := TX6) (N := 13) hx hb ht0 niX6 tyX6 tyX6_ok nmX6 hown hK hP hD hS 0 rfl rfl 4 (by decide) (ht0 _ wd101) (fun _ h9 => h9) rfl (by decide +kernel) rfl rfl (Nat.le_of_ble_eq_true rfl) dX6_start_2 (fun H locs hP hD hS => ?_)
  have hP : va_P D vwCl (wX6_start cy aW aH aD qW aH qD qH vW vD vD_now vW_who vH vH_kinds vW_cells vH_sorts) H := hP
  have hD : va_D A (wX6_start cy aW aH aD qW aH qD qH vW vD vD_now vW_who vH vH_kinds vW_cells vH_sorts) := hD
  refine lv_aload_n hx hb dX6_start_5 rfl (lv_at hl 0 rfl) ?_
  refine lv_aload_n hx hb dX6_start_6 rfl (lv_at hl 2 rfl) ?_
  obtain ⟨r7, hc7, hok⟩ := k_bind hok
  refine kCi (wc := (wX1_nightNow cy aD qD vD vD_now)) (wc2 := (wX1_nightNow cy aD qD vD vD_now)) (wr := [(aW, oX6 vW qW aH), (qW 1, rI cy 36 vW_who), (aH, oX4 vH qH), (qH 14, rI cy 7 vH_kinds), (qW 0, rI cy 7 vW_cells), (qH 8, rI cy 4 vH_sorts)]) (ws2 := (wX6_start cy aW aH aD qW aH qD qH vW vD vD_now vW_who vH vH_kinds vW_cells vH_sorts)) (kRunV (As := []) (rest := [.ref aW]) ⟨hx, hb, hml, hown, ht0⟩ (kX1_nightNow l D cy _ aD qD vD vD_now r7 hc7 _ rfl) (cwV 0 ht0 (gV wd116 wd117 wd118 wd74 wd119) rfl rfl rfl (by decide +kernel) ⟨Nat.le_of_ble_eq_true rfl, Nat.le_of_ble_eq_true rfl⟩) hK hN hP hD [1, 2] rfl (by decide) 1 1 rfl rfl rfl hl.1 rfl (Nat.le_of_ble_eq_true rfl) dX6_start_7 ⟨Nat.zero_le _, Nat.zero_le _⟩) hP hD hS hA [1, 2] [0, 3, 4, 5, 6, 7] rfl rfl (by decide) (by decide) [0, 6, 7, 1, 2, 3, 4, 5] (by decide) rfl rfl (fun H locs hP hD hS => ?_)
  refine va_put (D := D) (ci := 5) (v := .int r7) (ty := .int) (C := RX6) (T := TX6) (N := 13) hx hb ht0 niX6 tyX6 tyX6_ok nmX6 hown hK hP hD hS 0 rfl rfl 5 (by decide) (ht0 _ wd120) (fun _ h9 => h9) rfl (by decide +kernel) rfl rfl (Nat.le_of_ble_eq_true rfl) dX6_start_10 (fun H locs hP hD hS => ?_)
  have hP : va_P D vwCl (wX6_start cy aW aH aD qW aH qD qH (upd vW 5 r7) vD vD_now vW_who vH vH_kinds vW_cells vH_sorts) H := hP
  have hD : va_D A (wX6_start cy aW aH aD qW aH qD qH (upd vW 5 r7) vD vD_now vW_who vH vH_kinds vW_cells vH_sorts) := hD
  refine lv_aload_n hx hb dX6_start_13 rfl (lv_at hl 0 rfl) ?_
  refine lv_aload_n hx hb dX6_start_14 rfl (lv_at hl 2 rfl) ?_
  obtain ⟨r15, hc15, hok⟩ := k_bind hok
  refine kCi (wc := (wX1_heldBits cy aD qD vD vD_now)) (wc2 := (wX1_heldBits cy aD qD vD vD_now)) (wr := [(aW, oX6 (upd vW 5 r7) qW aH), (qW 1, rI cy 36 vW_who), (aH, oX4 vH qH), (qH 14, rI cy 7 vH_kinds), (qW 0, rI cy 7 vW_cells), (qH 8, rI cy 4 vH_sorts)]) (ws2 := (wX6_start cy aW aH aD qW aH qD qH (upd vW 5 r7) vD vD_now vW_who vH vH_kinds vW_cells vH_sorts)) (kRunV (As := []) (rest := [.ref aW]) ⟨hx, hb, hml, hown, ht0⟩ (kX1_heldBits l D cy _ aD qD vD vD_now r15 hc15 _ rfl) (cwV 0 ht0 (gV wd121 wd122 wd123 wd74 wd124) rfl rfl rfl (by decide +kernel) ⟨Nat.le_of_ble_eq_true rfl, Nat.le_of_ble_eq_true rfl⟩) hK hN hP hD [1, 2] rfl (by decide) 1 1 rfl rfl rfl hl.1 rfl (Nat.le_of_ble_eq_true rfl) dX6_start_15 ⟨Nat.zero_le _, Nat.zero_le _⟩) hP hD hS hA [1, 2] [0, 3, 4, 5, 6, 7] rfl rfl (by decide) (by decide) [0, 6, 7, 1, 2, 3, 4, 5] (by decide) rfl rfl (fun H locs hP hD hS => ?_)
  refine lv_iload_n hx hb dX6_start_18 rfl (lv_at hl 3 rfl) ?_
  refine lv_ior hx hb dX6_start_19 ?_
  refine va_put (D := D) (ci := 5) (v := .int (r15 ||| x3)) (ty := .int) (C := RX6) (T := TX6) (N := 13) hx hb ht0 niX6 tyX6 tyX6_ok nmX6 hown hK hP hD hS 0 rfl rfl 6 (by decide) (ht0 _ wd106) (fun _ h9 => h9) rfl (by decide +kernel) rfl rfl (Nat.le_of_ble_eq_true rfl) dX6_start_20 (fun H locs hP hD hS => ?_)
  have hP : va_P D vwCl (wX6_start cy aW aH aD qW aH qD qH (upd (upd vW 5 r7) 6 (r15 ||| x3)) vD vD_now vW_who vH vH_kinds vW_cells vH_sorts) H := hP
  have hD : va_D A (wX6_start cy aW aH aD qW aH qD qH (upd (upd vW 5 r7) 6 (r15 ||| x3)) vD vD_now vW_who vH vH_kinds vW_cells vH_sorts) := hD
  refine lv_aload_n hx hb dX6_start_23 rfl (lv_at hl 0 rfl) ?_
  refine lv_iconst (v := 0) hx hb dX6_start_24 (by decide) ?_
  refine va_put (D := D) (ci := 5) (v := .int 0) (ty := .int) (C := RX6) (T := TX6) (N := 13) hx hb ht0 niX6 tyX6 tyX6_ok nmX6 hown hK hP hD hS 0 rfl rfl 7 (by decide) (ht0 _ wd100) (fun _ h9 => h9) rfl (by decide +kernel) rfl rfl (Nat.le_of_ble_eq_true rfl) dX6_start_25 (fun H locs hP hD hS => ?_)
  have hP : va_P D vwCl (wX6_start cy aW aH aD qW aH qD qH (upd (upd (upd vW 5 r7) 6 (r15 ||| x3)) 7 (0 : Int32)) vD vD_now vW_who vH vH_kinds vW_cells vH_sorts) H := hP
  have hD : va_D A (wX6_start cy aW aH aD qW aH qD qH (upd (upd (upd vW 5 r7) 6 (r15 ||| x3)) 7 (0 : Int32)) vD vD_now vW_who vH vH_kinds vW_cells vH_sorts) := hD
  refine lv_aload_n hx hb dX6_start_28 rfl (lv_at hl 0 rfl) ?_
  refine lv_iconst (v := 0) hx hb dX6_start_29 (by decide) ?_
  refine va_put (D := D) (ci := 5) (v := .int 0) (ty := .int) (C := RX6) (T := TX6) (N := 13) hx hb ht0 niX6 tyX6 tyX6_ok nmX6 hown hK hP hD hS 0 rfl rfl 8 (by decide) (ht0 _ wd99) (fun _ h9 => h9) rfl (by decide +kernel) rfl rfl (Nat.le_of_ble_eq_true rfl) dX6_start_30 (fun H locs hP hD hS => ?_)
  have hP : va_P D vwCl (wX6_start cy aW aH aD qW aH qD qH (upd (upd (upd (upd vW 5 r7) 6 (r15 ||| x3)) 7 (0 : Int32)) 8 (0 : Int32)) vD vD_now vW_who vH vH_kinds vW_cells vH_sorts) H := hP
  have hD : va_D A (wX6_start cy aW aH aD qW aH qD qH (upd (upd (upd (upd vW 5 r7) 6 (r15 ||| x3)) 7 (0 : Int32)) 8 (0 : Int32)) vD vD_now vW_who vH vH_kinds vW_cells vH_sorts) := hD
  refine lv_aload_n hx hb dX6_start_33 rfl (lv_at hl 0 rfl) ?_
  refine lv_iconst (v := -1) hx hb dX6_start_34 (by decide) ?_
  refine va_put (D := D) (ci := 5) (v := .int (-1)) (ty := .int) (C := RX6) (T := TX6) (N := 13) hx hb ht0 niX6 tyX6 tyX6_ok nmX6 hown hK hP hD hS 0 rfl rfl 9 (by decide) (ht0 _ wd125) (fun _ h9 => h9) rfl (by decide +kernel) rfl rfl (Nat.le_of_ble_eq_true rfl) dX6_start_35 (fun H locs hP hD hS => ?_)
  have hP : va_P D vwCl (wX6_start cy aW aH aD qW aH qD qH (upd (upd (upd (upd (upd vW 5 r7) 6 (r15 ||| x3)) 7 (0 : Int32)) 8 (0 : Int32)) 9 (-1 : Int32)) vD vD_now vW_who vH vH_kinds vW_cells vH_sorts) H := hP
  have hD : va_D A (wX6_start cy aW aH aD qW aH qD qH (upd (upd (upd (upd (upd vW 5 r7) 6 (r15 ||| x3)) 7 (0 : Int32)) 8 (0 : Int32)) 9 (-1 : Int32)) vD vD_now vW_who vH vH_kinds vW_cells vH_sorts) := hD
  refine lv_aload_n hx hb dX6_start_38 rfl (lv_at hl 0 rfl) ?_
  refine va_get (D := D) (ci := 5) (v := .ref (qW 1)) (C := RX6) (T := TX6) (N := 13) hx hb ht0 niX6 hown hK hP 0 rfl rfl 1 (by decide) (ht0 _ wd92) (fun _ h9 => h9) rfl dX6_start_39 ?_
  refine lv_iconst (v := -1) hx hb dX6_start_42 (by decide) ?_
  obtain ⟨p0_43, hc43, hok⟩ := k_bind hok
  refine kCv (wc := (wJ7_fill_53178 cy (qW 1) 36 vW_who)) (wc2 := (wJ7_fill_53178 cy (qW 1) 36 p0_43)) (wr := [(aW, oX6 (upd (upd (upd (upd (upd vW 5 r7) 6 (r15 ||| x3)) 7 (0 : Int32)) 8 (0 : Int32)) 9 (-1 : Int32)) qW aH), (aD, oX1 vD qD), (qD 0, rI cy 9 vD_now), (aH, oX4 vH qH), (qH 14, rI cy 7 vH_kinds), (qW 0, rI cy 7 vW_cells), (qH 8, rI cy 4 vH_sorts)]) (ws2 := (wX6_start cy aW aH aD qW aH qD qH (upd (upd (upd (upd (upd vW 5 r7) 6 (r15 ||| x3)) 7 (0 : Int32)) 8 (0 : Int32)) 9 (-1 : Int32)) vD vD_now p0_43 vH vH_kinds vW_cells vH_sorts)) (kRunS (As := [.ref (qW 1), .int (-1)]) (rest := []) ⟨hx, hb, hml, hown, ht0⟩ (kJ7_fill_53178 l D cy _ (qW 1) 36 vW_who (-1 : Int32) p0_43 hc43 _ rfl) (va_cwS 2 ht0 (gS wd126 wd30 wd31 wd32) rfl rfl rfl (by decide +kernel) ⟨Nat.le_of_ble_eq_true rfl, Nat.le_of_ble_eq_true rfl⟩) hK hN hP hD [3] rfl (by decide) rfl hl.1 rfl (Nat.le_of_ble_eq_true rfl) dX6_start_43 ⟨Nat.zero_le _, Nat.zero_le _⟩) hP hD hS hA [3] [0, 1, 2, 4, 5, 6, 7] rfl rfl (by decide) (by decide) [0, 1, 2, 7, 3, 4, 5, 6] (by decide) rfl rfl (fun H locs hP hD hS => ?_)
  refine lv_iconst (v := 0) hx hb dX6_start_46 (by decide) ?_
  refine lv_istore (lv' := [(4, .int 0), (0, .ref aW), (1, .ref aH), (2, .ref aD), (3, .int x3)]) hx hb dX6_start_47 hl (by decide) rfl (fun ls hl => ?_)
  exact L49 5000 (0 : Int32) vW_cells p0_43 (upd (upd (upd (upd (upd vW 5 r7) 6 (r15 ||| x3)) 7 (0 : Int32)) 8 (0 : Int32)) 9 (-1 : Int32)) H locs ls hP hD hS (lv_sub hl [1, 3, 0] rfl) hok
def wsX4_nextOf : List Cond := .code yX4_nextOf cX4_nextOf 2 (some .int) :: W0
abbrev wX4_nextOf (cy : Nat → ClassId) (aH : Nat) (qH : Nat → Nat) (vH : Nat → Int32) (vH_next : Nat → Int32) : va_W := [(aH, oX4 vH qH), (qH 10, rI cy 36 vH_next)]
set_option maxHeartbeats 4000000 in
set_option maxRecDepth 100000 in
theorem kX4_nextOf (l : Launch) (D : va_G) (cy : Nat → ClassId) (sz : Nat) (aH : Nat) (qH : Nat → Nat) (vH : Nat → Int32) (vH_next : Nat → Int32) (x1 : Int32) (zr : Int32) (hok : fX4_nextOf vH vH_next x1 = some zr) (A : Nat → Prop) (hAe : va_A (wX4_nextOf cy aH qH vH vH_next) sz = A) : Met l yX4_nextOf wsX4_nextOf ({ frames := 0, cells := 0, slots := 0, locals := 0 } : Room) (kPre D cy [.ref aH, .int x1] (wX4_nextOf cy aH qH vH vH_next) sz) (kQi D cy zr A (wX4_nextOf cy aH qH vH vH_next)) 0 0 A := by
  refine Met.ofW (cc := cX4_nextOf) (maxL := 2) (ret := (some .int)) (by decide) rfl ?_
  intro p e s m args below meth c s₁ B hml hv
  obtain ⟨rfl, hsz, hP, hK, hD0, hN⟩ := hv
  have hx := B.exec
  have hb := B.bytes
  have hr := B.returns
  have ht0 : ∀ w ∈ W0, w.before _ s = true := fun w h => atoms_spec (ws := wsX4_nextOf) B.pre w (List.mem_cons_of_mem _ h)
  have hown : s.vm.findClass RX4 = some m.cls := findClass_of_methodNamed B.named
  have hlocks := B.notSynchronized
  subst hsz
  have hD : va_D A (wX4_nextOf cy aH qH vH vH_next) := by rw [← hAe]; exact hD0.self
  have hA : ∀ q : Nat, s.heap.size ≤ q → A q := fun q h => by rw [← hAe]; exact Or.inr h
  have hS : va_S A s.heap s.heap [] := va_S.rf
  have hl := lv_entry ([.ref aH, .int x1]) (n := 2) (Nat.le_of_ble_eq_true rfl)
  rw [lg_entry_eq]
  generalize (lg_sl ([.ref aH, .int x1]) ++ List.replicate (2 - (lg_sl ([.ref aH, .int x1])).length) Slot.unset).toArray = ls at hl ⊢
  have hl : lv_has ls 2 [(0, .ref aH), (1, .int x1)] := hl
  generalize hQe : MQ below (kQi D cy zr A (wX4_nextOf cy aH qH vH vH_next)) ([.ref aH, .int x1] : List Value).toArray s 0 0 A = Q
  have J20 : ∀ (t0_20 : Int32), ∀ (H : Heap) (locs : List Loc) (ls : Array Slot), va_P D vwCl (wX4_nextOf cy aH qH vH vH_next) H → va_D A (wX4_nextOf cy aH qH vH vH_next) → va_S A s.heap H locs → lv_has ls 2 [] → fX4_nextOf_J20 t0_20 = some zr → W p l e ({ frames := 0, cells := 0, slots := 0, locals := 0 } : Room) s m ([.ref aH, .int x1] : List Value).toArray below meth c H locs 0 0 Q (F0 m 20 ls [.int t0_20]) := by
    intro t0_20 H locs ls hP hD hS hl hok
    unfold fX4_nextOf_J20 at hok
    cases hok
    subst hQe; exact W.iret hx hb hr (fun t ht hW => ⟨⟨_, (), rfl, rfl, by rw [ht]; exact hP, va_K.moved hW.alike hK, hD⟩, hS.F ht⟩) hS.2.2 dX4_nextOf_20
  have J19 : ∀ (H : Heap) (locs : List Loc) (ls : Array Slot), va_P D vwCl (wX4_nextOf cy aH qH vH vH_next) H → va_D A (wX4_nextOf cy aH qH vH vH_next) → va_S A s.heap H locs → lv_has ls 2 [] → fX4_nextOf_J19 = some zr → W p l e ({ frames := 0, cells := 0, slots := 0, locals := 0 } : Room) s m ([.ref aH, .int x1] : List Value).toArray below meth c H locs 0 0 Q (F0 m 19 ls []) := by
    intro  H locs ls hP hD hS hl hok
    unfold fX4_nextOf_J19 at hok
    refine lv_iconst (v := 0) hx hb dX4_nextOf_19 (by decide) ?_
    exact J20 (0 : Int32) H locs ls hP hD hS (lv_sub hl [] rfl) hok
  unfold fX4_nextOf at hok
  obtain ⟨H, hH⟩ : ∃ H, H = s.heap := ⟨_, rfl⟩
  obtain ⟨locs, hlc⟩ : ∃ x : List Loc, x = [] := ⟨_, rfl⟩
  have hP : va_P D vwCl (wX4_nextOf cy aH qH vH vH_next) H := by rw [hH]; exact hP
  have hS : va_S A s.heap H locs := by rw [hH, hlc]; exact hS
  rw [show W p l e _ s m _ below meth c s.heap [] = W p l e _ s m _ below meth c H locs from by rw [hH, hlc]]
  refine lv_iload_n hx hb dX4_nextOf_0 rfl (lv_at hl 1 rfl) ?_
  refine lv_if_lt (tgt := 19) hx hb dX4_nextOf_1 (by decide) (fun c1 => ?_) (fun c1 => ?_)
  · have hok := k_pos c1 hok
    exact J19  H locs ls hP hD hS (lv_sub hl [] rfl) hok
  · have hok := k_neg c1 hok
    refine lv_iload_n hx hb dX4_nextOf_4 rfl (lv_at hl 1 rfl) ?_
    refine lv_bipush (v := 36) hx hb dX4_nextOf_5 (by decide) ?_
    refine lv_icmp_ge (tgt := 19) hx hb dX4_nextOf_7 (by decide) (fun c7 => ?_) (fun c7 => ?_)
    · have hok := k_pos c7 hok
      exact J19  H locs ls hP hD hS (lv_sub hl [] rfl) hok
    · have hok := k_neg c7 hok
      refine lv_aload_n hx hb dX4_nextOf_10 rfl (lv_at hl 0 rfl) ?_
      refine va_get (D := D) (ci := 3) (v := .ref (qH 10)) (C := RX4) (T := TX4) (N := 20) hx hb ht0 niX4 hown hK hP 0 rfl rfl 10 (by decide) (ht0 _ wd127) (fun _ h9 => h9) rfl dX4_nextOf_11 ?_
      refine lv_iload_n hx hb dX4_nextOf_14 rfl (lv_at hl 1 rfl) ?_
      obtain ⟨g15, hok⟩ := gd_some hok
      refine va_iald hx hb hK hP 1 0 rfl rfl (okI_in g15) dX4_nextOf_15 ?_
      refine lv_goto (tgt := 20) hx hb dX4_nextOf_16 (by decide) ?_
      exact J20 (vH_next x1.toNatClampNeg) H locs ls hP hD hS (lv_sub hl [] rfl) hok
def wsX6_thingAt : List Cond := .code yX6_thingAt cX6_thingAt 2 (some .int) :: W0
abbrev wX6_thingAt (cy : Nat → ClassId) (aW : Nat) (qW : Nat → Nat) (aH : Nat) (vW : Nat → Int32) (vW_who : Nat → Int32) : va_W := [(aW, oX6 vW qW aH), (qW 1, rI cy 36 vW_who)]
set_option maxHeartbeats 4000000 in
set_option maxRecDepth 100000 in
theorem kX6_thingAt (l : Launch) (D : va_G) (cy : Nat → ClassId) (sz : Nat) (aW : Nat) (qW : Nat → Nat) (aH : Nat) (vW : Nat → Int32) (vW_who : Nat → Int32) (x1 : Int32) (zr : Int32) (hok : fX6_thingAt vW vW_who x1 = some zr) (A : Nat → Prop) (hAe : va_A (wX6_thingAt cy aW qW aH vW vW_who) sz = A) : Met l yX6_thingAt wsX6_thingAt ({ frames := 0, cells := 0, slots := 0, locals := 0 } : Room) (kPre D cy [.ref aW, .int x1] (wX6_thingAt cy aW qW aH vW vW_who) sz) (kQi D cy zr A (wX6_thingAt cy aW qW aH vW vW_who)) 0 0 A := by
  refine Met.ofW (cc := cX6_thingAt) (maxL := 2) (ret := (some .int)) (by decide) rfl ?_
  intro p e s m args below meth c s₁ B hml hv
  obtain ⟨rfl, hsz, hP, hK, hD0, hN⟩ := hv
  have hx := B.exec
  have hb := B.bytes
  have hr := B.returns
  have ht0 : ∀ w ∈ W0, w.before _ s = true := fun w h => atoms_spec (ws := wsX6_thingAt) B.pre w (List.mem_cons_of_mem _ h)
  have hown : s.vm.findClass RX6 = some m.cls := findClass_of_methodNamed B.named
  have hlocks := B.notSynchronized
  subst hsz
  have hD : va_D A (wX6_thingAt cy aW qW aH vW vW_who) := by rw [← hAe]; exact hD0.self
  have hA : ∀ q : Nat, s.heap.size ≤ q → A q := fun q h => by rw [← hAe]; exact Or.inr h
  have hS : va_S A s.heap s.heap [] := va_S.rf
  have hl := lv_entry ([.ref aW, .int x1]) (n := 2) (Nat.le_of_ble_eq_true rfl)
  rw [lg_entry_eq]
  generalize (lg_sl ([.ref aW, .int x1]) ++ List.replicate (2 - (lg_sl ([.ref aW, .int x1])).length) Slot.unset).toArray = ls at hl ⊢
  have hl : lv_has ls 2 [(0, .ref aW), (1, .int x1)] := hl
  generalize hQe : MQ below (kQi D cy zr A (wX6_thingAt cy aW qW aH vW vW_who)) ([.ref aW, .int x1] : List Value).toArray s 0 0 A = Q
  have J20 : ∀ (t0_20 : Int32), ∀ (H : Heap) (locs : List Loc) (ls : Array Slot), va_P D vwCl (wX6_thingAt cy aW qW aH vW vW_who) H → va_D A (wX6_thingAt cy aW qW aH vW vW_who) → va_S A s.heap H locs → lv_has ls 2 [] → fX6_thingAt_J20 t0_20 = some zr → W p l e ({ frames := 0, cells := 0, slots := 0, locals := 0 } : Room) s m ([.ref aW, .int x1] : List Value).toArray below meth c H locs 0 0 Q (F0 m 20 ls [.int t0_20]) := by
    intro t0_20 H locs ls hP hD hS hl hok
    unfold fX6_thingAt_J20 at hok
    cases hok
    subst hQe; exact W.iret hx hb hr (fun t ht hW => ⟨⟨_, (), rfl, rfl, by rw [ht]; exact hP, va_K.moved hW.alike hK, hD⟩, hS.F ht⟩) hS.2.2 dX6_thingAt_20
  have J19 : ∀ (H : Heap) (locs : List Loc) (ls : Array Slot), va_P D vwCl (wX6_thingAt cy aW qW aH vW vW_who) H → va_D A (wX6_thingAt cy aW qW aH vW vW_who) → va_S A s.heap H locs → lv_has ls 2 [] → fX6_thingAt_J19 = some zr → W p l e ({ frames := 0, cells := 0, slots := 0, locals := 0 } : Room) s m ([.ref aW, .int x1] : List Value).toArray below meth c H locs 0 0 Q (F0 m 19 ls []) := by
    intro  H locs ls hP hD hS hl hok
    unfold fX6_thingAt_J19 at hok
    refine lv_iconst (v := -1) hx hb dX6_thingAt_19 (by decide) ?_
    exact J20 (-1 : Int32) H locs ls hP hD hS (lv_sub hl [] rfl) hok
  unfold fX6_thingAt at hok
  obtain ⟨H, hH⟩ : ∃ H, H = s.heap := ⟨_, rfl⟩
  obtain ⟨locs, hlc⟩ : ∃ x : List Loc, x = [] := ⟨_, rfl⟩
  have hP : va_P D vwCl (wX6_thingAt cy aW qW aH vW vW_who) H := by rw [hH]; exact hP
  have hS : va_S A s.heap H locs := by rw [hH, hlc]; exact hS
  rw [show W p l e _ s m _ below meth c s.heap [] = W p l e _ s m _ below meth c H locs from by rw [hH, hlc]]
  refine lv_iload_n hx hb dX6_thingAt_0 rfl (lv_at hl 1 rfl) ?_
  refine lv_if_lt (tgt := 19) hx hb dX6_thingAt_1 (by decide) (fun c1 => ?_) (fun c1 => ?_)
  · have hok := k_pos c1 hok
    exact J19  H locs ls hP hD hS (lv_sub hl [] rfl) hok
  · have hok := k_neg c1 hok
    refine lv_iload_n hx hb dX6_thingAt_4 rfl (lv_at hl 1 rfl) ?_
    refine lv_bipush (v := 36) hx hb dX6_thingAt_5 (by decide) ?_
    refine lv_icmp_ge (tgt := 19) hx hb dX6_thingAt_7 (by decide) (fun c7 => ?_) (fun c7 => ?_)
    · have hok := k_pos c7 hok
      exact J19  H locs ls hP hD hS (lv_sub hl [] rfl) hok
    · have hok := k_neg c7 hok
      refine lv_aload_n hx hb dX6_thingAt_10 rfl (lv_at hl 0 rfl) ?_
      refine va_get (D := D) (ci := 5) (v := .ref (qW 1)) (C := RX6) (T := TX6) (N := 13) hx hb ht0 niX6 hown hK hP 0 rfl rfl 1 (by decide) (ht0 _ wd92) (fun _ h9 => h9) rfl dX6_thingAt_11 ?_
      refine lv_iload_n hx hb dX6_thingAt_14 rfl (lv_at hl 1 rfl) ?_
      obtain ⟨g15, hok⟩ := gd_some hok
      refine va_iald hx hb hK hP 1 0 rfl rfl (okI_in g15) dX6_thingAt_15 ?_
      refine lv_goto (tgt := 20) hx hb dX6_thingAt_16 (by decide) ?_
      exact J20 (vW_who x1.toNatClampNeg) H locs ls hP hD hS (lv_sub hl [] rfl) hok
def wsX4_isTooLarge : List Cond := .code yX4_isTooLarge cX4_isTooLarge 3 (some .boolean) :: W0
abbrev wX4_isTooLarge (cy : Nat → ClassId) (aH : Nat) (qH : Nat → Nat) (vH : Nat → Int32) (vH_sizes : Nat → Int32) (vH_width : Nat → Int32) (vH_kinds : Nat → Int32) : va_W := [(aH, oX4 vH qH), (qH 15, rI cy 7 vH_sizes), (qH 11, rI cy 36 vH_width), (qH 14, rI cy 7 vH_kinds)]
set_option maxHeartbeats 4000000 in
set_option maxRecDepth 100000 in
theorem kX4_isTooLarge (l : Launch) (D : va_G) (cy : Nat → ClassId) (sz : Nat) (aH : Nat) (qH : Nat → Nat) (vH : Nat → Int32) (vH_sizes : Nat → Int32) (vH_width : Nat → Int32) (vH_kinds : Nat → Int32) (x1 : Int32) (x2 : Int32) (zr : Int32) (hok : fX4_isTooLarge vH vH_sizes vH_width vH_kinds x1 x2 = some zr) (A : Nat → Prop) (hAe : va_A (wX4_isTooLarge cy aH qH vH vH_sizes vH_width vH_kinds) sz = A) : Met l yX4_isTooLarge wsX4_isTooLarge ({ frames := 0, cells := 0, slots := 0, locals := 0 } : Room) (kPre D cy [.ref aH, .int x1, .int x2] (wX4_isTooLarge cy aH qH vH vH_sizes vH_width vH_kinds) sz) (kQi D cy zr A (wX4_isTooLarge cy aH qH vH vH_sizes vH_width vH_kinds)) 0 0 A := by
  refine Met.ofW (cc := cX4_isTooLarge) (maxL := 3) (ret := (some .boolean)) (by decide) rfl ?_
  intro p e s m args below meth c s₁ B hml hv
  obtain ⟨rfl, hsz, hP, hK, hD0, hN⟩ := hv
  have hx := B.exec
  have hb := B.bytes
  have hr := B.returns
  have ht0 : ∀ w ∈ W0, w.before _ s = true := fun w h => atoms_spec (ws := wsX4_isTooLarge) B.pre w (List.mem_cons_of_mem _ h)
  have hown : s.vm.findClass RX4 = some m.cls := findClass_of_methodNamed B.named
  have hlocks := B.notSynchronized
  subst hsz
  have hD : va_D A (wX4_isTooLarge cy aH qH vH vH_sizes vH_width vH_kinds) := by rw [← hAe]; exact hD0.self
  have hA : ∀ q : Nat, s.heap.size ≤ q → A q := fun q h => by rw [← hAe]; exact Or.inr h
  have hS : va_S A s.heap s.heap [] := va_S.rf
  have hl := lv_entry ([.ref aH, .int x1, .int x2]) (n := 3) (Nat.le_of_ble_eq_true rfl)
  rw [lg_entry_eq]
  generalize (lg_sl ([.ref aH, .int x1, .int x2]) ++ List.replicate (3 - (lg_sl ([.ref aH, .int x1, .int x2])).length) Slot.unset).toArray = ls at hl ⊢
  have hl : lv_has ls 3 [(0, .ref aH), (1, .int x1), (2, .int x2)] := hl
  generalize hQe : MQ below (kQi D cy zr A (wX4_isTooLarge cy aH qH vH vH_sizes vH_width vH_kinds)) ([.ref aH, .int x1, .int x2] : List Value).toArray s 0 0 A = Q
  have J52 : ∀ (t0_52 : Int32), ∀ (H : Heap) (locs : List Loc) (ls : Array Slot), va_P D vwCl (wX4_isTooLarge cy aH qH vH vH_sizes vH_width vH_kinds) H → va_D A (wX4_isTooLarge cy aH qH vH vH_sizes vH_width vH_kinds) → va_S A s.heap H locs → lv_has ls 3 [] → fX4_isTooLarge_J52 t0_52 = some zr → W p l e ({ frames := 0, cells := 0, slots := 0, locals := 0 } : Room) s m ([.ref aH, .int x1, .int x2] : List Value).toArray below meth c H locs 0 0 Q (F0 m 52 ls [.int t0_52]) := by
    intro t0_52 H locs ls hP hD hS hl hok
    unfold fX4_isTooLarge_J52 at hok
    obtain ⟨g52, hok⟩ := gd_some hok
    cases hok
    subst hQe; exact W.zret hx hb hr (isB_nar g52) (fun t ht hW => ⟨⟨_, (), rfl, rfl, by rw [ht]; exact hP, va_K.moved hW.alike hK, hD⟩, hS.F ht⟩) hS.2.2 dX4_isTooLarge_52
  have J51 : ∀ (H : Heap) (locs : List Loc) (ls : Array Slot), va_P D vwCl (wX4_isTooLarge cy aH qH vH vH_sizes vH_width vH_kinds) H → va_D A (wX4_isTooLarge cy aH qH vH vH_sizes vH_width vH_kinds) → va_S A s.heap H locs → lv_has ls 3 [] → fX4_isTooLarge_J51 = some zr → W p l e ({ frames := 0, cells := 0, slots := 0, locals := 0 } : Room) s m ([.ref aH, .int x1, .int x2] : List Value).toArray below meth c H locs 0 0 Q (F0 m 51 ls []) := by
    intro  H locs ls hP hD hS hl hok
    unfold fX4_isTooLarge_J51 at hok
    refine lv_iconst (v := 0) hx hb dX4_isTooLarge_51 (by decide) ?_
    exact J52 (0 : Int32) H locs ls hP hD hS (lv_sub hl [] rfl) hok
  have J20 : ∀ (H : Heap) (locs : List Loc) (ls : Array Slot), va_P D vwCl (wX4_isTooLarge cy aH qH vH vH_sizes vH_width vH_kinds) H → va_D A (wX4_isTooLarge cy aH qH vH vH_sizes vH_width vH_kinds) → va_S A s.heap H locs → lv_has ls 3 [] → fX4_isTooLarge_J20 = some zr → W p l e ({ frames := 0, cells := 0, slots := 0, locals := 0 } : Room) s m ([.ref aH, .int x1, .int x2] : List Value).toArray below meth c H locs 0 0 Q (F0 m 20 ls []) := by
    intro  H locs ls hP hD hS hl hok
    unfold fX4_isTooLarge_J20 at hok
    refine lv_iconst (v := 0) hx hb dX4_isTooLarge_20 (by decide) ?_
    cases hok
    subst hQe; exact W.zret hx hb hr rfl (fun t ht hW => ⟨⟨_, (), rfl, rfl, by rw [ht]; exact hP, va_K.moved hW.alike hK, hD⟩, hS.F ht⟩) hS.2.2 dX4_isTooLarge_21
  unfold fX4_isTooLarge at hok
  obtain ⟨H, hH⟩ : ∃ H, H = s.heap := ⟨_, rfl⟩
  obtain ⟨locs, hlc⟩ : ∃ x : List Loc, x = [] := ⟨_, rfl⟩
  have hP : va_P D vwCl (wX4_isTooLarge cy aH qH vH vH_sizes vH_width vH_kinds) H := by rw [hH]; exact hP
  have hS : va_S A s.heap H locs := by rw [hH, hlc]; exact hS
  rw [show W p l e _ s m _ below meth c s.heap [] = W p l e _ s m _ below meth c H locs from by rw [hH, hlc]]
  refine lv_iload_n hx hb dX4_isTooLarge_0 rfl (lv_at hl 1 rfl) ?_
  refine lv_if_lt (tgt := 20) hx hb dX4_isTooLarge_1 (by decide) (fun c1 => ?_) (fun c1 => ?_)
  · have hok := k_pos c1 hok
    exact J20  H locs ls hP hD hS (lv_sub hl [] rfl) hok
  · have hok := k_neg c1 hok
    refine lv_iload_n hx hb dX4_isTooLarge_4 rfl (lv_at hl 1 rfl) ?_
    refine lv_bipush (v := 7) hx hb dX4_isTooLarge_5 (by decide) ?_
    refine lv_icmp_ge (tgt := 20) hx hb dX4_isTooLarge_7 (by decide) (fun c7 => ?_) (fun c7 => ?_)
    · have hok := k_pos c7 hok
      exact J20  H locs ls hP hD hS (lv_sub hl [] rfl) hok
    · have hok := k_neg c7 hok
      refine lv_iload_n hx hb dX4_isTooLarge_10 rfl (lv_at hl 2 rfl) ?_
      refine lv_if_lt (tgt := 20) hx hb dX4_isTooLarge_11 (by decide) (fun c11 => ?_) (fun c11 => ?_)
      · have hok := k_pos c11 hok
        exact J20  H locs ls hP hD hS (lv_sub hl [] rfl) hok
      · have hok := k_neg c11 hok
        refine lv_iload_n hx hb dX4_isTooLarge_14 rfl (lv_at hl 2 rfl) ?_
        refine lv_bipush (v := 36) hx hb dX4_isTooLarge_15 (by decide) ?_
        refine lv_icmp_lt (tgt := 22) hx hb dX4_isTooLarge_17 (by decide) (fun c17 => ?_) (fun c17 => ?_)
        · have hok := k_pos c17 hok
          refine lv_aload_n hx hb dX4_isTooLarge_22 rfl (lv_at hl 0 rfl) ?_
          refine va_get (D := D) (ci := 3) (v := .ref (qH 15)) (C := RX4) (T := TX4) (N := 20) hx hb ht0 niX4 hown hK hP 0 rfl rfl 15 (by decide) (ht0 _ wd128) (fun _ h9 => h9) rfl dX4_isTooLarge_23 ?_
          refine lv_iload_n hx hb dX4_isTooLarge_26 rfl (lv_at hl 1 rfl) ?_
          obtain ⟨g27, hok⟩ := gd_some hok
          refine va_iald hx hb hK hP 1 0 rfl rfl (okI_in g27) dX4_isTooLarge_27 ?_
          refine lv_aload_n hx hb dX4_isTooLarge_28 rfl (lv_at hl 0 rfl) ?_
          refine va_get (D := D) (ci := 3) (v := .ref (qH 11)) (C := RX4) (T := TX4) (N := 20) hx hb ht0 niX4 hown hK hP 0 rfl rfl 11 (by decide) (ht0 _ wd129) (fun _ h9 => h9) rfl dX4_isTooLarge_29 ?_
          refine lv_iload_n hx hb dX4_isTooLarge_32 rfl (lv_at hl 2 rfl) ?_
          obtain ⟨g33, hok⟩ := gd_some hok
          refine va_iald hx hb hK hP 2 0 rfl rfl (okI_in g33) dX4_isTooLarge_33 ?_
          refine lv_icmp_le (tgt := 51) hx hb dX4_isTooLarge_34 (by decide) (fun c34 => ?_) (fun c34 => ?_)
          · have hok := k_pos c34 hok
            exact J51  H locs ls hP hD hS (lv_sub hl [] rfl) hok
          · have hok := k_neg c34 hok
            refine lv_aload_n hx hb dX4_isTooLarge_37 rfl (lv_at hl 0 rfl) ?_
            refine va_get (D := D) (ci := 3) (v := .ref (qH 14)) (C := RX4) (T := TX4) (N := 20) hx hb ht0 niX4 hown hK hP 0 rfl rfl 14 (by decide) (ht0 _ wd70) (fun _ h9 => h9) rfl dX4_isTooLarge_38 ?_
            refine lv_iload_n hx hb dX4_isTooLarge_41 rfl (lv_at hl 1 rfl) ?_
            obtain ⟨g42, hok⟩ := gd_some hok
            refine va_iald hx hb hK hP 3 0 rfl rfl (okI_in g42) dX4_isTooLarge_42 ?_
            refine lv_iconst (v := 3) hx hb dX4_isTooLarge_43 (by decide) ?_
            refine lv_icmp_eq (tgt := 51) hx hb dX4_isTooLarge_44 (by decide) (fun c44 => ?_) (fun c44 => ?_)
            · have hok := k_pos c44 hok
              exact J51  H locs ls hP hD hS (lv_sub hl [] rfl) hok
            · have hok := k_neg c44 hok
              refine lv_iconst (v := 1) hx hb dX4_isTooLarge_47 (by decide) ?_
              refine lv_goto (tgt := 52) hx hb dX4_isTooLarge_48 (by decide) ?_
              exact J52 (1 : Int32) H locs ls hP hD hS (lv_sub hl [] rfl) hok
        · have hok := k_neg c17 hok
          exact J20  H locs ls hP hD hS (lv_sub hl [] rfl) hok
def wsX6_withThoseBehind : List Cond := .code yX6_withThoseBehind cX6_withThoseBehind 7 (some .int) :: W0
abbrev wX6_withThoseBehind (cy : Nat → ClassId) (aW : Nat) (qW : Nat → Nat) (aH : Nat) (qH : Nat → Nat) (vW : Nat → Int32) (vH : Nat → Int32) (vW_inFront : Nat → Int32) : va_W := [(aW, oX6 vW qW aH), (aH, oX4 vH qH), (qW 2, rI cy 7 vW_inFront)]
set_option maxHeartbeats 4000000 in
set_option maxRecDepth 100000 in
theorem kX6_withThoseBehind (l : Launch) (D : va_G) (cy : Nat → ClassId) (sz : Nat) (aW : Nat) (qW : Nat → Nat) (aH : Nat) (qH : Nat → Nat) (vW : Nat → Int32) (vH : Nat → Int32) (vW_inFront : Nat → Int32) (x1 : Int32) (zr : Int32) (hok : fX6_withThoseBehind vW vH vW_inFront x1 = some zr) (A : Nat → Prop) (hAe : va_A (wX6_withThoseBehind cy aW qW aH qH vW vH vW_inFront) sz = A) : Met l yX6_withThoseBehind wsX6_withThoseBehind ({ frames := 0, cells := 0, slots := 0, locals := 0 } : Room) (kPre D cy [.ref aW, .int x1] (wX6_withThoseBehind cy aW qW aH qH vW vH vW_inFront) sz) (kQi D cy zr A (wX6_withThoseBehind cy aW qW aH qH vW vH vW_inFront)) 0 0 A := by
  refine Met.ofW (cc := cX6_withThoseBehind) (maxL := 7) (ret := (some .int)) (by decide) rfl ?_
  intro p e s m args below meth c s₁ B hml hv
  obtain ⟨rfl, hsz, hP, hK, hD0, hN⟩ := hv
  have hx := B.exec
  have hb := B.bytes
  have hr := B.returns
  have ht0 : ∀ w ∈ W0, w.before _ s = true := fun w h => atoms_spec (ws := wsX6_withThoseBehind) B.pre w (List.mem_cons_of_mem _ h)
  have hown : s.vm.findClass RX6 = some m.cls := findClass_of_methodNamed B.named
  have hlocks := B.notSynchronized
  subst hsz
  have hD : va_D A (wX6_withThoseBehind cy aW qW aH qH vW vH vW_inFront) := by rw [← hAe]; exact hD0.self
  have hA : ∀ q : Nat, s.heap.size ≤ q → A q := fun q h => by rw [← hAe]; exact Or.inr h
  have hS : va_S A s.heap s.heap [] := va_S.rf
  have hl := lv_entry ([.ref aW, .int x1]) (n := 7) (Nat.le_of_ble_eq_true rfl)
  rw [lg_entry_eq]
  generalize (lg_sl ([.ref aW, .int x1]) ++ List.replicate (7 - (lg_sl ([.ref aW, .int x1])).length) Slot.unset).toArray = ls at hl ⊢
  have hl : lv_has ls 7 [(0, .ref aW), (1, .int x1)] := hl
  generalize hQe : MQ below (kQi D cy zr A (wX6_withThoseBehind cy aW qW aH qH vW vH vW_inFront)) ([.ref aW, .int x1] : List Value).toArray s 0 0 A = Q
  have J103 : ∀ (y2_103 : Int32), ∀ (H : Heap) (locs : List Loc) (ls : Array Slot), va_P D vwCl (wX6_withThoseBehind cy aW qW aH qH vW vH vW_inFront) H → va_D A (wX6_withThoseBehind cy aW qW aH qH vW vH vW_inFront) → va_S A s.heap H locs → lv_has ls 7 [(2, .int y2_103)] → fX6_withThoseBehind_J103 y2_103 = some zr → W p l e ({ frames := 0, cells := 0, slots := 0, locals := 0 } : Room) s m ([.ref aW, .int x1] : List Value).toArray below meth c H locs 0 0 Q (F0 m 103 ls []) := by
    intro y2_103 H locs ls hP hD hS hl hok
    unfold fX6_withThoseBehind_J103 at hok
    refine lv_iload_n hx hb dX6_withThoseBehind_103 rfl (lv_at hl 0 rfl) ?_
    cases hok
    subst hQe; exact W.iret hx hb hr (fun t ht hW => ⟨⟨_, (), rfl, rfl, by rw [ht]; exact hP, va_K.moved hW.alike hK, hD⟩, hS.F ht⟩) hS.2.2 dX6_withThoseBehind_104
  have L15 : ∀ (fuel : Nat) (y2_15 : Int32) (y3_15 : Int32) (y4_15 : Int32), ∀ (H : Heap) (locs : List Loc) (ls : Array Slot), va_P D vwCl (wX6_withThoseBehind cy aW qW aH qH vW vH vW_inFront) H → va_D A (wX6_withThoseBehind cy aW qW aH qH vW vH vW_inFront) → va_S A s.heap H locs → lv_has ls 7 [(0, .ref aW), (2, .int y2_15), (3, .int y3_15), (4, .int y4_15)] → lp (fX6_withThoseBehind_B15 vH vW_inFront) fuel (y2_15, y3_15, y4_15) = some zr → W p l e ({ frames := 0, cells := 0, slots := 0, locals := 0 } : Room) s m ([.ref aW, .int x1] : List Value).toArray below meth c H locs 0 0 Q (F0 m 15 ls []) := by
    intro fuel
    induction fuel with
    | zero => intro y2_15 y3_15 y4_15 H locs ls hP hD hS hl hok; exact (lp_0 hok).elim
    | succ fuel ih15 =>
      intro y2_15 y3_15 y4_15 H locs ls hP hD hS hl hok
      obtain ⟨y15, hok, hL15, hR15⟩ := lp_step hok
      have J97 : ∀ (y2_97 : Int32) (y3_97 : Int32), ∀ (H : Heap) (locs : List Loc) (ls : Array Slot), va_P D vwCl (wX6_withThoseBehind cy aW qW aH qH vW vH vW_inFront) H → va_D A (wX6_withThoseBehind cy aW qW aH qH vW vH vW_inFront) → va_S A s.heap H locs → lv_has ls 7 [(0, .ref aW), (2, .int y2_97), (3, .int y3_97), (4, .int y4_15)] → fX6_withThoseBehind_J97 y4_15 y2_97 y3_97 = some y15 → W p l e ({ frames := 0, cells := 0, slots := 0, locals := 0 } : Room) s m ([.ref aW, .int x1] : List Value).toArray below meth c H locs 0 0 Q (F0 m 97 ls []) := by
        intro y2_97 y3_97 H locs ls hP hD hS hl hok
        unfold fX6_withThoseBehind_J97 at hok
        refine lv_iinc (v := (y4_15 + 1)) (lv' := [(4, .int (y4_15 + 1)), (0, .ref aW), (2, .int y2_97), (3, .int y3_97)]) hx hb dX6_withThoseBehind_97 hl (k := 3) rfl (by first | rfl | decide) (by decide) rfl (fun ls hl => ?_)
        refine lv_goto (tgt := 15) hx hb dX6_withThoseBehind_100 (by decide) ?_
        exact ih15 y2_97 y3_97 (y4_15 + 1) H locs ls hP hD hS (lv_sub hl [1, 2, 3, 0] rfl) (hR15 _ (Option.some.inj hok).symm)
      have L31 : ∀ (fuel : Nat) (y2_31 : Int32) (y3_31 : Int32) (y5_31 : Int32), ∀ (H : Heap) (locs : List Loc) (ls : Array Slot), va_P D vwCl (wX6_withThoseBehind cy aW qW aH qH vW vH vW_inFront) H → va_D A (wX6_withThoseBehind cy aW qW aH qH vW vH vW_inFront) → va_S A s.heap H locs → lv_has ls 7 [(0, .ref aW), (2, .int y2_31), (3, .int y3_31), (4, .int y4_15), (5, .int y5_31)] → lp (fX6_withThoseBehind_B31 vH vW_inFront y4_15) fuel (y2_31, y3_31, y5_31) = some y15 → W p l e ({ frames := 0, cells := 0, slots := 0, locals := 0 } : Room) s m ([.ref aW, .int x1] : List Value).toArray below meth c H locs 0 0 Q (F0 m 31 ls []) := by
        intro fuel
        induction fuel with
        | zero => intro y2_31 y3_31 y5_31 H locs ls hP hD hS hl hok; exact (lp_0 hok).elim
        | succ fuel ih31 =>
          intro y2_31 y3_31 y5_31 H locs ls hP hD hS hl hok
          obtain ⟨y31, hok, hL31, hR31⟩ := lp_step hok
          have J91 : ∀ (y2_91 : Int32) (y3_91 : Int32), ∀ (H : Heap) (locs : List Loc) (ls : Array Slot), va_P D vwCl (wX6_withThoseBehind cy aW qW aH qH vW vH vW_inFront) H → va_D A (wX6_withThoseBehind cy aW qW aH qH vW vH vW_inFront) → va_S A s.heap H locs → lv_has ls 7 [(0, .ref aW), (2, .int y2_91), (3, .int y3_91), (4, .int y4_15), (5, .int y5_31)] → fX6_withThoseBehind_J91 y5_31 y2_91 y3_91 = some y31 → W p l e ({ frames := 0, cells := 0, slots := 0, locals := 0 } : Room) s m ([.ref aW, .int x1] : List Value).toArray below meth c H locs 0 0 Q (F0 m 91 ls []) := by
            intro y2_91 y3_91 H locs ls hP hD hS hl hok
            unfold fX6_withThoseBehind_J91 at hok
            refine lv_iinc (v := (y5_31 + 1)) (lv' := [(5, .int (y5_31 + 1)), (0, .ref aW), (2, .int y2_91), (3, .int y3_91), (4, .int y4_15)]) hx hb dX6_withThoseBehind_91 hl (k := 4) rfl (by first | rfl | decide) (by decide) rfl (fun ls hl => ?_)
            refine lv_goto (tgt := 31) hx hb dX6_withThoseBehind_94 (by decide) ?_
            exact ih31 y2_91 y3_91 (y5_31 + 1) H locs ls hP hD hS (lv_sub hl [1, 2, 3, 4, 0] rfl) (hR31 _ (Option.some.inj hok).symm)
          unfold fX6_withThoseBehind_B31 at hok
          try dsimp only at hok
          refine lv_iload hx hb dX6_withThoseBehind_31 (lv_at hl 4 rfl) ?_
          refine lv_aload_n hx hb dX6_withThoseBehind_33 rfl (lv_at hl 0 rfl) ?_
          refine va_get (D := D) (ci := 5) (v := .ref aH) (C := RX6) (T := TX6) (N := 13) hx hb ht0 niX6 hown hK hP 0 rfl rfl 4 (by decide) (ht0 _ wd101) (fun _ h9 => h9) rfl dX6_withThoseBehind_34 ?_
          refine va_get (D := D) (ci := 3) (v := .int (vH 5)) (C := RX4) (T := TX4) (N := 20) hx hb ht0 niX4 hown hK hP 1 rfl rfl 5 (by decide) (ht0 _ wd107) (fun _ h9 => h9) rfl dX6_withThoseBehind_37 ?_
          refine lv_icmp_ge (tgt := 97) hx hb dX6_withThoseBehind_40 (by decide) (fun c40 => ?_) (fun c40 => ?_)
          · have hok := k_pos c40 hok
            obtain ⟨e31, hok, he31⟩ := ex_some hok
            have hok := hok.trans (congrArg some (hL31 _ he31))
            exact J97 y2_31 y3_31 H locs ls hP hD hS (lv_sub hl [0, 1, 2, 3] rfl) hok
          · have hok := k_neg c40 hok
            refine lv_iload hx hb dX6_withThoseBehind_43 (lv_at hl 4 rfl) ?_
            refine lv_bipush (v := 7) hx hb dX6_withThoseBehind_45 (by decide) ?_
            refine lv_icmp_ge (tgt := 97) hx hb dX6_withThoseBehind_47 (by decide) (fun c47 => ?_) (fun c47 => ?_)
            · have hok := k_pos c47 hok
              obtain ⟨e31, hok, he31⟩ := ex_some hok
              have hok := hok.trans (congrArg some (hL31 _ he31))
              exact J97 y2_31 y3_31 H locs ls hP hD hS (lv_sub hl [0, 1, 2, 3] rfl) hok
            · have hok := k_neg c47 hok
              refine lv_aload_n hx hb dX6_withThoseBehind_50 rfl (lv_at hl 0 rfl) ?_
              refine va_get (D := D) (ci := 5) (v := .ref (qW 2)) (C := RX6) (T := TX6) (N := 13) hx hb ht0 niX6 hown hK hP 0 rfl rfl 2 (by decide) (ht0 _ wd130) (fun _ h9 => h9) rfl dX6_withThoseBehind_51 ?_
              refine lv_iload hx hb dX6_withThoseBehind_54 (lv_at hl 4 rfl) ?_
              obtain ⟨g56, hok⟩ := gd_some hok
              refine va_iald hx hb hK hP 2 0 rfl rfl (okI_in g56) dX6_withThoseBehind_56 ?_
              refine lv_istore (lv' := [(6, .int (vW_inFront y5_31.toNatClampNeg)), (0, .ref aW), (2, .int y2_31), (3, .int y3_31), (4, .int y4_15), (5, .int y5_31)]) hx hb dX6_withThoseBehind_57 hl (by decide) rfl (fun ls hl => ?_)
              refine lv_iload hx hb dX6_withThoseBehind_59 (lv_at hl 0 rfl) ?_
              refine lv_if_lt (tgt := 91) hx hb dX6_withThoseBehind_61 (by decide) (fun c61 => ?_) (fun c61 => ?_)
              · have hok := k_pos c61 hok
                exact J91 y2_31 y3_31 H locs ls hP hD hS (lv_sub hl [1, 2, 3, 4, 5] rfl) hok
              · have hok := k_neg c61 hok
                refine lv_iload_n hx hb dX6_withThoseBehind_64 rfl (lv_at hl 2 rfl) ?_
                refine lv_iload hx hb dX6_withThoseBehind_65 (lv_at hl 0 rfl) ?_
                refine lv_ishr hx hb dX6_withThoseBehind_67 ?_
                refine lv_iconst (v := 1) hx hb dX6_withThoseBehind_68 (by decide) ?_
                refine lv_iand hx hb dX6_withThoseBehind_69 ?_
                refine lv_if_eq (tgt := 91) hx hb dX6_withThoseBehind_70 (by decide) (fun c70 => ?_) (fun c70 => ?_)
                · have hok := k_pos c70 hok
                  exact J91 y2_31 y3_31 H locs ls hP hD hS (lv_sub hl [1, 2, 3, 4, 5] rfl) hok
                · have hok := k_neg c70 hok
                  refine lv_iload_n hx hb dX6_withThoseBehind_73 rfl (lv_at hl 2 rfl) ?_
                  refine lv_iload hx hb dX6_withThoseBehind_74 (lv_at hl 5 rfl) ?_
                  refine lv_ishr hx hb dX6_withThoseBehind_76 ?_
                  refine lv_iconst (v := 1) hx hb dX6_withThoseBehind_77 (by decide) ?_
                  refine lv_iand hx hb dX6_withThoseBehind_78 ?_
                  refine lv_if_ne (tgt := 91) hx hb dX6_withThoseBehind_79 (by decide) (fun c79 => ?_) (fun c79 => ?_)
                  · have hok := k_neg c79 hok
                    exact J91 y2_31 y3_31 H locs ls hP hD hS (lv_sub hl [1, 2, 3, 4, 5] rfl) hok
                  · have hok := k_pos c79 hok
                    refine lv_iload_n hx hb dX6_withThoseBehind_82 rfl (lv_at hl 2 rfl) ?_
                    refine lv_iconst (v := 1) hx hb dX6_withThoseBehind_83 (by decide) ?_
                    refine lv_iload hx hb dX6_withThoseBehind_84 (lv_at hl 5 rfl) ?_
                    refine lv_ishl hx hb dX6_withThoseBehind_86 ?_
                    refine lv_ior hx hb dX6_withThoseBehind_87 ?_
                    refine lv_istore_n (lv' := [(2, .int (y2_31 ||| (isl (1 : Int32) y5_31))), (6, .int (vW_inFront y5_31.toNatClampNeg)), (0, .ref aW), (3, .int y3_31), (4, .int y4_15), (5, .int y5_31)]) hx hb dX6_withThoseBehind_88 rfl hl (by decide) rfl (fun ls hl => ?_)
                    refine lv_iconst (v := 1) hx hb dX6_withThoseBehind_89 (by decide) ?_
                    refine lv_istore_n (lv' := [(3, .int 1), (2, .int (y2_31 ||| (isl (1 : Int32) y5_31))), (6, .int (vW_inFront y5_31.toNatClampNeg)), (0, .ref aW), (4, .int y4_15), (5, .int y5_31)]) hx hb dX6_withThoseBehind_90 rfl hl (by decide) rfl (fun ls hl => ?_)
                    exact J91 (y2_31 ||| (isl (1 : Int32) y5_31)) (1 : Int32) H locs ls hP hD hS (lv_sub hl [3, 1, 0, 4, 5] rfl) hok
      unfold fX6_withThoseBehind_B15 at hok
      try dsimp only at hok
      refine lv_iload hx hb dX6_withThoseBehind_15 (lv_at hl 3 rfl) ?_
      refine lv_bipush (v := 7) hx hb dX6_withThoseBehind_17 (by decide) ?_
      refine lv_icmp_ge (tgt := 103) hx hb dX6_withThoseBehind_19 (by decide) (fun c19 => ?_) (fun c19 => ?_)
      · have hok := k_pos c19 hok
        obtain ⟨e15, hok, he15⟩ := ex_some hok
        have hok := hok.trans (congrArg some (hL15 _ he15))
        exact J103 y2_15 H locs ls hP hD hS (lv_sub hl [1] rfl) hok
      · have hok := k_neg c19 hok
        refine lv_iload_n hx hb dX6_withThoseBehind_22 rfl (lv_at hl 2 rfl) ?_
        refine lv_if_eq (tgt := 103) hx hb dX6_withThoseBehind_23 (by decide) (fun c23 => ?_) (fun c23 => ?_)
        · have hok := k_pos c23 hok
          obtain ⟨e15, hok, he15⟩ := ex_some hok
          have hok := hok.trans (congrArg some (hL15 _ he15))
          exact J103 y2_15 H locs ls hP hD hS (lv_sub hl [1] rfl) hok
        · have hok := k_neg c23 hok
          refine lv_iconst (v := 0) hx hb dX6_withThoseBehind_26 (by decide) ?_
          refine lv_istore_n (lv' := [(3, .int 0), (0, .ref aW), (2, .int y2_15), (4, .int y4_15)]) hx hb dX6_withThoseBehind_27 rfl hl (by decide) rfl (fun ls hl => ?_)
          refine lv_iconst (v := 0) hx hb dX6_withThoseBehind_28 (by decide) ?_
          refine lv_istore (lv' := [(5, .int 0), (3, .int 0), (0, .ref aW), (2, .int y2_15), (4, .int y4_15)]) hx hb dX6_withThoseBehind_29 hl (by decide) rfl (fun ls hl => ?_)
          exact L31 5000 y2_15 (0 : Int32) (0 : Int32) H locs ls hP hD hS (lv_sub hl [2, 3, 1, 4, 0] rfl) hok
  have J11 : ∀ (t0_11 : Int32), ∀ (H : Heap) (locs : List Loc) (ls : Array Slot), va_P D vwCl (wX6_withThoseBehind cy aW qW aH qH vW vH vW_inFront) H → va_D A (wX6_withThoseBehind cy aW qW aH qH vW vH vW_inFront) → va_S A s.heap H locs → lv_has ls 7 [(0, .ref aW), (2, .int x1)] → fX6_withThoseBehind_J11 vH vW_inFront x1 t0_11 = some zr → W p l e ({ frames := 0, cells := 0, slots := 0, locals := 0 } : Room) s m ([.ref aW, .int x1] : List Value).toArray below meth c H locs 0 0 Q (F0 m 11 ls [.int t0_11]) := by
    intro t0_11 H locs ls hP hD hS hl hok
    unfold fX6_withThoseBehind_J11 at hok
    refine lv_istore_n (lv' := [(3, .int t0_11), (0, .ref aW), (2, .int x1)]) hx hb dX6_withThoseBehind_11 rfl hl (by decide) rfl (fun ls hl => ?_)
    refine lv_iconst (v := 0) hx hb dX6_withThoseBehind_12 (by decide) ?_
    refine lv_istore (lv' := [(4, .int 0), (3, .int t0_11), (0, .ref aW), (2, .int x1)]) hx hb dX6_withThoseBehind_13 hl (by decide) rfl (fun ls hl => ?_)
    exact L15 5000 x1 t0_11 (0 : Int32) H locs ls hP hD hS (lv_sub hl [2, 3, 1, 0] rfl) hok
  unfold fX6_withThoseBehind at hok
  obtain ⟨H, hH⟩ : ∃ H, H = s.heap := ⟨_, rfl⟩
  obtain ⟨locs, hlc⟩ : ∃ x : List Loc, x = [] := ⟨_, rfl⟩
  have hP : va_P D vwCl (wX6_withThoseBehind cy aW qW aH qH vW vH vW_inFront) H := by rw [hH]; exact hP
  have hS : va_S A s.heap H locs := by rw [hH, hlc]; exact hS
  rw [show W p l e _ s m _ below meth c s.heap [] = W p l e _ s m _ below meth c H locs from by rw [hH, hlc]]
  refine lv_iload_n hx hb dX6_withThoseBehind_0 rfl (lv_at hl 1 rfl) ?_
  refine lv_istore_n (lv' := [(2, .int x1), (0, .ref aW), (1, .int x1)]) hx hb dX6_withThoseBehind_1 rfl hl (by decide) rfl (fun ls hl => ?_)
  refine lv_iload_n hx hb dX6_withThoseBehind_2 rfl (lv_at hl 0 rfl) ?_
  refine lv_if_eq (tgt := 10) hx hb dX6_withThoseBehind_3 (by decide) (fun c3 => ?_) (fun c3 => ?_)
  · have hok := k_pos c3 hok
    refine lv_iconst (v := 0) hx hb dX6_withThoseBehind_10 (by decide) ?_
    exact J11 (0 : Int32) H locs ls hP hD hS (lv_sub hl [1, 0] rfl) hok
  · have hok := k_neg c3 hok
    refine lv_iconst (v := 1) hx hb dX6_withThoseBehind_6 (by decide) ?_
    refine lv_goto (tgt := 11) hx hb dX6_withThoseBehind_7 (by decide) ?_
    exact J11 (1 : Int32) H locs ls hP hD hS (lv_sub hl [1, 0] rfl) hok
def wsX6_decide : List Cond := .code yX6_decide cX6_decide 6 none :: W0
abbrev wX6_decide (cy : Nat → ClassId) (aW : Nat) (qW : Nat → Nat) (aH : Nat) (qH : Nat → Nat) (vW : Nat → Int32) (vH : Nat → Int32) (vW_cells : Nat → Int32) (vH_next : Nat → Int32) (vW_who : Nat → Int32) (vW_inFront : Nat → Int32) (vH_sizes : Nat → Int32) (vH_width : Nat → Int32) (vH_kinds : Nat → Int32) : va_W := [(aW, oX6 vW qW aH), (aH, oX4 vH qH), (qW 0, rI cy 7 vW_cells), (qH 10, rI cy 36 vH_next), (qW 1, rI cy 36 vW_who), (qW 2, rI cy 7 vW_inFront), (qH 15, rI cy 7 vH_sizes), (qH 11, rI cy 36 vH_width), (qH 14, rI cy 7 vH_kinds)]
set_option maxHeartbeats 4000000 in
set_option maxRecDepth 100000 in
theorem kX6_decide (l : Launch) (D : va_G) (cy : Nat → ClassId) (sz : Nat) (aW : Nat) (qW : Nat → Nat) (aH : Nat) (qH : Nat → Nat) (vW : Nat → Int32) (vH : Nat → Int32) (vW_cells : Nat → Int32) (vH_next : Nat → Int32) (vW_who : Nat → Int32) (vW_inFront : Nat → Int32) (vH_sizes : Nat → Int32) (vH_width : Nat → Int32) (vH_kinds : Nat → Int32) (x1 : Int32) (z_vW : Nat → Int32) (z_vW_inFront : Nat → Int32) (hok : fX6_decide vW vH vW_cells vH_next vW_who vW_inFront vH_sizes vH_width vH_kinds x1 = some (z_vW, z_vW_inFront)) (A : Nat → Prop) (hAe : va_A (wX6_decide cy aW qW aH qH vW vH vW_cells vH_next vW_who vW_inFront vH_sizes vH_width vH_kinds) sz = A) : Met l yX6_decide wsX6_decide ({ frames := 1, cells := 0, slots := 0, locals := 26 } : Room) (kPre D cy [.ref aW, .int x1] (wX6_decide cy aW qW aH qH vW vH vW_cells vH_next vW_who vW_inFront vH_sizes vH_width vH_kinds) sz) (kQv D cy A (wX6_decide cy aW qW aH qH z_vW vH vW_cells vH_next vW_who z_vW_inFront vH_sizes vH_width vH_kinds)) 0 0 A := by
  refine Met.ofW (cc := cX6_decide) (maxL := 6) (ret := none) (by decide) rfl ?_
  intro p e s m args below meth c s₁ B hml hv
  obtain ⟨rfl, hsz, hP, hK, hD0, hN⟩ := hv
  have hx := B.exec
  have hb := B.bytes
  have hr := B.returns
  have ht0 : ∀ w ∈ W0, w.before _ s = true := fun w h => atoms_spec (ws := wsX6_decide) B.pre w (List.mem_cons_of_mem _ h)
  have hown : s.vm.findClass RX6 = some m.cls := findClass_of_methodNamed B.named
  have hlocks := B.notSynchronized
  subst hsz
  have hD : va_D A (wX6_decide cy aW qW aH qH vW vH vW_cells vH_next vW_who vW_inFront vH_sizes vH_width vH_kinds) := by rw [← hAe]; exact hD0.self
  have hA : ∀ q : Nat, s.heap.size ≤ q → A q := fun q h => by rw [← hAe]; exact Or.inr h
  have hS : va_S A s.heap s.heap [] := va_S.rf
  have hl := lv_entry ([.ref aW, .int x1]) (n := 6) (Nat.le_of_ble_eq_true rfl)
  rw [lg_entry_eq]
  generalize (lg_sl ([.ref aW, .int x1]) ++ List.replicate (6 - (lg_sl ([.ref aW, .int x1])).length) Slot.unset).toArray = ls at hl ⊢
  have hl : lv_has ls 6 [(0, .ref aW), (1, .int x1)] := hl
  generalize hQe : MQ below (kQv D cy A (wX6_decide cy aW qW aH qH z_vW vH vW_cells vH_next vW_who z_vW_inFront vH_sizes vH_width vH_kinds)) ([.ref aW, .int x1] : List Value).toArray s 0 0 A = Q
  have J144 : ∀ (y3_144 : Int32) (vW_inFront_144 : Nat → Int32), ∀ (H : Heap) (locs : List Loc) (ls : Array Slot), va_P D vwCl (wX6_decide cy aW qW aH qH vW vH vW_cells vH_next vW_who vW_inFront_144 vH_sizes vH_width vH_kinds) H → va_D A (wX6_decide cy aW qW aH qH vW vH vW_cells vH_next vW_who vW_inFront_144 vH_sizes vH_width vH_kinds) → va_S A s.heap H locs → lv_has ls 6 [(0, .ref aW), (3, .int y3_144)] → fX6_decide_J144 vW vH y3_144 vW_inFront_144 = some (z_vW, z_vW_inFront) → W p l e ({ frames := 1, cells := 0, slots := 0, locals := 26 } : Room) s m ([.ref aW, .int x1] : List Value).toArray below meth c H locs 0 0 Q (F0 m 144 ls []) := by
    intro y3_144 vW_inFront_144 H locs ls hP hD hS hl hok
    unfold fX6_decide_J144 at hok
    refine lv_aload_n hx hb dX6_decide_144 rfl (lv_at hl 0 rfl) ?_
    refine lv_iload_n hx hb dX6_decide_145 rfl (lv_at hl 1 rfl) ?_
    refine va_put (D := D) (ci := 5) (v := .int y3_144) (ty := .int) (C := RX6) (T := TX6) (N := 13) hx hb ht0 niX6 tyX6 tyX6_ok nmX6 hown hK hP hD hS 0 rfl rfl 11 (by decide) (ht0 _ wd131) (fun _ h9 => h9) rfl (by decide +kernel) rfl rfl (Nat.le_of_ble_eq_true rfl) dX6_decide_146 (fun H locs hP hD hS => ?_)
    have hP : va_P D vwCl (wX6_decide cy aW qW aH qH (upd vW 11 y3_144) vH vW_cells vH_next vW_who vW_inFront_144 vH_sizes vH_width vH_kinds) H := hP
    have hD : va_D A (wX6_decide cy aW qW aH qH (upd vW 11 y3_144) vH vW_cells vH_next vW_who vW_inFront_144 vH_sizes vH_width vH_kinds) := hD
    refine lv_aload_n hx hb dX6_decide_149 rfl (lv_at hl 0 rfl) ?_
    refine lv_iconst (v := 1) hx hb dX6_decide_150 (by decide) ?_
    refine lv_aload_n hx hb dX6_decide_151 rfl (lv_at hl 0 rfl) ?_
    refine va_get (D := D) (ci := 5) (v := .ref aH) (C := RX6) (T := TX6) (N := 13) hx hb ht0 niX6 hown hK hP 0 rfl rfl 4 (by decide) (ht0 _ wd101) (fun _ h9 => h9) rfl dX6_decide_152 ?_
    refine va_get (D := D) (ci := 3) (v := .int (vH 5)) (C := RX4) (T := TX4) (N := 20) hx hb ht0 niX4 hown hK hP 1 rfl rfl 5 (by decide) (ht0 _ wd107) (fun _ h9 => h9) rfl dX6_decide_155 ?_
    refine lv_ishl hx hb dX6_decide_158 ?_
    refine lv_iconst (v := 1) hx hb dX6_decide_159 (by decide) ?_
    refine lv_isub hx hb dX6_decide_160 ?_
    refine lv_aload_n hx hb dX6_decide_161 rfl (lv_at hl 0 rfl) ?_
    refine lv_iload_n hx hb dX6_decide_162 rfl (lv_at hl 1 rfl) ?_
    obtain ⟨r163, hc163, hok⟩ := k_bind hok
    refine kCi (wc := (wX6_withThoseBehind cy aW qW aH qH (upd vW 11 y3_144) vH vW_inFront_144)) (wc2 := (wX6_withThoseBehind cy aW qW aH qH (upd vW 11 y3_144) vH vW_inFront_144)) (wr := [(qW 0, rI cy 7 vW_cells), (qH 10, rI cy 36 vH_next), (qW 1, rI cy 36 vW_who), (qH 15, rI cy 7 vH_sizes), (qH 11, rI cy 36 vH_width), (qH 14, rI cy 7 vH_kinds)]) (ws2 := (wX6_decide cy aW qW aH qH (upd vW 11 y3_144) vH vW_cells vH_next vW_who vW_inFront_144 vH_sizes vH_width vH_kinds)) (kRunV (As := [.int y3_144]) (rest := [.int ((isl (1 : Int32) (vH 5)) - (1 : Int32)), .ref aW]) ⟨hx, hb, hml, hown, ht0⟩ (kX6_withThoseBehind l D cy _ aW qW aH qH (upd vW 11 y3_144) vH vW_inFront_144 y3_144 r163 hc163 _ rfl) (cwV 1 ht0 (gV wd132 wd133 wd134 wd114 wd135) rfl rfl rfl (by decide +kernel) ⟨Nat.le_of_ble_eq_true rfl, Nat.le_of_ble_eq_true rfl⟩) hK hN hP hD [0, 1, 5] rfl (by decide) 0 5 rfl rfl rfl hl.1 rfl (Nat.le_of_ble_eq_true rfl) dX6_decide_163 ⟨Nat.zero_le _, Nat.zero_le _⟩) hP hD hS hA [0, 1, 5] [2, 3, 4, 6, 7, 8] rfl rfl (by decide) (by decide) [6, 7, 0, 1, 2, 8, 3, 4, 5] (by decide) rfl rfl (fun H locs hP hD hS => ?_)
    refine lv_iconst (v := -1) hx hb dX6_decide_166 (by decide) ?_
    refine lv_ixor hx hb dX6_decide_167 ?_
    refine lv_iand hx hb dX6_decide_168 ?_
    refine va_put (D := D) (ci := 5) (v := .int (((isl (1 : Int32) (vH 5)) - (1 : Int32)) &&& (r163 ^^^ (-1 : Int32)))) (ty := .int) (C := RX6) (T := TX6) (N := 13) hx hb ht0 niX6 tyX6 tyX6_ok nmX6 hown hK hP hD hS 0 rfl rfl 12 (by decide) (ht0 _ wd136) (fun _ h9 => h9) rfl (by decide +kernel) rfl rfl (Nat.le_of_ble_eq_true rfl) dX6_decide_169 (fun H locs hP hD hS => ?_)
    have hP : va_P D vwCl (wX6_decide cy aW qW aH qH (upd (upd vW 11 y3_144) 12 (((isl (1 : Int32) (vH 5)) - (1 : Int32)) &&& (r163 ^^^ (-1 : Int32)))) vH vW_cells vH_next vW_who vW_inFront_144 vH_sizes vH_width vH_kinds) H := hP
    have hD : va_D A (wX6_decide cy aW qW aH qH (upd (upd vW 11 y3_144) 12 (((isl (1 : Int32) (vH 5)) - (1 : Int32)) &&& (r163 ^^^ (-1 : Int32)))) vH vW_cells vH_next vW_who vW_inFront_144 vH_sizes vH_width vH_kinds) := hD
    cases hok
    subst hQe; exact W.vret hx hb hr (fun t ht hW => ⟨⟨(), rfl, trivial, by rw [ht]; exact hP, va_K.moved hW.alike hK, hD⟩, hS.F ht⟩) hS.2.2 dX6_decide_172
  have J115 : ∀ (y3_115 : Int32) (vW_inFront_115 : Nat → Int32), ∀ (H : Heap) (locs : List Loc) (ls : Array Slot), va_P D vwCl (wX6_decide cy aW qW aH qH vW vH vW_cells vH_next vW_who vW_inFront_115 vH_sizes vH_width vH_kinds) H → va_D A (wX6_decide cy aW qW aH qH vW vH vW_cells vH_next vW_who vW_inFront_115 vH_sizes vH_width vH_kinds) → va_S A s.heap H locs → lv_has ls 6 [(0, .ref aW), (2, .int ((vW 5) + (1 : Int32))), (3, .int y3_115)] → fX6_decide_J115 vW vH y3_115 vW_inFront_115 = some (z_vW, z_vW_inFront) → W p l e ({ frames := 1, cells := 0, slots := 0, locals := 26 } : Room) s m ([.ref aW, .int x1] : List Value).toArray below meth c H locs 0 0 Q (F0 m 115 ls []) := by
    intro y3_115 vW_inFront_115 H locs ls hP hD hS hl hok
    unfold fX6_decide_J115 at hok
    refine lv_aload_n hx hb dX6_decide_115 rfl (lv_at hl 0 rfl) ?_
    refine va_get (D := D) (ci := 5) (v := .ref aH) (C := RX6) (T := TX6) (N := 13) hx hb ht0 niX6 hown hK hP 0 rfl rfl 4 (by decide) (ht0 _ wd101) (fun _ h9 => h9) rfl dX6_decide_116 ?_
    refine va_get (D := D) (ci := 3) (v := .int (vH 0)) (C := RX4) (T := TX4) (N := 20) hx hb ht0 niX4 hown hK hP 1 rfl rfl 0 (by decide) (ht0 _ wd137) (fun _ h9 => h9) rfl dX6_decide_119 ?_
    refine lv_if_le (tgt := 144) hx hb dX6_decide_122 (by decide) (fun c122 => ?_) (fun c122 => ?_)
    · have hok := k_pos c122 hok
      exact J144 y3_115 vW_inFront_115 H locs ls hP hD hS (lv_sub hl [0, 2] rfl) hok
    · have hok := k_neg c122 hok
      refine lv_iload_n hx hb dX6_decide_125 rfl (lv_at hl 1 rfl) ?_
      refine lv_aload_n hx hb dX6_decide_126 rfl (lv_at hl 0 rfl) ?_
      refine va_get (D := D) (ci := 5) (v := .ref aH) (C := RX6) (T := TX6) (N := 13) hx hb ht0 niX6 hown hK hP 0 rfl rfl 4 (by decide) (ht0 _ wd101) (fun _ h9 => h9) rfl dX6_decide_127 ?_
      refine va_get (D := D) (ci := 3) (v := .int (vH 0)) (C := RX4) (T := TX4) (N := 20) hx hb ht0 niX4 hown hK hP 1 rfl rfl 0 (by decide) (ht0 _ wd137) (fun _ h9 => h9) rfl dX6_decide_130 ?_
      obtain ⟨g133, hok⟩ := gd_some hok
      refine lv_irem hx hb dX6_decide_133 (nzI_ne g133) ?_
      refine lv_if_eq (tgt := 144) hx hb dX6_decide_134 (by decide) (fun c134 => ?_) (fun c134 => ?_)
      · have hok := k_pos c134 hok
        exact J144 y3_115 vW_inFront_115 H locs ls hP hD hS (lv_sub hl [0, 2] rfl) hok
      · have hok := k_neg c134 hok
        refine lv_iload_n hx hb dX6_decide_137 rfl (lv_at hl 2 rfl) ?_
        refine lv_aload_n hx hb dX6_decide_138 rfl (lv_at hl 0 rfl) ?_
        refine va_get (D := D) (ci := 5) (v := .int (vW 8)) (C := RX6) (T := TX6) (N := 13) hx hb ht0 niX6 hown hK hP 0 rfl rfl 8 (by decide) (ht0 _ wd99) (fun _ h9 => h9) rfl dX6_decide_139 ?_
        refine lv_ior hx hb dX6_decide_142 ?_
        refine lv_istore_n (lv' := [(3, .int (y3_115 ||| (vW 8))), (0, .ref aW), (2, .int ((vW 5) + (1 : Int32)))]) hx hb dX6_decide_143 rfl hl (by decide) rfl (fun ls hl => ?_)
        exact J144 (y3_115 ||| (vW 8)) vW_inFront_115 H locs ls hP hD hS (lv_sub hl [1, 0] rfl) hok
  have J101 : ∀ (y3_101 : Int32) (vW_inFront_101 : Nat → Int32), ∀ (H : Heap) (locs : List Loc) (ls : Array Slot), va_P D vwCl (wX6_decide cy aW qW aH qH vW vH vW_cells vH_next vW_who vW_inFront_101 vH_sizes vH_width vH_kinds) H → va_D A (wX6_decide cy aW qW aH qH vW vH vW_cells vH_next vW_who vW_inFront_101 vH_sizes vH_width vH_kinds) → va_S A s.heap H locs → lv_has ls 6 [(0, .ref aW), (2, .int ((vW 5) + (1 : Int32))), (3, .int y3_101)] → fX6_decide_J101 vW vH y3_101 vW_inFront_101 = some (z_vW, z_vW_inFront) → W p l e ({ frames := 1, cells := 0, slots := 0, locals := 26 } : Room) s m ([.ref aW, .int x1] : List Value).toArray below meth c H locs 0 0 Q (F0 m 101 ls []) := by
    intro y3_101 vW_inFront_101 H locs ls hP hD hS hl hok
    unfold fX6_decide_J101 at hok
    refine lv_iload_n hx hb dX6_decide_101 rfl (lv_at hl 1 rfl) ?_
    refine lv_bipush (v := 9) hx hb dX6_decide_102 (by decide) ?_
    refine lv_irem hx hb dX6_decide_104 (by decide) ?_
    refine lv_if_eq (tgt := 115) hx hb dX6_decide_105 (by decide) (fun c105 => ?_) (fun c105 => ?_)
    · have hok := k_pos c105 hok
      exact J115 y3_101 vW_inFront_101 H locs ls hP hD hS (lv_sub hl [0, 1, 2] rfl) hok
    · have hok := k_neg c105 hok
      refine lv_iload_n hx hb dX6_decide_108 rfl (lv_at hl 2 rfl) ?_
      refine lv_aload_n hx hb dX6_decide_109 rfl (lv_at hl 0 rfl) ?_
      refine va_get (D := D) (ci := 5) (v := .int (vW 7)) (C := RX6) (T := TX6) (N := 13) hx hb ht0 niX6 hown hK hP 0 rfl rfl 7 (by decide) (ht0 _ wd100) (fun _ h9 => h9) rfl dX6_decide_110 ?_
      refine lv_ior hx hb dX6_decide_113 ?_
      refine lv_istore_n (lv' := [(3, .int (y3_101 ||| (vW 7))), (0, .ref aW), (2, .int ((vW 5) + (1 : Int32)))]) hx hb dX6_decide_114 rfl hl (by decide) rfl (fun ls hl => ?_)
      exact J115 (y3_101 ||| (vW 7)) vW_inFront_101 H locs ls hP hD hS (lv_sub hl [1, 2, 0] rfl) hok
  have L17 : ∀ (fuel : Nat) (y3_17 : Int32) (y4_17 : Int32) (vW_inFront_17 : Nat → Int32), ∀ (H : Heap) (locs : List Loc) (ls : Array Slot), va_P D vwCl (wX6_decide cy aW qW aH qH vW vH vW_cells vH_next vW_who vW_inFront_17 vH_sizes vH_width vH_kinds) H → va_D A (wX6_decide cy aW qW aH qH vW vH vW_cells vH_next vW_who vW_inFront_17 vH_sizes vH_width vH_kinds) → va_S A s.heap H locs → lv_has ls 6 [(0, .ref aW), (2, .int ((vW 5) + (1 : Int32))), (3, .int y3_17), (4, .int y4_17)] → lp (fX6_decide_B17 vW vH vW_cells vH_next vW_who vH_sizes vH_width vH_kinds) fuel (y3_17, y4_17, vW_inFront_17) = some (z_vW, z_vW_inFront) → W p l e ({ frames := 1, cells := 0, slots := 0, locals := 26 } : Room) s m ([.ref aW, .int x1] : List Value).toArray below meth c H locs 0 0 Q (F0 m 17 ls []) := by
    intro fuel
    induction fuel with
    | zero => intro y3_17 y4_17 vW_inFront_17 H locs ls hP hD hS hl hok; exact (lp_0 hok).elim
    | succ fuel ih17 =>
      intro y3_17 y4_17 vW_inFront_17 H locs ls hP hD hS hl hok
      obtain ⟨y17, hok, hL17, hR17⟩ := lp_step hok
      have J95 : ∀ (y3_95 : Int32) (vW_inFront_95 : Nat → Int32), ∀ (H : Heap) (locs : List Loc) (ls : Array Slot), va_P D vwCl (wX6_decide cy aW qW aH qH vW vH vW_cells vH_next vW_who vW_inFront_95 vH_sizes vH_width vH_kinds) H → va_D A (wX6_decide cy aW qW aH qH vW vH vW_cells vH_next vW_who vW_inFront_95 vH_sizes vH_width vH_kinds) → va_S A s.heap H locs → lv_has ls 6 [(0, .ref aW), (2, .int ((vW 5) + (1 : Int32))), (3, .int y3_95), (4, .int y4_17)] → fX6_decide_J95 y4_17 y3_95 vW_inFront_95 = some y17 → W p l e ({ frames := 1, cells := 0, slots := 0, locals := 26 } : Room) s m ([.ref aW, .int x1] : List Value).toArray below meth c H locs 0 0 Q (F0 m 95 ls []) := by
        intro y3_95 vW_inFront_95 H locs ls hP hD hS hl hok
        unfold fX6_decide_J95 at hok
        refine lv_iinc (v := (y4_17 + 1)) (lv' := [(4, .int (y4_17 + 1)), (0, .ref aW), (2, .int ((vW 5) + (1 : Int32))), (3, .int y3_95)]) hx hb dX6_decide_95 hl (k := 3) rfl (by first | rfl | decide) (by decide) rfl (fun ls hl => ?_)
        refine lv_goto (tgt := 17) hx hb dX6_decide_98 (by decide) ?_
        exact ih17 y3_95 (y4_17 + 1) vW_inFront_95 H locs ls hP hD hS (lv_sub hl [1, 2, 3, 0] rfl) (hR17 _ (Option.some.inj hok).symm)
      unfold fX6_decide_B17 at hok
      try dsimp only at hok
      refine lv_iload hx hb dX6_decide_17 (lv_at hl 3 rfl) ?_
      refine lv_aload_n hx hb dX6_decide_19 rfl (lv_at hl 0 rfl) ?_
      refine va_get (D := D) (ci := 5) (v := .ref aH) (C := RX6) (T := TX6) (N := 13) hx hb ht0 niX6 hown hK hP 0 rfl rfl 4 (by decide) (ht0 _ wd101) (fun _ h9 => h9) rfl dX6_decide_20 ?_
      refine va_get (D := D) (ci := 3) (v := .int (vH 5)) (C := RX4) (T := TX4) (N := 20) hx hb ht0 niX4 hown hK hP 1 rfl rfl 5 (by decide) (ht0 _ wd107) (fun _ h9 => h9) rfl dX6_decide_23 ?_
      refine lv_icmp_ge (tgt := 101) hx hb dX6_decide_26 (by decide) (fun c26 => ?_) (fun c26 => ?_)
      · have hok := k_pos c26 hok
        obtain ⟨e17, hok, he17⟩ := ex_some hok
        have hok := hok.trans (congrArg some (hL17 _ he17))
        exact J101 y3_17 vW_inFront_17 H locs ls hP hD hS (lv_sub hl [0, 1, 2] rfl) hok
      · have hok := k_neg c26 hok
        refine lv_iload hx hb dX6_decide_29 (lv_at hl 3 rfl) ?_
        refine lv_bipush (v := 7) hx hb dX6_decide_31 (by decide) ?_
        refine lv_icmp_ge (tgt := 101) hx hb dX6_decide_33 (by decide) (fun c33 => ?_) (fun c33 => ?_)
        · have hok := k_pos c33 hok
          obtain ⟨e17, hok, he17⟩ := ex_some hok
          have hok := hok.trans (congrArg some (hL17 _ he17))
          exact J101 y3_17 vW_inFront_17 H locs ls hP hD hS (lv_sub hl [0, 1, 2] rfl) hok
        · have hok := k_neg c33 hok
          refine lv_aload_n hx hb dX6_decide_36 rfl (lv_at hl 0 rfl) ?_
          refine va_get (D := D) (ci := 5) (v := .ref aH) (C := RX6) (T := TX6) (N := 13) hx hb ht0 niX6 hown hK hP 0 rfl rfl 4 (by decide) (ht0 _ wd101) (fun _ h9 => h9) rfl dX6_decide_37 ?_
          refine lv_aload_n hx hb dX6_decide_40 rfl (lv_at hl 0 rfl) ?_
          refine va_get (D := D) (ci := 5) (v := .ref (qW 0)) (C := RX6) (T := TX6) (N := 13) hx hb ht0 niX6 hown hK hP 0 rfl rfl 0 (by decide) (ht0 _ wd110) (fun _ h9 => h9) rfl dX6_decide_41 ?_
          refine lv_iload hx hb dX6_decide_44 (lv_at hl 3 rfl) ?_
          obtain ⟨g46, hok⟩ := gd_some hok
          refine va_iald hx hb hK hP 2 0 rfl rfl (okI_in g46) dX6_decide_46 ?_
          obtain ⟨r47, hc47, hok⟩ := k_bind hok
          refine kCi (wc := (wX4_nextOf cy aH qH vH vH_next)) (wc2 := (wX4_nextOf cy aH qH vH vH_next)) (wr := [(aW, oX6 vW qW aH), (qW 0, rI cy 7 vW_cells), (qW 1, rI cy 36 vW_who), (qW 2, rI cy 7 vW_inFront_17), (qH 15, rI cy 7 vH_sizes), (qH 11, rI cy 36 vH_width), (qH 14, rI cy 7 vH_kinds)]) (ws2 := (wX6_decide cy aW qW aH qH vW vH vW_cells vH_next vW_who vW_inFront_17 vH_sizes vH_width vH_kinds)) (kRunV (As := [.int (vW_cells y4_17.toNatClampNeg)]) (rest := []) ⟨hx, hb, hml, hown, ht0⟩ (kX4_nextOf l D cy _ aH qH vH vH_next (vW_cells y4_17.toNatClampNeg) r47 hc47 _ rfl) (cwV 1 ht0 (gV wd138 wd139 wd140 wd9 wd141) rfl rfl rfl (by decide +kernel) ⟨Nat.le_of_ble_eq_true rfl, Nat.le_of_ble_eq_true rfl⟩) hK hN hP hD [1, 3] rfl (by decide) 1 3 rfl rfl rfl hl.1 rfl (Nat.le_of_ble_eq_true rfl) dX6_decide_47 ⟨Nat.zero_le _, Nat.zero_le _⟩) hP hD hS hA [1, 3] [0, 2, 4, 5, 6, 7, 8] rfl rfl (by decide) (by decide) [0, 7, 1, 8, 2, 3, 4, 5, 6] (by decide) rfl rfl (fun H locs hP hD hS => ?_)
          refine lv_istore (lv' := [(5, .int r47), (0, .ref aW), (2, .int ((vW 5) + (1 : Int32))), (3, .int y3_17), (4, .int y4_17)]) hx hb dX6_decide_50 hl (by decide) rfl (fun ls hl => ?_)
          refine lv_aload_n hx hb dX6_decide_52 rfl (lv_at hl 1 rfl) ?_
          refine va_get (D := D) (ci := 5) (v := .ref (qW 2)) (C := RX6) (T := TX6) (N := 13) hx hb ht0 niX6 hown hK hP 0 rfl rfl 2 (by decide) (ht0 _ wd130) (fun _ h9 => h9) rfl dX6_decide_53 ?_
          refine lv_iload hx hb dX6_decide_56 (lv_at hl 4 rfl) ?_
          refine lv_aload_n hx hb dX6_decide_58 rfl (lv_at hl 1 rfl) ?_
          refine lv_iload hx hb dX6_decide_59 (lv_at hl 0 rfl) ?_
          obtain ⟨r61, hc61, hok⟩ := k_bind hok
          refine kCi (wc := (wX6_thingAt cy aW qW aH vW vW_who)) (wc2 := (wX6_thingAt cy aW qW aH vW vW_who)) (wr := [(aH, oX4 vH qH), (qW 0, rI cy 7 vW_cells), (qH 10, rI cy 36 vH_next), (qW 2, rI cy 7 vW_inFront_17), (qH 15, rI cy 7 vH_sizes), (qH 11, rI cy 36 vH_width), (qH 14, rI cy 7 vH_kinds)]) (ws2 := (wX6_decide cy aW qW aH qH vW vH vW_cells vH_next vW_who vW_inFront_17 vH_sizes vH_width vH_kinds)) (kRunV (As := [.int r47]) (rest := [.int y4_17, .ref (qW 2)]) ⟨hx, hb, hml, hown, ht0⟩ (kX6_thingAt l D cy _ aW qW aH vW vW_who r47 r61 hc61 _ rfl) (cwV 1 ht0 (gV wd142 wd143 wd144 wd114 wd145) rfl rfl rfl (by decide +kernel) ⟨Nat.le_of_ble_eq_true rfl, Nat.le_of_ble_eq_true rfl⟩) hK hN hP hD [0, 4] rfl (by decide) 0 5 rfl rfl rfl hl.1 rfl (Nat.le_of_ble_eq_true rfl) dX6_decide_61 ⟨Nat.zero_le _, Nat.zero_le _⟩) hP hD hS hA [0, 4] [1, 2, 3, 5, 6, 7, 8] rfl rfl (by decide) (by decide) [7, 0, 1, 2, 8, 3, 4, 5, 6] (by decide) rfl rfl (fun H locs hP hD hS => ?_)
          obtain ⟨g64, hok⟩ := gd_some hok
          refine va_iast hx hb hK hP hD hS 5 0 rfl rfl (okI_in g64) dX6_decide_64 (fun H locs hP hD hS => ?_)
          have hP : va_P D vwCl (wX6_decide cy aW qW aH qH vW vH vW_cells vH_next vW_who (upd vW_inFront_17 y4_17.toNatClampNeg r61) vH_sizes vH_width vH_kinds) H := hP
          have hD : va_D A (wX6_decide cy aW qW aH qH vW vH vW_cells vH_next vW_who (upd vW_inFront_17 y4_17.toNatClampNeg r61) vH_sizes vH_width vH_kinds) := hD
          refine lv_iload hx hb dX6_decide_65 (lv_at hl 0 rfl) ?_
          refine lv_aload_n hx hb dX6_decide_67 rfl (lv_at hl 1 rfl) ?_
          refine va_get (D := D) (ci := 5) (v := .int (vW 9)) (C := RX6) (T := TX6) (N := 13) hx hb ht0 niX6 hown hK hP 0 rfl rfl 9 (by decide) (ht0 _ wd125) (fun _ h9 => h9) rfl dX6_decide_68 ?_
          refine lv_icmp_eq (tgt := 95) hx hb dX6_decide_71 (by decide) (fun c71 => ?_) (fun c71 => ?_)
          · have hok := k_pos c71 hok
            exact J95 y3_17 (upd vW_inFront_17 y4_17.toNatClampNeg r61) H locs ls hP hD hS (lv_sub hl [1, 2, 3, 4] rfl) hok
          · have hok := k_neg c71 hok
            refine lv_aload_n hx hb dX6_decide_74 rfl (lv_at hl 1 rfl) ?_
            refine va_get (D := D) (ci := 5) (v := .ref aH) (C := RX6) (T := TX6) (N := 13) hx hb ht0 niX6 hown hK hP 0 rfl rfl 4 (by decide) (ht0 _ wd101) (fun _ h9 => h9) rfl dX6_decide_75 ?_
            refine lv_iload hx hb dX6_decide_78 (lv_at hl 4 rfl) ?_
            refine lv_iload hx hb dX6_decide_80 (lv_at hl 0 rfl) ?_
            obtain ⟨r82, hc82, hok⟩ := k_bind hok
            refine kCi (wc := (wX4_isTooLarge cy aH qH vH vH_sizes vH_width vH_kinds)) (wc2 := (wX4_isTooLarge cy aH qH vH vH_sizes vH_width vH_kinds)) (wr := [(aW, oX6 vW qW aH), (qW 0, rI cy 7 vW_cells), (qH 10, rI cy 36 vH_next), (qW 1, rI cy 36 vW_who), (qW 2, rI cy 7 (upd vW_inFront_17 y4_17.toNatClampNeg r61))]) (ws2 := (wX6_decide cy aW qW aH qH vW vH vW_cells vH_next vW_who (upd vW_inFront_17 y4_17.toNatClampNeg r61) vH_sizes vH_width vH_kinds)) (kRunV (As := [.int y4_17, .int r47]) (rest := []) ⟨hx, hb, hml, hown, ht0⟩ (kX4_isTooLarge l D cy _ aH qH vH vH_sizes vH_width vH_kinds y4_17 r47 r82 hc82 _ rfl) (cwV 2 ht0 (gV wd146 wd147 wd148 wd9 wd149) rfl rfl rfl (by decide +kernel) ⟨Nat.le_of_ble_eq_true rfl, Nat.le_of_ble_eq_true rfl⟩) hK hN hP hD [1, 6, 7, 8] rfl (by decide) 1 3 rfl rfl rfl hl.1 rfl (Nat.le_of_ble_eq_true rfl) dX6_decide_82 ⟨Nat.zero_le _, Nat.zero_le _⟩) hP hD hS hA [1, 6, 7, 8] [0, 2, 3, 4, 5] rfl rfl (by decide) (by decide) [0, 5, 1, 2, 3, 4, 6, 7, 8] (by decide) rfl rfl (fun H locs hP hD hS => ?_)
            refine lv_if_eq (tgt := 95) hx hb dX6_decide_85 (by decide) (fun c85 => ?_) (fun c85 => ?_)
            · have hok := k_pos c85 hok
              exact J95 y3_17 (upd vW_inFront_17 y4_17.toNatClampNeg r61) H locs ls hP hD hS (lv_sub hl [1, 2, 3, 4] rfl) hok
            · have hok := k_neg c85 hok
              refine lv_iload_n hx hb dX6_decide_88 rfl (lv_at hl 3 rfl) ?_
              refine lv_iconst (v := 1) hx hb dX6_decide_89 (by decide) ?_
              refine lv_iload hx hb dX6_decide_90 (lv_at hl 4 rfl) ?_
              refine lv_ishl hx hb dX6_decide_92 ?_
              refine lv_ior hx hb dX6_decide_93 ?_
              refine lv_istore_n (lv' := [(3, .int (y3_17 ||| (isl (1 : Int32) y4_17))), (5, .int r47), (0, .ref aW), (2, .int ((vW 5) + (1 : Int32))), (4, .int y4_17)]) hx hb dX6_decide_94 rfl hl (by decide) rfl (fun ls hl => ?_)
              exact J95 (y3_17 ||| (isl (1 : Int32) y4_17)) (upd vW_inFront_17 y4_17.toNatClampNeg r61) H locs ls hP hD hS (lv_sub hl [2, 3, 0, 4] rfl) hok
  unfold fX6_decide at hok
  obtain ⟨H, hH⟩ : ∃ H, H = s.heap := ⟨_, rfl⟩
  obtain ⟨locs, hlc⟩ : ∃ x : List Loc, x = [] := ⟨_, rfl⟩
  have hP : va_P D vwCl (wX6_decide cy aW qW aH qH vW vH vW_cells vH_next vW_who vW_inFront vH_sizes vH_width vH_kinds) H := by rw [hH]; exact hP
  have hS : va_S A s.heap H locs := by rw [hH, hlc]; exact hS
  rw [show W p l e _ s m _ below meth c s.heap [] = W p l e _ s m _ below meth c H locs from by rw [hH, hlc]]
  refine lv_aload_n hx hb dX6_decide_0 rfl (lv_at hl 0 rfl) ?_
  refine va_get (D := D) (ci := 5) (v := .int (vW 5)) (C := RX6) (T := TX6) (N := 13) hx hb ht0 niX6 hown hK hP 0 rfl rfl 5 (by decide) (ht0 _ wd120) (fun _ h9 => h9) rfl dX6_decide_1 ?_
  refine lv_iconst (v := 1) hx hb dX6_decide_4 (by decide) ?_
  refine lv_iadd hx hb dX6_decide_5 ?_
  refine lv_istore_n (lv' := [(2, .int ((vW 5) + (1 : Int32))), (0, .ref aW), (1, .int x1)]) hx hb dX6_decide_6 rfl hl (by decide) rfl (fun ls hl => ?_)
  refine lv_aload_n hx hb dX6_decide_7 rfl (lv_at hl 1 rfl) ?_
  refine va_get (D := D) (ci := 5) (v := .int (vW 6)) (C := RX6) (T := TX6) (N := 13) hx hb ht0 niX6 hown hK hP 0 rfl rfl 6 (by decide) (ht0 _ wd106) (fun _ h9 => h9) rfl dX6_decide_8 ?_
  refine lv_iload_n hx hb dX6_decide_11 rfl (lv_at hl 2 rfl) ?_
  refine lv_ior hx hb dX6_decide_12 ?_
  refine lv_istore_n (lv' := [(3, .int ((vW 6) ||| x1)), (2, .int ((vW 5) + (1 : Int32))), (0, .ref aW), (1, .int x1)]) hx hb dX6_decide_13 rfl hl (by decide) rfl (fun ls hl => ?_)
  refine lv_iconst (v := 0) hx hb dX6_decide_14 (by decide) ?_
  refine lv_istore (lv' := [(4, .int 0), (3, .int ((vW 6) ||| x1)), (2, .int ((vW 5) + (1 : Int32))), (0, .ref aW), (1, .int x1)]) hx hb dX6_decide_15 hl (by decide) rfl (fun ls hl => ?_)
  exact L17 5000 ((vW 6) ||| x1) (0 : Int32) vW_inFront H locs ls hP hD hS (lv_sub hl [3, 2, 1, 0] rfl) hok
def wsX6_pass : List Cond := .code yX6_pass cX6_pass 3 none :: W0
abbrev wX6_pass (cy : Nat → ClassId) (aW : Nat) (qW : Nat → Nat) (aH : Nat) (qH : Nat → Nat) (vW : Nat → Int32) (vH : Nat → Int32) (vW_cells : Nat → Int32) (vH_next : Nat → Int32) (vW_who : Nat → Int32) (vW_inFront : Nat → Int32) (vH_sizes : Nat → Int32) (vH_width : Nat → Int32) (vH_kinds : Nat → Int32) : va_W := [(aW, oX6 vW qW aH), (aH, oX4 vH qH), (qW 0, rI cy 7 vW_cells), (qH 10, rI cy 36 vH_next), (qW 1, rI cy 36 vW_who), (qW 2, rI cy 7 vW_inFront), (qH 15, rI cy 7 vH_sizes), (qH 11, rI cy 36 vH_width), (qH 14, rI cy 7 vH_kinds)]
set_option maxHeartbeats 4000000 in
set_option maxRecDepth 100000 in
theorem kX6_pass (l : Launch) (D : va_G) (cy : Nat → ClassId) (sz : Nat) (aW : Nat) (qW : Nat → Nat) (aH : Nat) (qH : Nat → Nat) (vW : Nat → Int32) (vH : Nat → Int32) (vW_cells : Nat → Int32) (vH_next : Nat → Int32) (vW_who : Nat → Int32) (vW_inFront : Nat → Int32) (vH_sizes : Nat → Int32) (vH_width : Nat → Int32) (vH_kinds : Nat → Int32) (x1 : Int32) (z_vW : Nat → Int32) (z_vW_cells : Nat → Int32) (z_vW_who : Nat → Int32) (z_vW_inFront : Nat → Int32) (hok : fX6_pass vW vH vW_cells vH_next vW_who vW_inFront vH_sizes vH_width vH_kinds x1 = some (z_vW, z_vW_cells, z_vW_who, z_vW_inFront)) (A : Nat → Prop) (hAe : va_A (wX6_pass cy aW qW aH qH vW vH vW_cells vH_next vW_who vW_inFront vH_sizes vH_width vH_kinds) sz = A) : Met l yX6_pass wsX6_pass ({ frames := 2, cells := 0, slots := 0, locals := 51 } : Room) (kPre D cy [.ref aW, .int x1] (wX6_pass cy aW qW aH qH vW vH vW_cells vH_next vW_who vW_inFront vH_sizes vH_width vH_kinds) sz) (kQv D cy A (wX6_pass cy aW qW aH qH z_vW vH z_vW_cells vH_next z_vW_who z_vW_inFront vH_sizes vH_width vH_kinds)) 0 0 A := by
  refine Met.ofW (cc := cX6_pass) (maxL := 3) (ret := none) (by decide) rfl ?_
  intro p e s m args below meth c s₁ B hml hv
  obtain ⟨rfl, hsz, hP, hK, hD0, hN⟩ := hv
  have hx := B.exec
  have hb := B.bytes
  have hr := B.returns
  have ht0 : ∀ w ∈ W0, w.before _ s = true := fun w h => atoms_spec (ws := wsX6_pass) B.pre w (List.mem_cons_of_mem _ h)
  have hown : s.vm.findClass RX6 = some m.cls := findClass_of_methodNamed B.named
  have hlocks := B.notSynchronized
  subst hsz
  have hD : va_D A (wX6_pass cy aW qW aH qH vW vH vW_cells vH_next vW_who vW_inFront vH_sizes vH_width vH_kinds) := by rw [← hAe]; exact hD0.self
  have hA : ∀ q : Nat, s.heap.size ≤ q → A q := fun q h => by rw [← hAe]; exact Or.inr h
  have hS : va_S A s.heap s.heap [] := va_S.rf
  have hl := lv_entry ([.ref aW, .int x1]) (n := 3) (Nat.le_of_ble_eq_true rfl)
  rw [lg_entry_eq]
  generalize (lg_sl ([.ref aW, .int x1]) ++ List.replicate (3 - (lg_sl ([.ref aW, .int x1])).length) Slot.unset).toArray = ls at hl ⊢
  have hl : lv_has ls 3 [(0, .ref aW), (1, .int x1)] := hl
  generalize hQe : MQ below (kQv D cy A (wX6_pass cy aW qW aH qH z_vW vH z_vW_cells vH_next z_vW_who z_vW_inFront vH_sizes vH_width vH_kinds)) ([.ref aW, .int x1] : List Value).toArray s 0 0 A = Q
  have J128 : ∀ (vW_cells_128 : Nat → Int32) (vW_inFront_128 : Nat → Int32) (vW_who_128 : Nat → Int32) (vW_128 : Nat → Int32), ∀ (H : Heap) (locs : List Loc) (ls : Array Slot), va_P D vwCl (wX6_pass cy aW qW aH qH vW_128 vH vW_cells_128 vH_next vW_who_128 vW_inFront_128 vH_sizes vH_width vH_kinds) H → va_D A (wX6_pass cy aW qW aH qH vW_128 vH vW_cells_128 vH_next vW_who_128 vW_inFront_128 vH_sizes vH_width vH_kinds) → va_S A s.heap H locs → lv_has ls 3 [] → fX6_pass_J128 vW_cells_128 vW_inFront_128 vW_who_128 vW_128 = some (z_vW, z_vW_cells, z_vW_who, z_vW_inFront) → W p l e ({ frames := 2, cells := 0, slots := 0, locals := 51 } : Room) s m ([.ref aW, .int x1] : List Value).toArray below meth c H locs 0 0 Q (F0 m 128 ls []) := by
    intro vW_cells_128 vW_inFront_128 vW_who_128 vW_128 H locs ls hP hD hS hl hok
    unfold fX6_pass_J128 at hok
    cases hok
    subst hQe; exact W.vret hx hb hr (fun t ht hW => ⟨⟨(), rfl, trivial, by rw [ht]; exact hP, va_K.moved hW.alike hK, hD⟩, hS.F ht⟩) hS.2.2 dX6_pass_128
  have L64 : ∀ (fuel : Nat) (y2_64 : Int32) (vW_cells_64 : Nat → Int32) (vW_inFront_64 : Nat → Int32) (vW_who_64 : Nat → Int32) (vW_64 : Nat → Int32), ∀ (H : Heap) (locs : List Loc) (ls : Array Slot), va_P D vwCl (wX6_pass cy aW qW aH qH vW_64 vH vW_cells_64 vH_next vW_who_64 vW_inFront_64 vH_sizes vH_width vH_kinds) H → va_D A (wX6_pass cy aW qW aH qH vW_64 vH vW_cells_64 vH_next vW_who_64 vW_inFront_64 vH_sizes vH_width vH_kinds) → va_S A s.heap H locs → lv_has ls 3 [(0, .ref aW), (2, .int y2_64)] → lp (fX6_pass_B64 vH vH_next) fuel (y2_64, vW_cells_64, vW_inFront_64, vW_who_64, vW_64) = some (z_vW, z_vW_cells, z_vW_who, z_vW_inFront) → W p l e ({ frames := 2, cells := 0, slots := 0, locals := 51 } : Room) s m ([.ref aW, .int x1] : List Value).toArray below meth c H locs 0 0 Q (F0 m 64 ls []) := by
    intro fuel
    induction fuel with
    | zero => intro y2_64 vW_cells_64 vW_inFront_64 vW_who_64 vW_64 H locs ls hP hD hS hl hok; exact (lp_0 hok).elim
    | succ fuel ih64 =>
      intro y2_64 vW_cells_64 vW_inFront_64 vW_who_64 vW_64 H locs ls hP hD hS hl hok
      obtain ⟨y64, hok, hL64, hR64⟩ := lp_step hok
      have J122 : ∀ (vW_cells_122 : Nat → Int32) (vW_who_122 : Nat → Int32), ∀ (H : Heap) (locs : List Loc) (ls : Array Slot), va_P D vwCl (wX6_pass cy aW qW aH qH vW_64 vH vW_cells_122 vH_next vW_who_122 vW_inFront_64 vH_sizes vH_width vH_kinds) H → va_D A (wX6_pass cy aW qW aH qH vW_64 vH vW_cells_122 vH_next vW_who_122 vW_inFront_64 vH_sizes vH_width vH_kinds) → va_S A s.heap H locs → lv_has ls 3 [(0, .ref aW), (2, .int y2_64)] → fX6_pass_J122 y2_64 vW_inFront_64 vW_64 vW_cells_122 vW_who_122 = some y64 → W p l e ({ frames := 2, cells := 0, slots := 0, locals := 51 } : Room) s m ([.ref aW, .int x1] : List Value).toArray below meth c H locs 0 0 Q (F0 m 122 ls []) := by
        intro vW_cells_122 vW_who_122 H locs ls hP hD hS hl hok
        unfold fX6_pass_J122 at hok
        refine lv_iinc (v := (y2_64 + 1)) (lv' := [(2, .int (y2_64 + 1)), (0, .ref aW)]) hx hb dX6_pass_122 hl (k := 1) rfl (by first | rfl | decide) (by decide) rfl (fun ls hl => ?_)
        refine lv_goto (tgt := 64) hx hb dX6_pass_125 (by decide) ?_
        exact ih64 (y2_64 + 1) vW_cells_122 vW_inFront_64 vW_who_122 vW_64 H locs ls hP hD hS (lv_sub hl [1, 0] rfl) (hR64 _ (Option.some.inj hok).symm)
      unfold fX6_pass_B64 at hok
      try dsimp only at hok
      refine lv_iload_n hx hb dX6_pass_64 rfl (lv_at hl 1 rfl) ?_
      refine lv_aload_n hx hb dX6_pass_65 rfl (lv_at hl 0 rfl) ?_
      refine va_get (D := D) (ci := 5) (v := .ref aH) (C := RX6) (T := TX6) (N := 13) hx hb ht0 niX6 hown hK hP 0 rfl rfl 4 (by decide) (ht0 _ wd101) (fun _ h9 => h9) rfl dX6_pass_66 ?_
      refine va_get (D := D) (ci := 3) (v := .int (vH 5)) (C := RX4) (T := TX4) (N := 20) hx hb ht0 niX4 hown hK hP 1 rfl rfl 5 (by decide) (ht0 _ wd107) (fun _ h9 => h9) rfl dX6_pass_69 ?_
      refine lv_icmp_ge (tgt := 128) hx hb dX6_pass_72 (by decide) (fun c72 => ?_) (fun c72 => ?_)
      · have hok := k_pos c72 hok
        obtain ⟨e64, hok, he64⟩ := ex_some hok
        have hok := hok.trans (congrArg some (hL64 _ he64))
        exact J128 vW_cells_64 vW_inFront_64 vW_who_64 vW_64 H locs ls hP hD hS (lv_sub hl [] rfl) hok
      · have hok := k_neg c72 hok
        refine lv_iload_n hx hb dX6_pass_75 rfl (lv_at hl 1 rfl) ?_
        refine lv_bipush (v := 7) hx hb dX6_pass_76 (by decide) ?_
        refine lv_icmp_ge (tgt := 128) hx hb dX6_pass_78 (by decide) (fun c78 => ?_) (fun c78 => ?_)
        · have hok := k_pos c78 hok
          obtain ⟨e64, hok, he64⟩ := ex_some hok
          have hok := hok.trans (congrArg some (hL64 _ he64))
          exact J128 vW_cells_64 vW_inFront_64 vW_who_64 vW_64 H locs ls hP hD hS (lv_sub hl [] rfl) hok
        · have hok := k_neg c78 hok
          refine lv_aload_n hx hb dX6_pass_81 rfl (lv_at hl 0 rfl) ?_
          refine va_get (D := D) (ci := 5) (v := .int (vW_64 12)) (C := RX6) (T := TX6) (N := 13) hx hb ht0 niX6 hown hK hP 0 rfl rfl 12 (by decide) (ht0 _ wd136) (fun _ h9 => h9) rfl dX6_pass_82 ?_
          refine lv_iload_n hx hb dX6_pass_85 rfl (lv_at hl 1 rfl) ?_
          refine lv_ishr hx hb dX6_pass_86 ?_
          refine lv_iconst (v := 1) hx hb dX6_pass_87 (by decide) ?_
          refine lv_iand hx hb dX6_pass_88 ?_
          refine lv_if_eq (tgt := 122) hx hb dX6_pass_89 (by decide) (fun c89 => ?_) (fun c89 => ?_)
          · have hok := k_pos c89 hok
            exact J122 vW_cells_64 vW_who_64 H locs ls hP hD hS (lv_sub hl [0, 1] rfl) hok
          · have hok := k_neg c89 hok
            refine lv_aload_n hx hb dX6_pass_92 rfl (lv_at hl 0 rfl) ?_
            refine va_get (D := D) (ci := 5) (v := .ref (qW 0)) (C := RX6) (T := TX6) (N := 13) hx hb ht0 niX6 hown hK hP 0 rfl rfl 0 (by decide) (ht0 _ wd110) (fun _ h9 => h9) rfl dX6_pass_93 ?_
            refine lv_iload_n hx hb dX6_pass_96 rfl (lv_at hl 1 rfl) ?_
            refine lv_aload_n hx hb dX6_pass_97 rfl (lv_at hl 0 rfl) ?_
            refine va_get (D := D) (ci := 5) (v := .ref aH) (C := RX6) (T := TX6) (N := 13) hx hb ht0 niX6 hown hK hP 0 rfl rfl 4 (by decide) (ht0 _ wd101) (fun _ h9 => h9) rfl dX6_pass_98 ?_
            refine lv_aload_n hx hb dX6_pass_101 rfl (lv_at hl 0 rfl) ?_
            refine va_get (D := D) (ci := 5) (v := .ref (qW 0)) (C := RX6) (T := TX6) (N := 13) hx hb ht0 niX6 hown hK hP 0 rfl rfl 0 (by decide) (ht0 _ wd110) (fun _ h9 => h9) rfl dX6_pass_102 ?_
            refine lv_iload_n hx hb dX6_pass_105 rfl (lv_at hl 1 rfl) ?_
            obtain ⟨g106, hok⟩ := gd_some hok
            refine va_iald hx hb hK hP 2 0 rfl rfl (okI_in g106) dX6_pass_106 ?_
            obtain ⟨r107, hc107, hok⟩ := k_bind hok
            refine kCi (wc := (wX4_nextOf cy aH qH vH vH_next)) (wc2 := (wX4_nextOf cy aH qH vH vH_next)) (wr := [(aW, oX6 vW_64 qW aH), (qW 0, rI cy 7 vW_cells_64), (qW 1, rI cy 36 vW_who_64), (qW 2, rI cy 7 vW_inFront_64), (qH 15, rI cy 7 vH_sizes), (qH 11, rI cy 36 vH_width), (qH 14, rI cy 7 vH_kinds)]) (ws2 := (wX6_pass cy aW qW aH qH vW_64 vH vW_cells_64 vH_next vW_who_64 vW_inFront_64 vH_sizes vH_width vH_kinds)) (kRunV (As := [.int (vW_cells_64 y2_64.toNatClampNeg)]) (rest := [.int y2_64, .ref (qW 0)]) ⟨hx, hb, hml, hown, ht0⟩ (kX4_nextOf l D cy _ aH qH vH vH_next (vW_cells_64 y2_64.toNatClampNeg) r107 hc107 _ rfl) (cwV 1 ht0 (gV wd138 wd139 wd140 wd9 wd141) rfl rfl rfl (by decide +kernel) ⟨Nat.le_of_ble_eq_true rfl, Nat.le_of_ble_eq_true rfl⟩) hK hN hP hD [1, 3] rfl (by decide) 1 3 rfl rfl rfl hl.1 rfl (Nat.le_of_ble_eq_true rfl) dX6_pass_107 ⟨Nat.zero_le _, Nat.zero_le _⟩) hP hD hS hA [1, 3] [0, 2, 4, 5, 6, 7, 8] rfl rfl (by decide) (by decide) [0, 7, 1, 8, 2, 3, 4, 5, 6] (by decide) rfl rfl (fun H locs hP hD hS => ?_)
            obtain ⟨g110, hok⟩ := gd_some hok
            refine va_iast hx hb hK hP hD hS 2 0 rfl rfl (okI_in g110) dX6_pass_110 (fun H locs hP hD hS => ?_)
            have hP : va_P D vwCl (wX6_pass cy aW qW aH qH vW_64 vH (upd vW_cells_64 y2_64.toNatClampNeg r107) vH_next vW_who_64 vW_inFront_64 vH_sizes vH_width vH_kinds) H := hP
            have hD : va_D A (wX6_pass cy aW qW aH qH vW_64 vH (upd vW_cells_64 y2_64.toNatClampNeg r107) vH_next vW_who_64 vW_inFront_64 vH_sizes vH_width vH_kinds) := hD
            refine lv_aload_n hx hb dX6_pass_111 rfl (lv_at hl 0 rfl) ?_
            refine lv_iload_n hx hb dX6_pass_112 rfl (lv_at hl 1 rfl) ?_
            refine lv_aload_n hx hb dX6_pass_113 rfl (lv_at hl 0 rfl) ?_
            refine va_get (D := D) (ci := 5) (v := .ref (qW 0)) (C := RX6) (T := TX6) (N := 13) hx hb ht0 niX6 hown hK hP 0 rfl rfl 0 (by decide) (ht0 _ wd110) (fun _ h9 => h9) rfl dX6_pass_114 ?_
            refine lv_iload_n hx hb dX6_pass_117 rfl (lv_at hl 1 rfl) ?_
            obtain ⟨g118, hok⟩ := gd_some hok
            refine va_iald hx hb hK hP 2 0 rfl rfl (okI_in g118) dX6_pass_118 ?_
            obtain ⟨vW_who_119, hc119, hok⟩ := k_bind hok
            refine kCv (wc := (wX6_seat cy aW qW aH vW_64 vW_who_64)) (wc2 := (wX6_seat cy aW qW aH vW_64 vW_who_119)) (wr := [(aH, oX4 vH qH), (qW 0, rI cy 7 (upd vW_cells_64 y2_64.toNatClampNeg r107)), (qH 10, rI cy 36 vH_next), (qW 2, rI cy 7 vW_inFront_64), (qH 15, rI cy 7 vH_sizes), (qH 11, rI cy 36 vH_width), (qH 14, rI cy 7 vH_kinds)]) (ws2 := (wX6_pass cy aW qW aH qH vW_64 vH (upd vW_cells_64 y2_64.toNatClampNeg r107) vH_next vW_who_119 vW_inFront_64 vH_sizes vH_width vH_kinds)) (kRunV (As := [.int y2_64, .int ((upd vW_cells_64 y2_64.toNatClampNeg r107) y2_64.toNatClampNeg)]) (rest := []) ⟨hx, hb, hml, hown, ht0⟩ (kX6_seat l D cy _ aW qW aH vW_64 vW_who_64 y2_64 ((upd vW_cells_64 y2_64.toNatClampNeg r107) y2_64.toNatClampNeg) vW_who_119 hc119 _ rfl) (cwV 2 ht0 (gV wd111 wd112 wd113 wd114 wd115) rfl rfl rfl (by decide +kernel) ⟨Nat.le_of_ble_eq_true rfl, Nat.le_of_ble_eq_true rfl⟩) hK hN hP hD [0, 4] rfl (by decide) 0 5 rfl rfl rfl hl.1 rfl (Nat.le_of_ble_eq_true rfl) dX6_pass_119 ⟨Nat.zero_le _, Nat.zero_le _⟩) hP hD hS hA [0, 4] [1, 2, 3, 5, 6, 7, 8] rfl rfl (by decide) (by decide) [7, 0, 1, 2, 8, 3, 4, 5, 6] (by decide) rfl rfl (fun H locs hP hD hS => ?_)
            exact J122 (upd vW_cells_64 y2_64.toNatClampNeg r107) vW_who_119 H locs ls hP hD hS (lv_sub hl [0, 1] rfl) hok
  have J62 : ∀ (vW_inFront_62 : Nat → Int32) (vW_who_62 : Nat → Int32) (vW_62 : Nat → Int32), ∀ (H : Heap) (locs : List Loc) (ls : Array Slot), va_P D vwCl (wX6_pass cy aW qW aH qH vW_62 vH vW_cells vH_next vW_who_62 vW_inFront_62 vH_sizes vH_width vH_kinds) H → va_D A (wX6_pass cy aW qW aH qH vW_62 vH vW_cells vH_next vW_who_62 vW_inFront_62 vH_sizes vH_width vH_kinds) → va_S A s.heap H locs → lv_has ls 3 [(0, .ref aW)] → fX6_pass_J62 vH vW_cells vH_next vW_inFront_62 vW_who_62 vW_62 = some (z_vW, z_vW_cells, z_vW_who, z_vW_inFront) → W p l e ({ frames := 2, cells := 0, slots := 0, locals := 51 } : Room) s m ([.ref aW, .int x1] : List Value).toArray below meth c H locs 0 0 Q (F0 m 62 ls []) := by
    intro vW_inFront_62 vW_who_62 vW_62 H locs ls hP hD hS hl hok
    unfold fX6_pass_J62 at hok
    refine lv_iconst (v := 0) hx hb dX6_pass_62 (by decide) ?_
    refine lv_istore_n (lv' := [(2, .int 0), (0, .ref aW)]) hx hb dX6_pass_63 rfl hl (by decide) rfl (fun ls hl => ?_)
    exact L64 5000 (0 : Int32) vW_cells vW_inFront_62 vW_who_62 vW_62 H locs ls hP hD hS (lv_sub hl [1, 0] rfl) hok
  have L17 : ∀ (fuel : Nat) (y2_17 : Int32) (vW_inFront_17 : Nat → Int32) (vW_who_17 : Nat → Int32) (vW_17 : Nat → Int32), ∀ (H : Heap) (locs : List Loc) (ls : Array Slot), va_P D vwCl (wX6_pass cy aW qW aH qH vW_17 vH vW_cells vH_next vW_who_17 vW_inFront_17 vH_sizes vH_width vH_kinds) H → va_D A (wX6_pass cy aW qW aH qH vW_17 vH vW_cells vH_next vW_who_17 vW_inFront_17 vH_sizes vH_width vH_kinds) → va_S A s.heap H locs → lv_has ls 3 [(0, .ref aW), (2, .int y2_17)] → lp (fX6_pass_B17 vH vW_cells vH_next) fuel (y2_17, vW_inFront_17, vW_who_17, vW_17) = some (z_vW, z_vW_cells, z_vW_who, z_vW_inFront) → W p l e ({ frames := 2, cells := 0, slots := 0, locals := 51 } : Room) s m ([.ref aW, .int x1] : List Value).toArray below meth c H locs 0 0 Q (F0 m 17 ls []) := by
    intro fuel
    induction fuel with
    | zero => intro y2_17 vW_inFront_17 vW_who_17 vW_17 H locs ls hP hD hS hl hok; exact (lp_0 hok).elim
    | succ fuel ih17 =>
      intro y2_17 vW_inFront_17 vW_who_17 vW_17 H locs ls hP hD hS hl hok
      obtain ⟨y17, hok, hL17, hR17⟩ := lp_step hok
      have J56 : ∀ (vW_who_56 : Nat → Int32), ∀ (H : Heap) (locs : List Loc) (ls : Array Slot), va_P D vwCl (wX6_pass cy aW qW aH qH vW_17 vH vW_cells vH_next vW_who_56 vW_inFront_17 vH_sizes vH_width vH_kinds) H → va_D A (wX6_pass cy aW qW aH qH vW_17 vH vW_cells vH_next vW_who_56 vW_inFront_17 vH_sizes vH_width vH_kinds) → va_S A s.heap H locs → lv_has ls 3 [(0, .ref aW), (2, .int y2_17)] → fX6_pass_J56 y2_17 vW_inFront_17 vW_17 vW_who_56 = some y17 → W p l e ({ frames := 2, cells := 0, slots := 0, locals := 51 } : Room) s m ([.ref aW, .int x1] : List Value).toArray below meth c H locs 0 0 Q (F0 m 56 ls []) := by
        intro vW_who_56 H locs ls hP hD hS hl hok
        unfold fX6_pass_J56 at hok
        refine lv_iinc (v := (y2_17 + 1)) (lv' := [(2, .int (y2_17 + 1)), (0, .ref aW)]) hx hb dX6_pass_56 hl (k := 1) rfl (by first | rfl | decide) (by decide) rfl (fun ls hl => ?_)
        refine lv_goto (tgt := 17) hx hb dX6_pass_59 (by decide) ?_
        exact ih17 (y2_17 + 1) vW_inFront_17 vW_who_56 vW_17 H locs ls hP hD hS (lv_sub hl [1, 0] rfl) (hR17 _ (Option.some.inj hok).symm)
      unfold fX6_pass_B17 at hok
      try dsimp only at hok
      refine lv_iload_n hx hb dX6_pass_17 rfl (lv_at hl 1 rfl) ?_
      refine lv_aload_n hx hb dX6_pass_18 rfl (lv_at hl 0 rfl) ?_
      refine va_get (D := D) (ci := 5) (v := .ref aH) (C := RX6) (T := TX6) (N := 13) hx hb ht0 niX6 hown hK hP 0 rfl rfl 4 (by decide) (ht0 _ wd101) (fun _ h9 => h9) rfl dX6_pass_19 ?_
      refine va_get (D := D) (ci := 3) (v := .int (vH 5)) (C := RX4) (T := TX4) (N := 20) hx hb ht0 niX4 hown hK hP 1 rfl rfl 5 (by decide) (ht0 _ wd107) (fun _ h9 => h9) rfl dX6_pass_22 ?_
      refine lv_icmp_ge (tgt := 62) hx hb dX6_pass_25 (by decide) (fun c25 => ?_) (fun c25 => ?_)
      · have hok := k_pos c25 hok
        obtain ⟨e17, hok, he17⟩ := ex_some hok
        have hok := hok.trans (congrArg some (hL17 _ he17))
        exact J62 vW_inFront_17 vW_who_17 vW_17 H locs ls hP hD hS (lv_sub hl [0] rfl) hok
      · have hok := k_neg c25 hok
        refine lv_iload_n hx hb dX6_pass_28 rfl (lv_at hl 1 rfl) ?_
        refine lv_bipush (v := 7) hx hb dX6_pass_29 (by decide) ?_
        refine lv_icmp_ge (tgt := 62) hx hb dX6_pass_31 (by decide) (fun c31 => ?_) (fun c31 => ?_)
        · have hok := k_pos c31 hok
          obtain ⟨e17, hok, he17⟩ := ex_some hok
          have hok := hok.trans (congrArg some (hL17 _ he17))
          exact J62 vW_inFront_17 vW_who_17 vW_17 H locs ls hP hD hS (lv_sub hl [0] rfl) hok
        · have hok := k_neg c31 hok
          refine lv_aload_n hx hb dX6_pass_34 rfl (lv_at hl 0 rfl) ?_
          refine va_get (D := D) (ci := 5) (v := .int (vW_17 12)) (C := RX6) (T := TX6) (N := 13) hx hb ht0 niX6 hown hK hP 0 rfl rfl 12 (by decide) (ht0 _ wd136) (fun _ h9 => h9) rfl dX6_pass_35 ?_
          refine lv_iload_n hx hb dX6_pass_38 rfl (lv_at hl 1 rfl) ?_
          refine lv_ishr hx hb dX6_pass_39 ?_
          refine lv_iconst (v := 1) hx hb dX6_pass_40 (by decide) ?_
          refine lv_iand hx hb dX6_pass_41 ?_
          refine lv_if_eq (tgt := 56) hx hb dX6_pass_42 (by decide) (fun c42 => ?_) (fun c42 => ?_)
          · have hok := k_pos c42 hok
            exact J56 vW_who_17 H locs ls hP hD hS (lv_sub hl [0, 1] rfl) hok
          · have hok := k_neg c42 hok
            refine lv_aload_n hx hb dX6_pass_45 rfl (lv_at hl 0 rfl) ?_
            refine lv_iconst (v := -1) hx hb dX6_pass_46 (by decide) ?_
            refine lv_aload_n hx hb dX6_pass_47 rfl (lv_at hl 0 rfl) ?_
            refine va_get (D := D) (ci := 5) (v := .ref (qW 0)) (C := RX6) (T := TX6) (N := 13) hx hb ht0 niX6 hown hK hP 0 rfl rfl 0 (by decide) (ht0 _ wd110) (fun _ h9 => h9) rfl dX6_pass_48 ?_
            refine lv_iload_n hx hb dX6_pass_51 rfl (lv_at hl 1 rfl) ?_
            obtain ⟨g52, hok⟩ := gd_some hok
            refine va_iald hx hb hK hP 2 0 rfl rfl (okI_in g52) dX6_pass_52 ?_
            obtain ⟨vW_who_53, hc53, hok⟩ := k_bind hok
            refine kCv (wc := (wX6_seat cy aW qW aH vW_17 vW_who_17)) (wc2 := (wX6_seat cy aW qW aH vW_17 vW_who_53)) (wr := [(aH, oX4 vH qH), (qW 0, rI cy 7 vW_cells), (qH 10, rI cy 36 vH_next), (qW 2, rI cy 7 vW_inFront_17), (qH 15, rI cy 7 vH_sizes), (qH 11, rI cy 36 vH_width), (qH 14, rI cy 7 vH_kinds)]) (ws2 := (wX6_pass cy aW qW aH qH vW_17 vH vW_cells vH_next vW_who_53 vW_inFront_17 vH_sizes vH_width vH_kinds)) (kRunV (As := [.int (-1), .int (vW_cells y2_17.toNatClampNeg)]) (rest := []) ⟨hx, hb, hml, hown, ht0⟩ (kX6_seat l D cy _ aW qW aH vW_17 vW_who_17 (-1 : Int32) (vW_cells y2_17.toNatClampNeg) vW_who_53 hc53 _ rfl) (cwV 2 ht0 (gV wd111 wd112 wd113 wd114 wd115) rfl rfl rfl (by decide +kernel) ⟨Nat.le_of_ble_eq_true rfl, Nat.le_of_ble_eq_true rfl⟩) hK hN hP hD [0, 4] rfl (by decide) 0 5 rfl rfl rfl hl.1 rfl (Nat.le_of_ble_eq_true rfl) dX6_pass_53 ⟨Nat.zero_le _, Nat.zero_le _⟩) hP hD hS hA [0, 4] [1, 2, 3, 5, 6, 7, 8] rfl rfl (by decide) (by decide) [7, 0, 1, 2, 8, 3, 4, 5, 6] (by decide) rfl rfl (fun H locs hP hD hS => ?_)
            exact J56 vW_who_53 H locs ls hP hD hS (lv_sub hl [0, 1] rfl) hok
  unfold fX6_pass at hok
  obtain ⟨H, hH⟩ : ∃ H, H = s.heap := ⟨_, rfl⟩
  obtain ⟨locs, hlc⟩ : ∃ x : List Loc, x = [] := ⟨_, rfl⟩
  have hP : va_P D vwCl (wX6_pass cy aW qW aH qH vW vH vW_cells vH_next vW_who vW_inFront vH_sizes vH_width vH_kinds) H := by rw [hH]; exact hP
  have hS : va_S A s.heap H locs := by rw [hH, hlc]; exact hS
  rw [show W p l e _ s m _ below meth c s.heap [] = W p l e _ s m _ below meth c H locs from by rw [hH, hlc]]
  refine lv_aload_n hx hb dX6_pass_0 rfl (lv_at hl 0 rfl) ?_
  refine lv_iload_n hx hb dX6_pass_1 rfl (lv_at hl 1 rfl) ?_
  obtain ⟨⟨vW_2, vW_inFront_2⟩, hc2, hok⟩ := k_bind hok
  try dsimp only at hok
  refine kCv (wc := (wX6_decide cy aW qW aH qH vW vH vW_cells vH_next vW_who vW_inFront vH_sizes vH_width vH_kinds)) (wc2 := (wX6_decide cy aW qW aH qH vW_2 vH vW_cells vH_next vW_who vW_inFront_2 vH_sizes vH_width vH_kinds)) (wr := []) (ws2 := (wX6_pass cy aW qW aH qH vW_2 vH vW_cells vH_next vW_who vW_inFront_2 vH_sizes vH_width vH_kinds)) (kRunV (As := [.int x1]) (rest := []) ⟨hx, hb, hml, hown, ht0⟩ (kX6_decide l D cy _ aW qW aH qH vW vH vW_cells vH_next vW_who vW_inFront vH_sizes vH_width vH_kinds x1 vW_2 vW_inFront_2 hc2 _ rfl) (cwV 1 ht0 (gV wd150 wd151 wd152 wd114 wd153) rfl rfl rfl (by decide +kernel) ⟨Nat.le_of_ble_eq_true rfl, Nat.le_of_ble_eq_true rfl⟩) hK hN hP hD [0, 1, 2, 3, 4, 5, 6, 7, 8] rfl (by decide) 0 5 rfl rfl rfl hl.1 rfl (Nat.le_of_ble_eq_true rfl) dX6_pass_2 ⟨Nat.zero_le _, Nat.zero_le _⟩) hP hD hS hA [0, 1, 2, 3, 4, 5, 6, 7, 8] [] rfl rfl (by decide) (by decide) [0, 1, 2, 3, 4, 5, 6, 7, 8] (by decide) rfl rfl (fun H locs hP hD hS => ?_)
  refine lv_aload_n hx hb dX6_pass_5 rfl (lv_at hl 0 rfl) ?_
  refine lv_dup hx hb dX6_pass_6 rfl ?_
  refine va_get (D := D) (ci := 5) (v := .int (vW_2 5)) (C := RX6) (T := TX6) (N := 13) hx hb ht0 niX6 hown hK hP 0 rfl rfl 5 (by decide) (ht0 _ wd120) (fun _ h9 => h9) rfl dX6_pass_7 ?_
  refine lv_iconst (v := 1) hx hb dX6_pass_10 (by decide) ?_
  refine lv_iadd hx hb dX6_pass_11 ?_
  refine va_put (D := D) (ci := 5) (v := .int ((vW_2 5) + (1 : Int32))) (ty := .int) (C := RX6) (T := TX6) (N := 13) hx hb ht0 niX6 tyX6 tyX6_ok nmX6 hown hK hP hD hS 0 rfl rfl 5 (by decide) (ht0 _ wd120) (fun _ h9 => h9) rfl (by decide +kernel) rfl rfl (Nat.le_of_ble_eq_true rfl) dX6_pass_12 (fun H locs hP hD hS => ?_)
  have hP : va_P D vwCl (wX6_pass cy aW qW aH qH (upd vW_2 5 ((vW_2 5) + (1 : Int32))) vH vW_cells vH_next vW_who vW_inFront_2 vH_sizes vH_width vH_kinds) H := hP
  have hD : va_D A (wX6_pass cy aW qW aH qH (upd vW_2 5 ((vW_2 5) + (1 : Int32))) vH vW_cells vH_next vW_who vW_inFront_2 vH_sizes vH_width vH_kinds) := hD
  refine lv_iconst (v := 0) hx hb dX6_pass_15 (by decide) ?_
  refine lv_istore_n (lv' := [(2, .int 0), (0, .ref aW), (1, .int x1)]) hx hb dX6_pass_16 rfl hl (by decide) rfl (fun ls hl => ?_)
  exact L17 5000 (0 : Int32) vW_inFront_2 vW_who (upd vW_2 5 ((vW_2 5) + (1 : Int32))) H locs ls hP hD hS (lv_sub hl [1, 0] rfl) hok
