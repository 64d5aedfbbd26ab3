def wsX5_takeDigits : List Cond := .code yX5_takeDigits cX5_takeDigits 2 none :: W0
abbrev wX5_takeDigits (cy : Nat → ClassId) (aR : Nat) (qR : Nat → Nat) (aH : Nat) (fvR_2 : Nat) (vR_j11 : Int64) (vR : Nat → Int32) (vR_tape : Nat → Int32) : va_W := [(aR, oX5 vR qR vR_j11 fvR_2), (qR 0, rB cy 900 vR_tape)]
set_option maxHeartbeats 4000000 in
set_option maxRecDepth 100000 in
theorem kX5_takeDigits (l : Launch) (D : va_G) (cy : Nat → ClassId) (sz : Nat) (aR : Nat) (qR : Nat → Nat) (aH : Nat) (vR_j11 : Int64) (vR : Nat → Int32) (vR_tape : Nat → Int32) (z_vR : Nat → Int32) (hok : fX5_takeDigits vR_j11 vR vR_tape = some z_vR) (A : Nat → Prop) (hAe : va_A (wX5_takeDigits cy aR qR aH aH vR_j11 vR vR_tape) sz = A) : Met l yX5_takeDigits wsX5_takeDigits ({ frames := 0, cells := 0, slots := 0, locals := 0 } : Room) (kPre D cy [.ref aR] (wX5_takeDigits cy aR qR aH aH vR_j11 vR vR_tape) sz) (kQv D cy A (wX5_takeDigits cy aR qR aH aH vR_j11 z_vR vR_tape)) 0 0 A := by
  refine Met.ofW (cc := cX5_takeDigits) (maxL := 2) (ret := none) (by decide) rfl ?_
  intro p e s m args below meth c s₁ B hml hv
  obtain ⟨rfl, hsz, hP, hK, hD0, hN⟩ := hv
  have hx := B.exec
  have hb := B.bytes
  have hr := B.returns
  have ht0 : ∀ w ∈ W0, w.before _ s = true := fun w h => atoms_spec (ws := wsX5_takeDigits) B.pre w (List.mem_cons_of_mem _ h)
  have hown : s.vm.findClass RX5 = some m.cls := findClass_of_methodNamed B.named
  have hlocks := B.notSynchronized
  subst hsz
  have hD : va_D A (wX5_takeDigits cy aR qR aH aH vR_j11 vR vR_tape) := by rw [← hAe]; exact hD0.self
  have hA : ∀ q : Nat, s.heap.size ≤ q → A q := fun q h => by rw [← hAe]; exact Or.inr h
  have hS : va_S A s.heap s.heap [] := va_S.rf
  have hl := lv_entry ([.ref aR]) (n := 2) (Nat.le_of_ble_eq_true rfl)
  rw [lg_entry_eq]
  generalize (lg_sl ([.ref aR]) ++ List.replicate (2 - (lg_sl ([.ref aR])).length) Slot.unset).toArray = ls at hl ⊢
  have hl : lv_has ls 2 [(0, .ref aR)] := hl
  generalize hQe : MQ below (kQv D cy A (wX5_takeDigits cy aR qR aH aH vR_j11 z_vR vR_tape)) ([.ref aR] : List Value).toArray s 0 0 A = Q
  have J107 : ∀ (t0_107 : Int32) (vR_107 : Nat → Int32), ∀ (H : Heap) (locs : List Loc) (ls : Array Slot), va_P D vwCl (wX5_takeDigits cy aR qR aH aH vR_j11 vR_107 vR_tape) H → va_D A (wX5_takeDigits cy aR qR aH aH vR_j11 vR_107 vR_tape) → va_S A s.heap H locs → lv_has ls 2 [] → fX5_takeDigits_J107 t0_107 vR_107 = some z_vR → W p l e ({ frames := 0, cells := 0, slots := 0, locals := 0 } : Room) s m ([.ref aR] : List Value).toArray below meth c H locs 0 0 Q (F0 m 107 ls [.int t0_107, .ref aR]) := by
    intro t0_107 vR_107 H locs ls hP hD hS hl hok
    unfold fX5_takeDigits_J107 at hok
    refine va_put (D := D) (ci := 4) (v := .int t0_107) (ty := .int) (C := RX5) (T := TX5) (N := 13) hx hb ht0 niX5 tyX5 tyX5_ok nmX5 hown hK hP hD hS 0 rfl rfl 7 (by decide) (ht0 _ wd269) (fun _ h9 => h9) rfl (by decide +kernel) rfl rfl (Nat.le_of_ble_eq_true rfl) dX5_takeDigits_107 (fun H locs hP hD hS => ?_)
    have hP : va_P D vwCl (wX5_takeDigits cy aR qR aH aH vR_j11 (upd vR_107 7 t0_107) vR_tape) H := hP
    have hD : va_D A (wX5_takeDigits cy aR qR aH aH vR_j11 (upd vR_107 7 t0_107) vR_tape) := hD
    cases hok
    subst hQe; exact W.vret hx hb hr (fun t ht hW => ⟨⟨(), rfl, trivial, by rw [ht]; exact hP, va_K.moved hW.alike hK, hD⟩, hS.F ht⟩) hS.2.2 dX5_takeDigits_110
  have J88 : ∀ (vR_88 : Nat → Int32), ∀ (H : Heap) (locs : List Loc) (ls : Array Slot), va_P D vwCl (wX5_takeDigits cy aR qR aH aH vR_j11 vR_88 vR_tape) H → va_D A (wX5_takeDigits cy aR qR aH aH vR_j11 vR_88 vR_tape) → va_S A s.heap H locs → lv_has ls 2 [(0, .ref aR)] → fX5_takeDigits_J88 vR_88 = some z_vR → W p l e ({ frames := 0, cells := 0, slots := 0, locals := 0 } : Room) s m ([.ref aR] : List Value).toArray below meth c H locs 0 0 Q (F0 m 88 ls []) := by
    intro vR_88 H locs ls hP hD hS hl hok
    unfold fX5_takeDigits_J88 at hok
    refine lv_aload_n hx hb dX5_takeDigits_88 rfl (lv_at hl 0 rfl) ?_
    refine lv_aload_n hx hb dX5_takeDigits_89 rfl (lv_at hl 0 rfl) ?_
    refine va_get (D := D) (ci := 4) (v := .int (vR_88 9)) (C := RX5) (T := TX5) (N := 13) hx hb ht0 niX5 hown hK hP 0 rfl rfl 9 (by decide) (ht0 _ wd270) (fun _ h9 => h9) rfl dX5_takeDigits_90 ?_
    refine lv_aload_n hx hb dX5_takeDigits_93 rfl (lv_at hl 0 rfl) ?_
    refine va_get (D := D) (ci := 4) (v := .int (vR_88 8)) (C := RX5) (T := TX5) (N := 13) hx hb ht0 niX5 hown hK hP 0 rfl rfl 8 (by decide) (ht0 _ wd265) (fun _ h9 => h9) rfl dX5_takeDigits_94 ?_
    refine lv_isub hx hb dX5_takeDigits_97 ?_
    refine lv_iconst (v := 3) hx hb dX5_takeDigits_98 (by decide) ?_
    refine lv_icmp_gt (tgt := 106) hx hb dX5_takeDigits_99 (by decide) (fun c99 => ?_) (fun c99 => ?_)
    · have hok := k_pos c99 hok
      refine lv_iconst (v := 4) hx hb dX5_takeDigits_106 (by decide) ?_
      exact J107 (4 : Int32) vR_88 H locs ls hP hD hS (lv_sub hl [] rfl) hok
    · have hok := k_neg c99 hok
      refine lv_iconst (v := 2) hx hb dX5_takeDigits_102 (by decide) ?_
      refine lv_goto (tgt := 107) hx hb dX5_takeDigits_103 (by decide) ?_
      exact J107 (2 : Int32) vR_88 H locs ls hP hD hS (lv_sub hl [] rfl) hok
  have L10 : ∀ (fuel : Nat) (y1_10 : Int32) (vR_10 : Nat → Int32), ∀ (H : Heap) (locs : List Loc) (ls : Array Slot), va_P D vwCl (wX5_takeDigits cy aR qR aH aH vR_j11 vR_10 vR_tape) H → va_D A (wX5_takeDigits cy aR qR aH aH vR_j11 vR_10 vR_tape) → va_S A s.heap H locs → lv_has ls 2 [(0, .ref aR), (1, .int y1_10)] → lp (fX5_takeDigits_B10 vR_tape) fuel (y1_10, vR_10) = some z_vR → W p l e ({ frames := 0, cells := 0, slots := 0, locals := 0 } : Room) s m ([.ref aR] : List Value).toArray below meth c H locs 0 0 Q (F0 m 10 ls []) := by
    intro fuel
    induction fuel with
    | zero => intro y1_10 vR_10 H locs ls hP hD hS hl hok; exact (lp_0 hok).elim
    | succ fuel ih10 =>
      intro y1_10 vR_10 H locs ls hP hD hS hl hok
      obtain ⟨y10, hok, hL10, hR10⟩ := lp_step hok
      unfold fX5_takeDigits_B10 at hok
      try dsimp only at hok
      refine lv_iload_n hx hb dX5_takeDigits_10 rfl (lv_at hl 1 rfl) ?_
      refine lv_if_lt (tgt := 88) hx hb dX5_takeDigits_11 (by decide) (fun c11 => ?_) (fun c11 => ?_)
      · have hok := k_pos c11 hok
        obtain ⟨e10, hok, he10⟩ := ex_some hok
        have hok := hok.trans (congrArg some (hL10 _ he10))
        exact J88 vR_10 H locs ls hP hD hS (lv_sub hl [0] rfl) hok
      · have hok := k_neg c11 hok
        refine lv_iload_n hx hb dX5_takeDigits_14 rfl (lv_at hl 1 rfl) ?_
        refine lv_aload_n hx hb dX5_takeDigits_15 rfl (lv_at hl 0 rfl) ?_
        refine va_get (D := D) (ci := 4) (v := .int (vR_10 6)) (C := RX5) (T := TX5) (N := 13) hx hb ht0 niX5 hown hK hP 0 rfl rfl 6 (by decide) (ht0 _ wd267) (fun _ h9 => h9) rfl dX5_takeDigits_16 ?_
        refine lv_icmp_ge (tgt := 88) hx hb dX5_takeDigits_19 (by decide) (fun c19 => ?_) (fun c19 => ?_)
        · have hok := k_pos c19 hok
          obtain ⟨e10, hok, he10⟩ := ex_some hok
          have hok := hok.trans (congrArg some (hL10 _ he10))
          exact J88 vR_10 H locs ls hP hD hS (lv_sub hl [0] rfl) hok
        · have hok := k_neg c19 hok
          refine lv_iload_n hx hb dX5_takeDigits_22 rfl (lv_at hl 1 rfl) ?_
          refine lv_sipush (v := 900) hx hb dX5_takeDigits_23 (by decide) ?_
          refine lv_icmp_ge (tgt := 88) hx hb dX5_takeDigits_26 (by decide) (fun c26 => ?_) (fun c26 => ?_)
          · have hok := k_pos c26 hok
            obtain ⟨e10, hok, he10⟩ := ex_some hok
            have hok := hok.trans (congrArg some (hL10 _ he10))
            exact J88 vR_10 H locs ls hP hD hS (lv_sub hl [0] rfl) hok
          · have hok := k_neg c26 hok
            refine lv_aload_n hx hb dX5_takeDigits_29 rfl (lv_at hl 0 rfl) ?_
            refine va_get (D := D) (ci := 4) (v := .ref (qR 0)) (C := RX5) (T := TX5) (N := 13) hx hb ht0 niX5 hown hK hP 0 rfl rfl 0 (by decide) (ht0 _ wd263) (fun _ h9 => h9) rfl dX5_takeDigits_30 ?_
            refine lv_iload_n hx hb dX5_takeDigits_33 rfl (lv_at hl 1 rfl) ?_
            obtain ⟨g34, hok⟩ := gd_some hok
            refine va_bald hx hb hK hP 1 1 rfl rfl (okI_in g34) dX5_takeDigits_34 ?_
            refine lv_bipush (v := 48) hx hb dX5_takeDigits_35 (by decide) ?_
            refine lv_icmp_lt (tgt := 88) hx hb dX5_takeDigits_37 (by decide) (fun c37 => ?_) (fun c37 => ?_)
            · have hok := k_pos c37 hok
              obtain ⟨e10, hok, he10⟩ := ex_some hok
              have hok := hok.trans (congrArg some (hL10 _ he10))
              exact J88 vR_10 H locs ls hP hD hS (lv_sub hl [0] rfl) hok
            · have hok := k_neg c37 hok
              refine lv_aload_n hx hb dX5_takeDigits_40 rfl (lv_at hl 0 rfl) ?_
              refine va_get (D := D) (ci := 4) (v := .ref (qR 0)) (C := RX5) (T := TX5) (N := 13) hx hb ht0 niX5 hown hK hP 0 rfl rfl 0 (by decide) (ht0 _ wd263) (fun _ h9 => h9) rfl dX5_takeDigits_41 ?_
              refine lv_iload_n hx hb dX5_takeDigits_44 rfl (lv_at hl 1 rfl) ?_
              obtain ⟨g45, hok⟩ := gd_some hok
              refine va_bald hx hb hK hP 1 1 rfl rfl (okI_in g45) dX5_takeDigits_45 ?_
              refine lv_bipush (v := 57) hx hb dX5_takeDigits_46 (by decide) ?_
              refine lv_icmp_le (tgt := 54) hx hb dX5_takeDigits_48 (by decide) (fun c48 => ?_) (fun c48 => ?_)
              · have hok := k_pos c48 hok
                refine lv_aload_n hx hb dX5_takeDigits_54 rfl (lv_at hl 0 rfl) ?_
                refine lv_aload_n hx hb dX5_takeDigits_55 rfl (lv_at hl 0 rfl) ?_
                refine va_get (D := D) (ci := 4) (v := .int (vR_10 10)) (C := RX5) (T := TX5) (N := 13) hx hb ht0 niX5 hown hK hP 0 rfl rfl 10 (by decide) (ht0 _ wd272) (fun _ h9 => h9) rfl dX5_takeDigits_56 ?_
                refine lv_bipush (v := 10) hx hb dX5_takeDigits_59 (by decide) ?_
                refine lv_imul hx hb dX5_takeDigits_61 ?_
                refine lv_aload_n hx hb dX5_takeDigits_62 rfl (lv_at hl 0 rfl) ?_
                refine va_get (D := D) (ci := 4) (v := .ref (qR 0)) (C := RX5) (T := TX5) (N := 13) hx hb ht0 niX5 hown hK hP 0 rfl rfl 0 (by decide) (ht0 _ wd263) (fun _ h9 => h9) rfl dX5_takeDigits_63 ?_
                refine lv_iload_n hx hb dX5_takeDigits_66 rfl (lv_at hl 1 rfl) ?_
                obtain ⟨g67, hok⟩ := gd_some hok
                refine va_bald hx hb hK hP 1 1 rfl rfl (okI_in g67) dX5_takeDigits_67 ?_
                refine lv_bipush (v := 48) hx hb dX5_takeDigits_68 (by decide) ?_
                refine lv_isub hx hb dX5_takeDigits_70 ?_
                refine lv_iadd hx hb dX5_takeDigits_71 ?_
                refine va_put (D := D) (ci := 4) (v := .int (((vR_10 10) * (10 : Int32)) + ((vR_tape y1_10.toNatClampNeg) - (48 : Int32)))) (ty := .int) (C := RX5) (T := TX5) (N := 13) hx hb ht0 niX5 tyX5 tyX5_ok nmX5 hown hK hP hD hS 0 rfl rfl 10 (by decide) (ht0 _ wd272) (fun _ h9 => h9) rfl (by decide +kernel) rfl rfl (Nat.le_of_ble_eq_true rfl) dX5_takeDigits_72 (fun H locs hP hD hS => ?_)
                have hP : va_P D vwCl (wX5_takeDigits cy aR qR aH aH vR_j11 (upd vR_10 10 (((vR_10 10) * (10 : Int32)) + ((vR_tape y1_10.toNatClampNeg) - (48 : Int32)))) vR_tape) H := hP
                have hD : va_D A (wX5_takeDigits cy aR qR aH aH vR_j11 (upd vR_10 10 (((vR_10 10) * (10 : Int32)) + ((vR_tape y1_10.toNatClampNeg) - (48 : Int32)))) vR_tape) := hD
                refine lv_aload_n hx hb dX5_takeDigits_75 rfl (lv_at hl 0 rfl) ?_
                refine lv_iload_n hx hb dX5_takeDigits_76 rfl (lv_at hl 1 rfl) ?_
                refine lv_iconst (v := 1) hx hb dX5_takeDigits_77 (by decide) ?_
                refine lv_iadd hx hb dX5_takeDigits_78 ?_
                refine va_put (D := D) (ci := 4) (v := .int (y1_10 + (1 : Int32))) (ty := .int) (C := RX5) (T := TX5) (N := 13) hx hb ht0 niX5 tyX5 tyX5_ok nmX5 hown hK hP hD hS 0 rfl rfl 9 (by decide) (ht0 _ wd270) (fun _ h9 => h9) rfl (by decide +kernel) rfl rfl (Nat.le_of_ble_eq_true rfl) dX5_takeDigits_79 (fun H locs hP hD hS => ?_)
                have hP : va_P D vwCl (wX5_takeDigits cy aR qR aH aH vR_j11 (upd (upd vR_10 9 (y1_10 + (1 : Int32))) 10 (((vR_10 10) * (10 : Int32)) + ((vR_tape y1_10.toNatClampNeg) - (48 : Int32)))) vR_tape) H := hP
                have hD : va_D A (wX5_takeDigits cy aR qR aH aH vR_j11 (upd (upd vR_10 9 (y1_10 + (1 : Int32))) 10 (((vR_10 10) * (10 : Int32)) + ((vR_tape y1_10.toNatClampNeg) - (48 : Int32)))) vR_tape) := hD
                refine lv_iinc (v := (y1_10 + 1)) (lv' := [(1, .int (y1_10 + 1)), (0, .ref aR)]) hx hb dX5_takeDigits_82 hl (k := 1) rfl (by first | rfl | decide) (by decide) rfl (fun ls hl => ?_)
                refine lv_goto (tgt := 10) hx hb dX5_takeDigits_85 (by decide) ?_
                exact ih10 (y1_10 + 1) (upd (upd vR_10 9 (y1_10 + (1 : Int32))) 10 (((vR_10 10) * (10 : Int32)) + ((vR_tape y1_10.toNatClampNeg) - (48 : Int32)))) H locs ls hP hD hS (lv_sub hl [1, 0] rfl) (hR10 _ (Option.some.inj hok).symm)
              · have hok := k_neg c48 hok
                obtain ⟨e10, hok, he10⟩ := ex_some hok
                have hok := hok.trans (congrArg some (hL10 _ he10))
                refine lv_goto (tgt := 88) hx hb dX5_takeDigits_51 (by decide) ?_
                exact J88 vR_10 H locs ls hP hD hS (lv_sub hl [0] rfl) hok
  unfold fX5_takeDigits at hok
  obtain ⟨H, hH⟩ : ∃ H, H = s.heap := ⟨_, rfl⟩
  obtain ⟨locs, hlc⟩ : ∃ x : List Loc, x = [] := ⟨_, rfl⟩
  have hP : va_P D vwCl (wX5_takeDigits cy aR qR aH aH vR_j11 vR vR_tape) H := by rw [hH]; exact hP
  have hS : va_S A s.heap H locs := by rw [hH, hlc]; exact hS
  rw [show W p l e _ s m _ below meth c s.heap [] = W p l e _ s m _ below meth c H locs from by rw [hH, hlc]]
  refine lv_aload_n hx hb dX5_takeDigits_0 rfl (lv_at hl 0 rfl) ?_
  refine lv_iconst (v := 0) hx hb dX5_takeDigits_1 (by decide) ?_
  refine va_put (D := D) (ci := 4) (v := .int 0) (ty := .int) (C := RX5) (T := TX5) (N := 13) hx hb ht0 niX5 tyX5 tyX5_ok nmX5 hown hK hP hD hS 0 rfl rfl 10 (by decide) (ht0 _ wd272) (fun _ h9 => h9) rfl (by decide +kernel) rfl rfl (Nat.le_of_ble_eq_true rfl) dX5_takeDigits_2 (fun H locs hP hD hS => ?_)
  have hP : va_P D vwCl (wX5_takeDigits cy aR qR aH aH vR_j11 (upd vR 10 (0 : Int32)) vR_tape) H := hP
  have hD : va_D A (wX5_takeDigits cy aR qR aH aH vR_j11 (upd vR 10 (0 : Int32)) vR_tape) := hD
  refine lv_aload_n hx hb dX5_takeDigits_5 rfl (lv_at hl 0 rfl) ?_
  refine va_get (D := D) (ci := 4) (v := .int (vR 8)) (C := RX5) (T := TX5) (N := 13) hx hb ht0 niX5 hown hK hP 0 rfl rfl 8 (by decide) (ht0 _ wd265) (fun _ h9 => h9) rfl dX5_takeDigits_6 ?_
  refine lv_istore_n (lv' := [(1, .int (vR 8)), (0, .ref aR)]) hx hb dX5_takeDigits_9 rfl hl (by decide) rfl (fun ls hl => ?_)
  exact L10 5000 (vR 8) (upd vR 10 (0 : Int32)) H locs ls hP hD hS (lv_sub hl [1, 0] rfl) hok
def wsX5_step : List Cond := .code yX5_step cX5_step 3 none :: W0
abbrev wX5_step (cy : Nat → ClassId) (aR : Nat) (qR : Nat → Nat) (aH : Nat) (fvR_2 : Nat) (vR_j11 : Int64) (vR : Nat → Int32) (vR_tape : Nat → Int32) : va_W := [(aR, oX5 vR qR vR_j11 fvR_2), (qR 0, rB cy 900 vR_tape)]
set_option maxHeartbeats 4000000 in
set_option maxRecDepth 100000 in
theorem kX5_step (l : Launch) (D : va_G) (cy : Nat → ClassId) (sz : Nat) (aR : Nat) (qR : Nat → Nat) (aH : Nat) (vR_j11 : Int64) (vR : Nat → Int32) (vR_tape : Nat → Int32) (z_vR_j11 : Int64) (z_vR : Nat → Int32) (hok : fX5_step vR_j11 vR vR_tape = some (z_vR_j11, z_vR)) (A : Nat → Prop) (hAe : va_A (wX5_step cy aR qR aH aH vR_j11 vR vR_tape) sz = A) : Met l yX5_step wsX5_step ({ frames := 1, cells := 0, slots := 0, locals := 21 } : Room) (kPre D cy [.ref aR] (wX5_step cy aR qR aH aH vR_j11 vR vR_tape) sz) (kQv D cy A (wX5_step cy aR qR aH aH z_vR_j11 z_vR vR_tape)) 0 0 A := by
  refine Met.ofW (cc := cX5_step) (maxL := 3) (ret := none) (by decide) rfl ?_
  intro p e s m args below meth c s₁ B hml hv
  obtain ⟨rfl, hsz, hP, hK, hD0, hN⟩ := hv
  have hx := B.exec
  have hb := B.bytes
  have hr := B.returns
  have ht0 : ∀ w ∈ W0, w.before _ s = true := fun w h => atoms_spec (ws := wsX5_step) B.pre w (List.mem_cons_of_mem _ h)
  have hown : s.vm.findClass RX5 = some m.cls := findClass_of_methodNamed B.named
  have hlocks := B.notSynchronized
  subst hsz
  have hD : va_D A (wX5_step cy aR qR aH aH vR_j11 vR vR_tape) := by rw [← hAe]; exact hD0.self
  have hA : ∀ q : Nat, s.heap.size ≤ q → A q := fun q h => by rw [← hAe]; exact Or.inr h
  have hS : va_S A s.heap s.heap [] := va_S.rf
  have hl := lv_entry ([.ref aR]) (n := 3) (Nat.le_of_ble_eq_true rfl)
  rw [lg_entry_eq]
  generalize (lg_sl ([.ref aR]) ++ List.replicate (3 - (lg_sl ([.ref aR])).length) Slot.unset).toArray = ls at hl ⊢
  have hl : lv_has ls 3 [(0, .ref aR)] := hl
  generalize hQe : MQ below (kQv D cy A (wX5_step cy aR qR aH aH z_vR_j11 z_vR vR_tape)) ([.ref aR] : List Value).toArray s 0 0 A = Q
  have J117 : ∀ (vR_11_117 : Int64) (vR_117 : Nat → Int32), ∀ (H : Heap) (locs : List Loc) (ls : Array Slot), va_P D vwCl (wX5_step cy aR qR aH aH vR_11_117 vR_117 vR_tape) H → va_D A (wX5_step cy aR qR aH aH vR_11_117 vR_117 vR_tape) → va_S A s.heap H locs → lv_has ls 3 [] → fX5_step_J117 vR_11_117 vR_117 = some (z_vR_j11, z_vR) → W p l e ({ frames := 1, cells := 0, slots := 0, locals := 21 } : Room) s m ([.ref aR] : List Value).toArray below meth c H locs 0 0 Q (F0 m 117 ls []) := by
    intro vR_11_117 vR_117 H locs ls hP hD hS hl hok
    unfold fX5_step_J117 at hok
    cases hok
    subst hQe; exact W.vret hx hb hr (fun t ht hW => ⟨⟨(), rfl, trivial, by rw [ht]; exact hP, va_K.moved hW.alike hK, hD⟩, hS.F ht⟩) hS.2.2 dX5_step_117
  have J107 : ∀ (y1_107 : Int32) (t0_107 : Int32) (vR_107 : Nat → Int32), ∀ (H : Heap) (locs : List Loc) (ls : Array Slot), va_P D vwCl (wX5_step cy aR qR aH aH vR_j11 vR_107 vR_tape) H → va_D A (wX5_step cy aR qR aH aH vR_j11 vR_107 vR_tape) → va_S A s.heap H locs → lv_has ls 3 [(0, .ref aR), (1, .int y1_107)] → fX5_step_J107 vR_j11 y1_107 t0_107 vR_107 = some (z_vR_j11, z_vR) → W p l e ({ frames := 1, cells := 0, slots := 0, locals := 21 } : Room) s m ([.ref aR] : List Value).toArray below meth c H locs 0 0 Q (F0 m 107 ls [.int t0_107, .ref aR]) := by
    intro y1_107 t0_107 vR_107 H locs ls hP hD hS hl hok
    unfold fX5_step_J107 at hok
    refine va_put (D := D) (ci := 4) (v := .int t0_107) (ty := .int) (C := RX5) (T := TX5) (N := 13) hx hb ht0 niX5 tyX5 tyX5_ok nmX5 hown hK hP hD hS 0 rfl rfl 7 (by decide) (ht0 _ wd269) (fun _ h9 => h9) rfl (by decide +kernel) rfl rfl (Nat.le_of_ble_eq_true rfl) dX5_step_107 (fun H locs hP hD hS => ?_)
    have hP : va_P D vwCl (wX5_step cy aR qR aH aH vR_j11 (upd vR_107 7 t0_107) vR_tape) H := hP
    have hD : va_D A (wX5_step cy aR qR aH aH vR_j11 (upd vR_107 7 t0_107) vR_tape) := hD
    refine lv_aload_n hx hb dX5_step_110 rfl (lv_at hl 0 rfl) ?_
    refine lv_iload_n hx hb dX5_step_111 rfl (lv_at hl 1 rfl) ?_
    refine lv_iconst (v := 1) hx hb dX5_step_112 (by decide) ?_
    refine lv_iadd hx hb dX5_step_113 ?_
    refine va_put (D := D) (ci := 4) (v := .int (y1_107 + (1 : Int32))) (ty := .int) (C := RX5) (T := TX5) (N := 13) hx hb ht0 niX5 tyX5 tyX5_ok nmX5 hown hK hP hD hS 0 rfl rfl 9 (by decide) (ht0 _ wd270) (fun _ h9 => h9) rfl (by decide +kernel) rfl rfl (Nat.le_of_ble_eq_true rfl) dX5_step_114 (fun H locs hP hD hS => ?_)
    have hP : va_P D vwCl (wX5_step cy aR qR aH aH vR_j11 (upd (upd vR_107 7 t0_107) 9 (y1_107 + (1 : Int32))) vR_tape) H := hP
    have hD : va_D A (wX5_step cy aR qR aH aH vR_j11 (upd (upd vR_107 7 t0_107) 9 (y1_107 + (1 : Int32))) vR_tape) := hD
    exact J117 vR_j11 (upd (upd vR_107 7 t0_107) 9 (y1_107 + (1 : Int32))) H locs ls hP hD hS (lv_sub hl [] rfl) hok
  have J95 : ∀ (y1_95 : Int32) (y2_95 : Int32) (vR_95 : Nat → Int32), ∀ (H : Heap) (locs : List Loc) (ls : Array Slot), va_P D vwCl (wX5_step cy aR qR aH aH vR_j11 vR_95 vR_tape) H → va_D A (wX5_step cy aR qR aH aH vR_j11 vR_95 vR_tape) → va_S A s.heap H locs → lv_has ls 3 [(0, .ref aR), (1, .int y1_95), (2, .int y2_95)] → fX5_step_J95 vR_j11 y1_95 y2_95 vR_95 = some (z_vR_j11, z_vR) → W p l e ({ frames := 1, cells := 0, slots := 0, locals := 21 } : Room) s m ([.ref aR] : List Value).toArray below meth c H locs 0 0 Q (F0 m 95 ls []) := by
    intro y1_95 y2_95 vR_95 H locs ls hP hD hS hl hok
    unfold fX5_step_J95 at hok
    refine lv_aload_n hx hb dX5_step_95 rfl (lv_at hl 0 rfl) ?_
    refine lv_iload_n hx hb dX5_step_96 rfl (lv_at hl 2 rfl) ?_
    refine lv_bipush (v := 59) hx hb dX5_step_97 (by decide) ?_
    refine lv_icmp_ne (tgt := 106) hx hb dX5_step_99 (by decide) (fun c99 => ?_) (fun c99 => ?_)
    · have hok := k_neg c99 hok
      refine lv_iconst (v := 4) hx hb dX5_step_106 (by decide) ?_
      exact J107 y1_95 (4 : Int32) vR_95 H locs ls hP hD hS (lv_sub hl [0, 1] rfl) hok
    · have hok := k_pos c99 hok
      refine lv_iconst (v := 3) hx hb dX5_step_102 (by decide) ?_
      refine lv_goto (tgt := 107) hx hb dX5_step_103 (by decide) ?_
      exact J107 y1_95 (3 : Int32) vR_95 H locs ls hP hD hS (lv_sub hl [0, 1] rfl) hok
  have J76 : ∀ (y1_76 : Int32) (y2_76 : Int32) (vR_76 : Nat → Int32), ∀ (H : Heap) (locs : List Loc) (ls : Array Slot), va_P D vwCl (wX5_step cy aR qR aH aH vR_j11 vR_76 vR_tape) H → va_D A (wX5_step cy aR qR aH aH vR_j11 vR_76 vR_tape) → va_S A s.heap H locs → lv_has ls 3 [(0, .ref aR), (1, .int y1_76), (2, .int y2_76)] → fX5_step_J76 vR_j11 vR_tape y1_76 y2_76 vR_76 = some (z_vR_j11, z_vR) → W p l e ({ frames := 1, cells := 0, slots := 0, locals := 21 } : Room) s m ([.ref aR] : List Value).toArray below meth c H locs 0 0 Q (F0 m 76 ls []) := by
    intro y1_76 y2_76 vR_76 H locs ls hP hD hS hl hok
    unfold fX5_step_J76 at hok
    refine lv_iload_n hx hb dX5_step_76 rfl (lv_at hl 2 rfl) ?_
    refine lv_bipush (v := 48) hx hb dX5_step_77 (by decide) ?_
    refine lv_icmp_lt (tgt := 95) hx hb dX5_step_79 (by decide) (fun c79 => ?_) (fun c79 => ?_)
    · have hok := k_pos c79 hok
      exact J95 y1_76 y2_76 vR_76 H locs ls hP hD hS (lv_sub hl [0, 1, 2] rfl) hok
    · have hok := k_neg c79 hok
      refine lv_iload_n hx hb dX5_step_82 rfl (lv_at hl 2 rfl) ?_
      refine lv_bipush (v := 57) hx hb dX5_step_83 (by decide) ?_
      refine lv_icmp_gt (tgt := 95) hx hb dX5_step_85 (by decide) (fun c85 => ?_) (fun c85 => ?_)
      · have hok := k_pos c85 hok
        exact J95 y1_76 y2_76 vR_76 H locs ls hP hD hS (lv_sub hl [0, 1, 2] rfl) hok
      · have hok := k_neg c85 hok
        refine lv_aload_n hx hb dX5_step_88 rfl (lv_at hl 0 rfl) ?_
        obtain ⟨vR_89, hc89, hok⟩ := k_bind hok
        refine kCv (wc := (wX5_takeDigits cy aR qR aH aH vR_j11 vR_76 vR_tape)) (wc2 := (wX5_takeDigits cy aR qR aH aH vR_j11 vR_89 vR_tape)) (wr := []) (ws2 := (wX5_step cy aR qR aH aH vR_j11 vR_89 vR_tape)) (kRunV (As := []) (rest := []) ⟨hx, hb, hml, hown, ht0⟩ (kX5_takeDigits l D cy _ aR qR aH vR_j11 vR_76 vR_tape vR_89 hc89 _ rfl) (cwV 0 ht0 (gV wd273 wd274 wd275 wd276 wd277) rfl rfl rfl (by decide +kernel) ⟨Nat.le_of_ble_eq_true rfl, Nat.le_of_ble_eq_true rfl⟩) hK hN hP hD [0, 1] rfl (by decide) 0 4 rfl rfl rfl hl.1 rfl (Nat.le_of_ble_eq_true rfl) dX5_step_89 ⟨Nat.zero_le _, Nat.zero_le _⟩) hP hD hS hA [0, 1] [] rfl rfl (by decide) (by decide) [0, 1] (by decide) rfl rfl (fun H locs hP hD hS => ?_)
        refine lv_goto (tgt := 117) hx hb dX5_step_92 (by decide) ?_
        exact J117 vR_j11 vR_89 H locs ls hP hD hS (lv_sub hl [] rfl) hok
  have J29 : ∀ (y1_29 : Int32), ∀ (H : Heap) (locs : List Loc) (ls : Array Slot), va_P D vwCl (wX5_step cy aR qR aH aH vR_j11 vR vR_tape) H → va_D A (wX5_step cy aR qR aH aH vR_j11 vR vR_tape) → va_S A s.heap H locs → lv_has ls 3 [(0, .ref aR), (1, .int y1_29)] → fX5_step_J29 vR_j11 vR vR_tape y1_29 = some (z_vR_j11, z_vR) → W p l e ({ frames := 1, cells := 0, slots := 0, locals := 21 } : Room) s m ([.ref aR] : List Value).toArray below meth c H locs 0 0 Q (F0 m 29 ls []) := by
    intro y1_29 H locs ls hP hD hS hl hok
    unfold fX5_step_J29 at hok
    refine lv_aload_n hx hb dX5_step_29 rfl (lv_at hl 0 rfl) ?_
    refine lv_iload_n hx hb dX5_step_30 rfl (lv_at hl 1 rfl) ?_
    refine va_put (D := D) (ci := 4) (v := .int y1_29) (ty := .int) (C := RX5) (T := TX5) (N := 13) hx hb ht0 niX5 tyX5 tyX5_ok nmX5 hown hK hP hD hS 0 rfl rfl 8 (by decide) (ht0 _ wd265) (fun _ h9 => h9) rfl (by decide +kernel) rfl rfl (Nat.le_of_ble_eq_true rfl) dX5_step_31 (fun H locs hP hD hS => ?_)
    have hP : va_P D vwCl (wX5_step cy aR qR aH aH vR_j11 (upd vR 8 y1_29) vR_tape) H := hP
    have hD : va_D A (wX5_step cy aR qR aH aH vR_j11 (upd vR 8 y1_29) vR_tape) := hD
    refine lv_aload_n hx hb dX5_step_34 rfl (lv_at hl 0 rfl) ?_
    refine lv_iload_n hx hb dX5_step_35 rfl (lv_at hl 1 rfl) ?_
    refine va_put (D := D) (ci := 4) (v := .int y1_29) (ty := .int) (C := RX5) (T := TX5) (N := 13) hx hb ht0 niX5 tyX5 tyX5_ok nmX5 hown hK hP hD hS 0 rfl rfl 9 (by decide) (ht0 _ wd270) (fun _ h9 => h9) rfl (by decide +kernel) rfl rfl (Nat.le_of_ble_eq_true rfl) dX5_step_36 (fun H locs hP hD hS => ?_)
    have hP : va_P D vwCl (wX5_step cy aR qR aH aH vR_j11 (upd (upd vR 8 y1_29) 9 y1_29) vR_tape) H := hP
    have hD : va_D A (wX5_step cy aR qR aH aH vR_j11 (upd (upd vR 8 y1_29) 9 y1_29) vR_tape) := hD
    refine lv_aload_n hx hb dX5_step_39 rfl (lv_at hl 0 rfl) ?_
    refine lv_iload_n hx hb dX5_step_40 rfl (lv_at hl 1 rfl) ?_
    obtain ⟨r41, hc41, hok⟩ := k_bind hok
    refine kCi (wc := (wX5_byteAt cy aR qR aH aH vR_j11 (upd (upd vR 8 y1_29) 9 y1_29) vR_tape)) (wc2 := (wX5_byteAt cy aR qR aH aH vR_j11 (upd (upd vR 8 y1_29) 9 y1_29) vR_tape)) (wr := []) (ws2 := (wX5_step cy aR qR aH aH vR_j11 (upd (upd vR 8 y1_29) 9 y1_29) vR_tape)) (kRunV (As := [.int y1_29]) (rest := []) ⟨hx, hb, hml, hown, ht0⟩ (kX5_byteAt l D cy _ aR qR aH vR_j11 (upd (upd vR 8 y1_29) 9 y1_29) vR_tape y1_29 r41 hc41 _ rfl) (cwV 1 ht0 (gV wd278 wd279 wd280 wd276 wd281) rfl rfl rfl (by decide +kernel) ⟨Nat.le_of_ble_eq_true rfl, Nat.le_of_ble_eq_true rfl⟩) hK hN hP hD [0, 1] rfl (by decide) 0 4 rfl rfl rfl hl.1 rfl (Nat.le_of_ble_eq_true rfl) dX5_step_41 ⟨Nat.zero_le _, Nat.zero_le _⟩) hP hD hS hA [0, 1] [] rfl rfl (by decide) (by decide) [0, 1] (by decide) rfl rfl (fun H locs hP hD hS => ?_)
    refine lv_istore_n (lv' := [(2, .int r41), (0, .ref aR), (1, .int y1_29)]) hx hb dX5_step_44 rfl hl (by decide) rfl (fun ls hl => ?_)
    refine lv_iload_n hx hb dX5_step_45 rfl (lv_at hl 0 rfl) ?_
    refine lv_if_ge (tgt := 57) hx hb dX5_step_46 (by decide) (fun c46 => ?_) (fun c46 => ?_)
    · have hok := k_pos c46 hok
      refine lv_iload_n hx hb dX5_step_57 rfl (lv_at hl 0 rfl) ?_
      refine lv_bipush (v := 97) hx hb dX5_step_58 (by decide) ?_
      refine lv_icmp_lt (tgt := 76) hx hb dX5_step_60 (by decide) (fun c60 => ?_) (fun c60 => ?_)
      · have hok := k_pos c60 hok
        exact J76 y1_29 r41 (upd (upd vR 8 y1_29) 9 y1_29) H locs ls hP hD hS (lv_sub hl [1, 2, 0] rfl) hok
      · have hok := k_neg c60 hok
        refine lv_iload_n hx hb dX5_step_63 rfl (lv_at hl 0 rfl) ?_
        refine lv_bipush (v := 122) hx hb dX5_step_64 (by decide) ?_
        refine lv_icmp_gt (tgt := 76) hx hb dX5_step_66 (by decide) (fun c66 => ?_) (fun c66 => ?_)
        · have hok := k_pos c66 hok
          exact J76 y1_29 r41 (upd (upd vR 8 y1_29) 9 y1_29) H locs ls hP hD hS (lv_sub hl [1, 2, 0] rfl) hok
        · have hok := k_neg c66 hok
          refine lv_aload_n hx hb dX5_step_69 rfl (lv_at hl 1 rfl) ?_
          obtain ⟨⟨vR_j11_70, vR_70⟩, hc70, hok⟩ := k_bind hok
          try dsimp only at hok
          refine kCv (wc := (wX5_takeLetters cy aR qR aH aH vR_j11 (upd (upd vR 8 y1_29) 9 y1_29) vR_tape)) (wc2 := (wX5_takeLetters cy aR qR aH aH vR_j11_70 vR_70 vR_tape)) (wr := []) (ws2 := (wX5_step cy aR qR aH aH vR_j11_70 vR_70 vR_tape)) (kRunV (As := []) (rest := []) ⟨hx, hb, hml, hown, ht0⟩ (kX5_takeLetters l D cy _ aR qR aH vR_j11 (upd (upd vR 8 y1_29) 9 y1_29) vR_tape vR_j11_70 vR_70 hc70 _ rfl) (cwV 0 ht0 (gV wd282 wd283 wd284 wd276 wd285) rfl rfl rfl (by decide +kernel) ⟨Nat.le_of_ble_eq_true rfl, Nat.le_of_ble_eq_true rfl⟩) hK hN hP hD [0, 1] rfl (by decide) 0 4 rfl rfl rfl hl.1 rfl (Nat.le_of_ble_eq_true rfl) dX5_step_70 ⟨Nat.zero_le _, Nat.zero_le _⟩) hP hD hS hA [0, 1] [] rfl rfl (by decide) (by decide) [0, 1] (by decide) rfl rfl (fun H locs hP hD hS => ?_)
          refine lv_goto (tgt := 117) hx hb dX5_step_73 (by decide) ?_
          exact J117 vR_j11_70 vR_70 H locs ls hP hD hS (lv_sub hl [] rfl) hok
    · have hok := k_neg c46 hok
      refine lv_aload_n hx hb dX5_step_49 rfl (lv_at hl 1 rfl) ?_
      refine lv_iconst (v := 0) hx hb dX5_step_50 (by decide) ?_
      refine va_put (D := D) (ci := 4) (v := .int 0) (ty := .int) (C := RX5) (T := TX5) (N := 13) hx hb ht0 niX5 tyX5 tyX5_ok nmX5 hown hK hP hD hS 0 rfl rfl 7 (by decide) (ht0 _ wd269) (fun _ h9 => h9) rfl (by decide +kernel) rfl rfl (Nat.le_of_ble_eq_true rfl) dX5_step_51 (fun H locs hP hD hS => ?_)
      have hP : va_P D vwCl (wX5_step cy aR qR aH aH vR_j11 (upd (upd (upd vR 7 (0 : Int32)) 8 y1_29) 9 y1_29) vR_tape) H := hP
      have hD : va_D A (wX5_step cy aR qR aH aH vR_j11 (upd (upd (upd vR 7 (0 : Int32)) 8 y1_29) 9 y1_29) vR_tape) := hD
      refine lv_goto (tgt := 117) hx hb dX5_step_54 (by decide) ?_
      exact J117 vR_j11 (upd (upd (upd vR 7 (0 : Int32)) 8 y1_29) 9 y1_29) H locs ls hP hD hS (lv_sub hl [] rfl) hok
  have L5 : ∀ (fuel : Nat) (y1_5 : Int32), ∀ (H : Heap) (locs : List Loc) (ls : Array Slot), va_P D vwCl (wX5_step cy aR qR aH aH vR_j11 vR vR_tape) H → va_D A (wX5_step cy aR qR aH aH vR_j11 vR vR_tape) → va_S A s.heap H locs → lv_has ls 3 [(0, .ref aR), (1, .int y1_5)] → lp (fX5_step_B5 vR_j11 vR vR_tape) fuel y1_5 = some (z_vR_j11, z_vR) → W p l e ({ frames := 1, cells := 0, slots := 0, locals := 21 } : Room) s m ([.ref aR] : List Value).toArray below meth c H locs 0 0 Q (F0 m 5 ls []) := by
    intro fuel
    induction fuel with
    | zero => intro y1_5 H locs ls hP hD hS hl hok; exact (lp_0 hok).elim
    | succ fuel ih5 =>
      intro y1_5 H locs ls hP hD hS hl hok
      obtain ⟨y5, hok, hL5, hR5⟩ := lp_step hok
      unfold fX5_step_B5 at hok
      refine lv_iload_n hx hb dX5_step_5 rfl (lv_at hl 1 rfl) ?_
      refine lv_aload_n hx hb dX5_step_6 rfl (lv_at hl 0 rfl) ?_
      refine va_get (D := D) (ci := 4) (v := .int (vR 6)) (C := RX5) (T := TX5) (N := 13) hx hb ht0 niX5 hown hK hP 0 rfl rfl 6 (by decide) (ht0 _ wd267) (fun _ h9 => h9) rfl dX5_step_7 ?_
      refine lv_icmp_ge (tgt := 29) hx hb dX5_step_10 (by decide) (fun c10 => ?_) (fun c10 => ?_)
      · have hok := k_pos c10 hok
        obtain ⟨e5, hok, he5⟩ := ex_some hok
        have hok := hok.trans (congrArg some (hL5 _ he5))
        exact J29 y1_5 H locs ls hP hD hS (lv_sub hl [0, 1] rfl) hok
      · have hok := k_neg c10 hok
        refine lv_aload_n hx hb dX5_step_13 rfl (lv_at hl 0 rfl) ?_
        refine lv_iload_n hx hb dX5_step_14 rfl (lv_at hl 1 rfl) ?_
        obtain ⟨r15, hc15, hok⟩ := k_bind hok
        refine kCi (wc := (wX5_byteAt cy aR qR aH aH vR_j11 vR vR_tape)) (wc2 := (wX5_byteAt cy aR qR aH aH vR_j11 vR vR_tape)) (wr := []) (ws2 := (wX5_step cy aR qR aH aH vR_j11 vR vR_tape)) (kRunV (As := [.int y1_5]) (rest := []) ⟨hx, hb, hml, hown, ht0⟩ (kX5_byteAt l D cy _ aR qR aH vR_j11 vR vR_tape y1_5 r15 hc15 _ rfl) (cwV 1 ht0 (gV wd278 wd279 wd280 wd276 wd281) rfl rfl rfl (by decide +kernel) ⟨Nat.le_of_ble_eq_true rfl, Nat.le_of_ble_eq_true rfl⟩) hK hN hP hD [0, 1] rfl (by decide) 0 4 rfl rfl rfl hl.1 rfl (Nat.le_of_ble_eq_true rfl) dX5_step_15 ⟨Nat.zero_le _, Nat.zero_le _⟩) hP hD hS hA [0, 1] [] rfl rfl (by decide) (by decide) [0, 1] (by decide) rfl rfl (fun H locs hP hD hS => ?_)
        refine lv_bipush (v := 32) hx hb dX5_step_18 (by decide) ?_
        refine lv_icmp_ne (tgt := 29) hx hb dX5_step_20 (by decide) (fun c20 => ?_) (fun c20 => ?_)
        · have hok := k_neg c20 hok
          obtain ⟨e5, hok, he5⟩ := ex_some hok
          have hok := hok.trans (congrArg some (hL5 _ he5))
          exact J29 y1_5 H locs ls hP hD hS (lv_sub hl [0, 1] rfl) hok
        · have hok := k_pos c20 hok
          refine lv_iinc (v := (y1_5 + 1)) (lv' := [(1, .int (y1_5 + 1)), (0, .ref aR)]) hx hb dX5_step_23 hl (k := 1) rfl (by first | rfl | decide) (by decide) rfl (fun ls hl => ?_)
          refine lv_goto (tgt := 5) hx hb dX5_step_26 (by decide) ?_
          exact ih5 (y1_5 + 1) H locs ls hP hD hS (lv_sub hl [1, 0] rfl) (hR5 _ (Option.some.inj hok).symm)
  unfold fX5_step at hok
  obtain ⟨H, hH⟩ : ∃ H, H = s.heap := ⟨_, rfl⟩
  obtain ⟨locs, hlc⟩ : ∃ x : List Loc, x = [] := ⟨_, rfl⟩
  have hP : va_P D vwCl (wX5_step cy aR qR aH aH vR_j11 vR vR_tape) H := by rw [hH]; exact hP
  have hS : va_S A s.heap H locs := by rw [hH, hlc]; exact hS
  rw [show W p l e _ s m _ below meth c s.heap [] = W p l e _ s m _ below meth c H locs from by rw [hH, hlc]]
  refine lv_aload_n hx hb dX5_step_0 rfl (lv_at hl 0 rfl) ?_
  refine va_get (D := D) (ci := 4) (v := .int (vR 9)) (C := RX5) (T := TX5) (N := 13) hx hb ht0 niX5 hown hK hP 0 rfl rfl 9 (by decide) (ht0 _ wd270) (fun _ h9 => h9) rfl dX5_step_1 ?_
  refine lv_istore_n (lv' := [(1, .int (vR 9)), (0, .ref aR)]) hx hb dX5_step_4 rfl hl (by decide) rfl (fun ls hl => ?_)
  exact L5 5000 (vR 9) H locs ls hP hD hS (lv_sub hl [1, 0] rfl) hok
def wsJ0_coder_7d493 : List Cond := .code yJ0_coder_7d493 cJ0_coder_7d493 1 (some .byte) :: W0
abbrev wJ0_coder_7d493 (cy : Nat → ClassId)  : va_W := []
set_option maxHeartbeats 4000000 in
set_option maxRecDepth 100000 in
theorem kJ0_coder_7d493 (l : Launch) (D : va_G) (cy : Nat → ClassId) (ad : (Nat → Nat) × (Nat → Nat)) (sz : Nat) (x0 : Nat) (zr : Int32) (hok : fJ0_coder_7d493 x0 = some zr) (A : Nat → Prop) (hAe : va_A (wJ0_coder_7d493 cy ) sz = A) : Met l yJ0_coder_7d493 wsJ0_coder_7d493 ({ frames := 0, cells := 0, slots := 0, locals := 0 } : Room) (kPreS D cy ad [.ref (ad.1 x0)] (wJ0_coder_7d493 cy ) sz A) (kQi D cy zr A (wJ0_coder_7d493 cy )) 0 0 A := by
  refine Met.ofW (cc := cJ0_coder_7d493) (maxL := 1) (ret := (some .byte)) (by decide) rfl ?_
  intro p e s m args below meth c s₁ B hml hv
  obtain ⟨rfl, ⟨hsz, hP, hK, hD0, hN⟩, hSt⟩ := hv
  have hx := B.exec
  have hb := B.bytes
  have hr := B.returns
  have ht0 : ∀ w ∈ W0, w.before _ s = true := fun w h => atoms_spec (ws := wsJ0_coder_7d493) B.pre w (List.mem_cons_of_mem _ h)
  have hown : s.vm.findClass RJ0 = some m.cls := findClass_of_methodNamed B.named
  have hlocks := B.notSynchronized
  subst hsz
  have hD : va_D A (wJ0_coder_7d493 cy ) := by rw [← hAe]; exact hD0.self
  have hA : ∀ q : Nat, s.heap.size ≤ q → A q := fun q h => by rw [← hAe]; exact Or.inr h
  have hS : va_S A s.heap s.heap [] := va_S.rf
  have hl := lv_entry ([.ref (ad.1 x0)]) (n := 1) (Nat.le_of_ble_eq_true rfl)
  rw [lg_entry_eq]
  generalize (lg_sl ([.ref (ad.1 x0)]) ++ List.replicate (1 - (lg_sl ([.ref (ad.1 x0)])).length) Slot.unset).toArray = ls at hl ⊢
  have hl : lv_has ls 1 [(0, .ref (ad.1 x0))] := hl
  generalize hQe : MQ below (kQi D cy zr A (wJ0_coder_7d493 cy )) ([.ref (ad.1 x0)] : List Value).toArray s 0 0 A = Q
  have J14 : ∀ (t0_14 : Int32), ∀ (H : Heap) (locs : List Loc) (ls : Array Slot), va_P D vwCl (wJ0_coder_7d493 cy ) H → va_D A (wJ0_coder_7d493 cy ) → va_S A s.heap H locs → lv_has ls 1 [] → fJ0_coder_7d493_J14 t0_14 = some zr → W p l e ({ frames := 0, cells := 0, slots := 0, locals := 0 } : Room) s m ([.ref (ad.1 x0)] : List Value).toArray below meth c H locs 0 0 Q (F0 m 14 ls [.int t0_14]) := by
    intro t0_14 H locs ls hP hD hS hl hok
    unfold fJ0_coder_7d493_J14 at hok
    obtain ⟨g14, hok⟩ := gd_some hok
    cases hok
    subst hQe; exact W.zret hx hb hr (isBy_nar g14) (fun t ht hW => ⟨⟨_, (), rfl, rfl, by rw [ht]; exact hP, va_K.moved hW.alike hK, hD⟩, hS.F ht⟩) hS.2.2 dJ0_coder_7d493_14
  unfold fJ0_coder_7d493 at hok
  obtain ⟨H, hH⟩ : ∃ H, H = s.heap := ⟨_, rfl⟩
  obtain ⟨locs, hlc⟩ : ∃ x : List Loc, x = [] := ⟨_, rfl⟩
  have hP : va_P D vwCl (wJ0_coder_7d493 cy ) H := by rw [hH]; exact hP
  have hS : va_S A s.heap H locs := by rw [hH, hlc]; exact hS
  rw [show W p l e _ s m _ below meth c s.heap [] = W p l e _ s m _ below meth c H locs from by rw [hH, hlc]]
  refine va_gets (v := .int 1) hx hb hSt.2.2.1 hS hown (ht0 _ wd286) (fun _ h9 => h9) dJ0_coder_7d493_0 ?_
  refine lv_if_eq (tgt := 13) hx hb dJ0_coder_7d493_3 (by decide) (fun c3 => ?_) (fun c3 => ?_)
  · have hok := k_pos c3 hok
    refine lv_iconst (v := 1) hx hb dJ0_coder_7d493_13 (by decide) ?_
    exact J14 (1 : Int32) H locs ls hP hD hS (lv_sub hl [] rfl) hok
  · have hok := k_neg c3 hok
    refine lv_aload_n hx hb dJ0_coder_7d493_6 rfl (lv_at hl 0 rfl) ?_
    obtain ⟨g7, hok⟩ := gd_some hok
    refine vk_getf hx hb (hSt.1.1 x0 (okS_lt g7)).2.1 hS hown (ht0 _ wd287) (fun _ h9 => h9) dJ0_coder_7d493_7 ?_
    refine lv_goto (tgt := 14) hx hb dJ0_coder_7d493_10 (by decide) ?_
    exact J14 (0 : Int32) H locs ls hP hD hS (lv_sub hl [] rfl) hok
def wsJ0_length_8abf5 : List Cond := .code yJ0_length_8abf5 cJ0_length_8abf5 1 (some .int) :: W0
abbrev wJ0_length_8abf5 (cy : Nat → ClassId)  : va_W := []
set_option maxHeartbeats 4000000 in
set_option maxRecDepth 100000 in
theorem kJ0_length_8abf5 (l : Launch) (D : va_G) (cy : Nat → ClassId) (ad : (Nat → Nat) × (Nat → Nat)) (sz : Nat) (x0 : Nat) (zr : Int32) (hok : fJ0_length_8abf5 x0 = some zr) (A : Nat → Prop) (hAe : va_A (wJ0_length_8abf5 cy ) sz = A) : Met l yJ0_length_8abf5 wsJ0_length_8abf5 ({ frames := 1, cells := 0, slots := 0, locals := 20 } : Room) (kPreS D cy ad [.ref (ad.1 x0)] (wJ0_length_8abf5 cy ) sz A) (kQi D cy zr A (wJ0_length_8abf5 cy )) 0 0 A := by
  refine Met.ofW (cc := cJ0_length_8abf5) (maxL := 1) (ret := (some .int)) (by decide) rfl ?_
  intro p e s m args below meth c s₁ B hml hv
  obtain ⟨rfl, ⟨hsz, hP, hK, hD0, hN⟩, hSt⟩ := hv
  have hx := B.exec
  have hb := B.bytes
  have hr := B.returns
  have ht0 : ∀ w ∈ W0, w.before _ s = true := fun w h => atoms_spec (ws := wsJ0_length_8abf5) B.pre w (List.mem_cons_of_mem _ h)
  have hown : s.vm.findClass RJ0 = some m.cls := findClass_of_methodNamed B.named
  have hlocks := B.notSynchronized
  subst hsz
  have hD : va_D A (wJ0_length_8abf5 cy ) := by rw [← hAe]; exact hD0.self
  have hA : ∀ q : Nat, s.heap.size ≤ q → A q := fun q h => by rw [← hAe]; exact Or.inr h
  have hS : va_S A s.heap s.heap [] := va_S.rf
  have hl := lv_entry ([.ref (ad.1 x0)]) (n := 1) (Nat.le_of_ble_eq_true rfl)
  rw [lg_entry_eq]
  generalize (lg_sl ([.ref (ad.1 x0)]) ++ List.replicate (1 - (lg_sl ([.ref (ad.1 x0)])).length) Slot.unset).toArray = ls at hl ⊢
  have hl : lv_has ls 1 [(0, .ref (ad.1 x0))] := hl
  unfold fJ0_length_8abf5 at hok
  obtain ⟨H, hH⟩ : ∃ H, H = s.heap := ⟨_, rfl⟩
  obtain ⟨locs, hlc⟩ : ∃ x : List Loc, x = [] := ⟨_, rfl⟩
  have hP : va_P D vwCl (wJ0_length_8abf5 cy ) H := by rw [hH]; exact hP
  have hS : va_S A s.heap H locs := by rw [hH, hlc]; exact hS
  rw [show W p l e _ s m _ below meth c s.heap [] = W p l e _ s m _ below meth c H locs from by rw [hH, hlc]]
  refine lv_aload_n hx hb dJ0_length_8abf5_0 rfl (lv_at hl 0 rfl) ?_
  obtain ⟨g1, hok⟩ := gd_some hok
  refine vk_getf hx hb (hSt.1.1 x0 (okS_lt g1)).2.2.1 hS hown (ht0 _ wd288) (fun _ h9 => h9) dJ0_length_8abf5_1 ?_
  obtain ⟨g4, hok⟩ := gd_some hok
  refine va_tlen hx hb (hSt.1.1 x0 (okS_lt g4)).2.2.2 hS (v := nI (sLen x0)) rfl dJ0_length_8abf5_4 ?_
  refine lv_aload_n hx hb dJ0_length_8abf5_5 rfl (lv_at hl 0 rfl) ?_
  obtain ⟨gs6, hok⟩ := gd_some hok
  obtain ⟨r6, hc6, hok⟩ := k_bind hok
  refine kCi (wc := (wJ0_coder_7d493 cy )) (wc2 := (wJ0_coder_7d493 cy )) (wr := []) (ws2 := (wJ0_length_8abf5 cy )) (kRunVT (As := []) (rest := [.int (nI (sLen x0))]) ⟨hx, hb, hml, hown, ht0⟩ (kJ0_coder_7d493 l D cy ad _ x0 r6 hc6 _ rfl) (cwV 0 ht0 (gV wd289 wd290 wd291 wd292 wd293) rfl rfl rfl (by decide +kernel) ⟨Nat.le_of_ble_eq_true rfl, Nat.le_of_ble_eq_true rfl⟩) hK hN hP hD hSt hS hA [] rfl (by decide) (okS_lt gs6) rfl hl.1 rfl (Nat.le_of_ble_eq_true rfl) dJ0_length_8abf5_6 ⟨Nat.zero_le _, Nat.zero_le _⟩) hP hD hS hA [] [] rfl rfl (by decide) (by decide) [] (by decide) rfl rfl (fun H locs hP hD hS => ?_)
  refine lv_ishr hx hb dJ0_length_8abf5_9 ?_
  cases hok
  exact W.iret hx hb hr (fun t ht hW => ⟨⟨_, (), rfl, rfl, by rw [ht]; exact hP, va_K.moved hW.alike hK, hD⟩, hS.F ht⟩) hS.2.2 dJ0_length_8abf5_10
def wsJ0_isLatin1_aae02 : List Cond := .code yJ0_isLatin1_aae02 cJ0_isLatin1_aae02 1 (some .boolean) :: W0
abbrev wJ0_isLatin1_aae02 (cy : Nat → ClassId)  : va_W := []
set_option maxHeartbeats 4000000 in
set_option maxRecDepth 100000 in
theorem kJ0_isLatin1_aae02 (l : Launch) (D : va_G) (cy : Nat → ClassId) (ad : (Nat → Nat) × (Nat → Nat)) (sz : Nat) (x0 : Nat) (zr : Int32) (hok : fJ0_isLatin1_aae02 x0 = some zr) (A : Nat → Prop) (hAe : va_A (wJ0_isLatin1_aae02 cy ) sz = A) : Met l yJ0_isLatin1_aae02 wsJ0_isLatin1_aae02 ({ frames := 0, cells := 0, slots := 0, locals := 0 } : Room) (kPreS D cy ad [.ref (ad.1 x0)] (wJ0_isLatin1_aae02 cy ) sz A) (kQi D cy zr A (wJ0_isLatin1_aae02 cy )) 0 0 A := by
  refine Met.ofW (cc := cJ0_isLatin1_aae02) (maxL := 1) (ret := (some .boolean)) (by decide) rfl ?_
  intro p e s m args below meth c s₁ B hml hv
  obtain ⟨rfl, ⟨hsz, hP, hK, hD0, hN⟩, hSt⟩ := hv
  have hx := B.exec
  have hb := B.bytes
  have hr := B.returns
  have ht0 : ∀ w ∈ W0, w.before _ s = true := fun w h => atoms_spec (ws := wsJ0_isLatin1_aae02) B.pre w (List.mem_cons_of_mem _ h)
  have hown : s.vm.findClass RJ0 = some m.cls := findClass_of_methodNamed B.named
  have hlocks := B.notSynchronized
  subst hsz
  have hD : va_D A (wJ0_isLatin1_aae02 cy ) := by rw [← hAe]; exact hD0.self
  have hA : ∀ q : Nat, s.heap.size ≤ q → A q := fun q h => by rw [← hAe]; exact Or.inr h
  have hS : va_S A s.heap s.heap [] := va_S.rf
  have hl := lv_entry ([.ref (ad.1 x0)]) (n := 1) (Nat.le_of_ble_eq_true rfl)
  rw [lg_entry_eq]
  generalize (lg_sl ([.ref (ad.1 x0)]) ++ List.replicate (1 - (lg_sl ([.ref (ad.1 x0)])).length) Slot.unset).toArray = ls at hl ⊢
  have hl : lv_has ls 1 [(0, .ref (ad.1 x0))] := hl
  generalize hQe : MQ below (kQi D cy zr A (wJ0_isLatin1_aae02 cy )) ([.ref (ad.1 x0)] : List Value).toArray s 0 0 A = Q
  have J18 : ∀ (t0_18 : Int32), ∀ (H : Heap) (locs : List Loc) (ls : Array Slot), va_P D vwCl (wJ0_isLatin1_aae02 cy ) H → va_D A (wJ0_isLatin1_aae02 cy ) → va_S A s.heap H locs → lv_has ls 1 [] → fJ0_isLatin1_aae02_J18 t0_18 = some zr → W p l e ({ frames := 0, cells := 0, slots := 0, locals := 0 } : Room) s m ([.ref (ad.1 x0)] : List Value).toArray below meth c H locs 0 0 Q (F0 m 18 ls [.int t0_18]) := by
    intro t0_18 H locs ls hP hD hS hl hok
    unfold fJ0_isLatin1_aae02_J18 at hok
    obtain ⟨g18, hok⟩ := gd_some hok
    cases hok
    subst hQe; exact W.zret hx hb hr (isB_nar g18) (fun t ht hW => ⟨⟨_, (), rfl, rfl, by rw [ht]; exact hP, va_K.moved hW.alike hK, hD⟩, hS.F ht⟩) hS.2.2 dJ0_isLatin1_aae02_18
  have J17 : ∀ (H : Heap) (locs : List Loc) (ls : Array Slot), va_P D vwCl (wJ0_isLatin1_aae02 cy ) H → va_D A (wJ0_isLatin1_aae02 cy ) → va_S A s.heap H locs → lv_has ls 1 [] → fJ0_isLatin1_aae02_J17 = some zr → W p l e ({ frames := 0, cells := 0, slots := 0, locals := 0 } : Room) s m ([.ref (ad.1 x0)] : List Value).toArray below meth c H locs 0 0 Q (F0 m 17 ls []) := by
    intro  H locs ls hP hD hS hl hok
    unfold fJ0_isLatin1_aae02_J17 at hok
    refine lv_iconst (v := 0) hx hb dJ0_isLatin1_aae02_17 (by decide) ?_
    exact J18 (0 : Int32) H locs ls hP hD hS (lv_sub hl [] rfl) hok
  unfold fJ0_isLatin1_aae02 at hok
  obtain ⟨H, hH⟩ : ∃ H, H = s.heap := ⟨_, rfl⟩
  obtain ⟨locs, hlc⟩ : ∃ x : List Loc, x = [] := ⟨_, rfl⟩
  have hP : va_P D vwCl (wJ0_isLatin1_aae02 cy ) H := by rw [hH]; exact hP
  have hS : va_S A s.heap H locs := by rw [hH, hlc]; exact hS
  rw [show W p l e _ s m _ below meth c s.heap [] = W p l e _ s m _ below meth c H locs from by rw [hH, hlc]]
  refine va_gets (v := .int 1) hx hb hSt.2.2.1 hS hown (ht0 _ wd286) (fun _ h9 => h9) dJ0_isLatin1_aae02_0 ?_
  refine lv_if_eq (tgt := 17) hx hb dJ0_isLatin1_aae02_3 (by decide) (fun c3 => ?_) (fun c3 => ?_)
  · have hok := k_pos c3 hok
    exact J17  H locs ls hP hD hS (lv_sub hl [] rfl) hok
  · have hok := k_neg c3 hok
    refine lv_aload_n hx hb dJ0_isLatin1_aae02_6 rfl (lv_at hl 0 rfl) ?_
    obtain ⟨g7, hok⟩ := gd_some hok
    refine vk_getf hx hb (hSt.1.1 x0 (okS_lt g7)).2.1 hS hown (ht0 _ wd287) (fun _ h9 => h9) dJ0_isLatin1_aae02_7 ?_
    refine lv_if_ne (tgt := 17) hx hb dJ0_isLatin1_aae02_10 (by decide) (fun c10 => ?_) (fun c10 => ?_)
    · have hok := k_neg c10 hok
      exact J17  H locs ls hP hD hS (lv_sub hl [] rfl) hok
    · have hok := k_pos c10 hok
      refine lv_iconst (v := 1) hx hb dJ0_isLatin1_aae02_13 (by decide) ?_
      refine lv_goto (tgt := 18) hx hb dJ0_isLatin1_aae02_14 (by decide) ?_
      exact J18 (1 : Int32) H locs ls hP hD hS (lv_sub hl [] rfl) hok
def wsJ3_checkIndex_8e157 : List Cond := .code yJ3_checkIndex_8e157 cJ3_checkIndex_8e157 3 (some .int) :: W0
abbrev wJ3_checkIndex_8e157 (cy : Nat → ClassId)  : va_W := []
set_option maxHeartbeats 4000000 in
set_option maxRecDepth 100000 in
theorem kJ3_checkIndex_8e157_N (l : Launch) (D : va_G) (cy : Nat → ClassId) (sz : Nat) (x0 : Int32) (x1 : Int32) (zr : Int32) (hok : fJ3_checkIndex_8e157 x0 x1 = some zr) (A : Nat → Prop) (hAe : va_A (wJ3_checkIndex_8e157 cy ) sz = A) : Met l yJ3_checkIndex_8e157 wsJ3_checkIndex_8e157 ({ frames := 0, cells := 0, slots := 0, locals := 0 } : Room) (kPre D cy [.int x0, .int x1, .null] (wJ3_checkIndex_8e157 cy ) sz) (kQi D cy zr A (wJ3_checkIndex_8e157 cy )) 0 0 A := by
  refine Met.ofW (cc := cJ3_checkIndex_8e157) (maxL := 3) (ret := (some .int)) (by decide) rfl ?_
  intro p e s m args below meth c s₁ B hml hv
  obtain ⟨rfl, hsz, hP, hK, hD0, hN⟩ := hv
  have hx := B.exec
  have hb := B.bytes
  have hr := B.returns
  have ht0 : ∀ w ∈ W0, w.before _ s = true := fun w h => atoms_spec (ws := wsJ3_checkIndex_8e157) B.pre w (List.mem_cons_of_mem _ h)
  have hown : s.vm.findClass RJ3 = some m.cls := findClass_of_methodNamed B.named
  have hlocks := B.notSynchronized
  subst hsz
  have hD : va_D A (wJ3_checkIndex_8e157 cy ) := by rw [← hAe]; exact hD0.self
  have hA : ∀ q : Nat, s.heap.size ≤ q → A q := fun q h => by rw [← hAe]; exact Or.inr h
  have hS : va_S A s.heap s.heap [] := va_S.rf
  have hl := lv_entry ([.int x0, .int x1, .null]) (n := 3) (Nat.le_of_ble_eq_true rfl)
  rw [lg_entry_eq]
  generalize (lg_sl ([.int x0, .int x1, .null]) ++ List.replicate (3 - (lg_sl ([.int x0, .int x1, .null])).length) Slot.unset).toArray = ls at hl ⊢
  have hl : lv_has ls 3 [(0, .int x0), (1, .int x1), (2, .null)] := hl
  unfold fJ3_checkIndex_8e157 at hok
  obtain ⟨H, hH⟩ : ∃ H, H = s.heap := ⟨_, rfl⟩
  obtain ⟨locs, hlc⟩ : ∃ x : List Loc, x = [] := ⟨_, rfl⟩
  have hP : va_P D vwCl (wJ3_checkIndex_8e157 cy ) H := by rw [hH]; exact hP
  have hS : va_S A s.heap H locs := by rw [hH, hlc]; exact hS
  rw [show W p l e _ s m _ below meth c s.heap [] = W p l e _ s m _ below meth c H locs from by rw [hH, hlc]]
  refine lv_iload_n hx hb dJ3_checkIndex_8e157_0 rfl (lv_at hl 0 rfl) ?_
  refine lv_if_lt (tgt := 9) hx hb dJ3_checkIndex_8e157_1 (by decide) (fun c1 => ?_) (fun c1 => ?_)
  · have hok := k_pos c1 hok
    cases hok
  · have hok := k_neg c1 hok
    refine lv_iload_n hx hb dJ3_checkIndex_8e157_4 rfl (lv_at hl 0 rfl) ?_
    refine lv_iload_n hx hb dJ3_checkIndex_8e157_5 rfl (lv_at hl 1 rfl) ?_
    refine lv_icmp_lt (tgt := 16) hx hb dJ3_checkIndex_8e157_6 (by decide) (fun c6 => ?_) (fun c6 => ?_)
    · have hok := k_pos c6 hok
      refine lv_iload_n hx hb dJ3_checkIndex_8e157_16 rfl (lv_at hl 0 rfl) ?_
      cases hok
      exact W.iret hx hb hr (fun t ht hW => ⟨⟨_, (), rfl, rfl, by rw [ht]; exact hP, va_K.moved hW.alike hK, hD⟩, hS.F ht⟩) hS.2.2 dJ3_checkIndex_8e157_17
    · have hok := k_neg c6 hok
      cases hok
set_option maxHeartbeats 4000000 in
set_option maxRecDepth 100000 in
theorem kJ3_checkIndex_8e157_R (a2 : Nat) (l : Launch) (D : va_G) (cy : Nat → ClassId) (sz : Nat) (x0 : Int32) (x1 : Int32) (zr : Int32) (hok : fJ3_checkIndex_8e157 x0 x1 = some zr) (A : Nat → Prop) (hAe : va_A (wJ3_checkIndex_8e157 cy ) sz = A) : Met l yJ3_checkIndex_8e157 wsJ3_checkIndex_8e157 ({ frames := 0, cells := 0, slots := 0, locals := 0 } : Room) (kPre D cy [.int x0, .int x1, .ref a2] (wJ3_checkIndex_8e157 cy ) sz) (kQi D cy zr A (wJ3_checkIndex_8e157 cy )) 0 0 A := by
  refine Met.ofW (cc := cJ3_checkIndex_8e157) (maxL := 3) (ret := (some .int)) (by decide) rfl ?_
  intro p e s m args below meth c s₁ B hml hv
  obtain ⟨rfl, hsz, hP, hK, hD0, hN⟩ := hv
  have hx := B.exec
  have hb := B.bytes
  have hr := B.returns
  have ht0 : ∀ w ∈ W0, w.before _ s = true := fun w h => atoms_spec (ws := wsJ3_checkIndex_8e157) B.pre w (List.mem_cons_of_mem _ h)
  have hown : s.vm.findClass RJ3 = some m.cls := findClass_of_methodNamed B.named
  have hlocks := B.notSynchronized
  subst hsz
  have hD : va_D A (wJ3_checkIndex_8e157 cy ) := by rw [← hAe]; exact hD0.self
  have hA : ∀ q : Nat, s.heap.size ≤ q → A q := fun q h => by rw [← hAe]; exact Or.inr h
  have hS : va_S A s.heap s.heap [] := va_S.rf
  have hl := lv_entry ([.int x0, .int x1, .ref a2]) (n := 3) (Nat.le_of_ble_eq_true rfl)
  rw [lg_entry_eq]
  generalize (lg_sl ([.int x0, .int x1, .ref a2]) ++ List.replicate (3 - (lg_sl ([.int x0, .int x1, .ref a2])).length) Slot.unset).toArray = ls at hl ⊢
  have hl : lv_has ls 3 [(0, .int x0), (1, .int x1), (2, .ref a2)] := hl
  unfold fJ3_checkIndex_8e157 at hok
  obtain ⟨H, hH⟩ : ∃ H, H = s.heap := ⟨_, rfl⟩
  obtain ⟨locs, hlc⟩ : ∃ x : List Loc, x = [] := ⟨_, rfl⟩
  have hP : va_P D vwCl (wJ3_checkIndex_8e157 cy ) H := by rw [hH]; exact hP
  have hS : va_S A s.heap H locs := by rw [hH, hlc]; exact hS
  rw [show W p l e _ s m _ below meth c s.heap [] = W p l e _ s m _ below meth c H locs from by rw [hH, hlc]]
  refine lv_iload_n hx hb dJ3_checkIndex_8e157_0 rfl (lv_at hl 0 rfl) ?_
  refine lv_if_lt (tgt := 9) hx hb dJ3_checkIndex_8e157_1 (by decide) (fun c1 => ?_) (fun c1 => ?_)
  · have hok := k_pos c1 hok
    cases hok
  · have hok := k_neg c1 hok
    refine lv_iload_n hx hb dJ3_checkIndex_8e157_4 rfl (lv_at hl 0 rfl) ?_
    refine lv_iload_n hx hb dJ3_checkIndex_8e157_5 rfl (lv_at hl 1 rfl) ?_
    refine lv_icmp_lt (tgt := 16) hx hb dJ3_checkIndex_8e157_6 (by decide) (fun c6 => ?_) (fun c6 => ?_)
    · have hok := k_pos c6 hok
      refine lv_iload_n hx hb dJ3_checkIndex_8e157_16 rfl (lv_at hl 0 rfl) ?_
      cases hok
      exact W.iret hx hb hr (fun t ht hW => ⟨⟨_, (), rfl, rfl, by rw [ht]; exact hP, va_K.moved hW.alike hK, hD⟩, hS.F ht⟩) hS.2.2 dJ3_checkIndex_8e157_17
    · have hok := k_neg c6 hok
      cases hok
theorem kJ3_checkIndex_8e157 (l : Launch) (D : va_G) (cy : Nat → ClassId) (sz : Nat) (v2 : Value) (hv2 : v2 = .null ∨ ∃ q, v2 = .ref q) (x0 : Int32) (x1 : Int32) (zr : Int32) (hok : fJ3_checkIndex_8e157 x0 x1 = some zr) (A : Nat → Prop) (hAe : va_A (wJ3_checkIndex_8e157 cy ) sz = A) : Met l yJ3_checkIndex_8e157 wsJ3_checkIndex_8e157 ({ frames := 0, cells := 0, slots := 0, locals := 0 } : Room) (kPre D cy [.int x0, .int x1, v2] (wJ3_checkIndex_8e157 cy ) sz) (kQi D cy zr A (wJ3_checkIndex_8e157 cy )) 0 0 A := by
  rcases hv2 with rfl | ⟨q, rfl⟩
  · exact kJ3_checkIndex_8e157_N l D cy sz x0 x1 zr hok A hAe
  · exact kJ3_checkIndex_8e157_R q l D cy sz x0 x1 zr hok A hAe
def wsJ0_checkIndex_df160 : List Cond := .code yJ0_checkIndex_df160 cJ0_checkIndex_df160 2 none :: W0
abbrev wJ0_checkIndex_df160 (cy : Nat → ClassId)  : va_W := []
set_option maxHeartbeats 4000000 in
set_option maxRecDepth 100000 in
theorem kJ0_checkIndex_df160 (l : Launch) (D : va_G) (cy : Nat → ClassId) (ad : (Nat → Nat) × (Nat → Nat)) (sz : Nat) (x0 : Int32) (x1 : Int32) (hok : fJ0_checkIndex_df160 x0 x1 = some ()) (A : Nat → Prop) (hAe : va_A (wJ0_checkIndex_df160 cy ) sz = A) : Met l yJ0_checkIndex_df160 wsJ0_checkIndex_df160 ({ frames := 1, cells := 0, slots := 0, locals := 22 } : Room) (kPreS D cy ad [.int x0, .int x1] (wJ0_checkIndex_df160 cy ) sz A) (kQv D cy A (wJ0_checkIndex_df160 cy )) 0 0 A := by
  refine Met.ofW (cc := cJ0_checkIndex_df160) (maxL := 2) (ret := none) (by decide) rfl ?_
  intro p e s m args below meth c s₁ B hml hv
  obtain ⟨rfl, ⟨hsz, hP, hK, hD0, hN⟩, hSt⟩ := hv
  have hx := B.exec
  have hb := B.bytes
  have hr := B.returns
  have ht0 : ∀ w ∈ W0, w.before _ s = true := fun w h => atoms_spec (ws := wsJ0_checkIndex_df160) B.pre w (List.mem_cons_of_mem _ h)
  have hown : s.vm.findClass RJ0 = some m.cls := findClass_of_methodNamed B.named
  have hlocks := B.notSynchronized
  subst hsz
  have hD : va_D A (wJ0_checkIndex_df160 cy ) := by rw [← hAe]; exact hD0.self
  have hA : ∀ q : Nat, s.heap.size ≤ q → A q := fun q h => by rw [← hAe]; exact Or.inr h
  have hS : va_S A s.heap s.heap [] := va_S.rf
  have hl := lv_entry ([.int x0, .int x1]) (n := 2) (Nat.le_of_ble_eq_true rfl)
  rw [lg_entry_eq]
  generalize (lg_sl ([.int x0, .int x1]) ++ List.replicate (2 - (lg_sl ([.int x0, .int x1])).length) Slot.unset).toArray = ls at hl ⊢
  have hl : lv_has ls 2 [(0, .int x0), (1, .int x1)] := hl
  unfold fJ0_checkIndex_df160 at hok
  obtain ⟨H, hH⟩ : ∃ H, H = s.heap := ⟨_, rfl⟩
  obtain ⟨locs, hlc⟩ : ∃ x : List Loc, x = [] := ⟨_, rfl⟩
  have hP : va_P D vwCl (wJ0_checkIndex_df160 cy ) H := by rw [hH]; exact hP
  have hS : va_S A s.heap H locs := by rw [hH, hlc]; exact hS
  rw [show W p l e _ s m _ below meth c s.heap [] = W p l e _ s m _ below meth c H locs from by rw [hH, hlc]]
  refine lv_iload_n hx hb dJ0_checkIndex_df160_0 rfl (lv_at hl 0 rfl) ?_
  refine lv_iload_n hx hb dJ0_checkIndex_df160_1 rfl (lv_at hl 1 rfl) ?_
  obtain ⟨vz, hvz, hz⟩ := kZq hSt.2.2.2
  refine va_gets (v := vz) hx hb hz hS hown (ht0 _ wd294) (fun _ h9 => h9) dJ0_checkIndex_df160_2 ?_
  obtain ⟨r5, hc5, hok⟩ := k_bind hok
  refine kCi (wc := (wJ3_checkIndex_8e157 cy )) (wc2 := (wJ3_checkIndex_8e157 cy )) (wr := []) (ws2 := (wJ0_checkIndex_df160 cy )) (kRunS (As := [.int x0, .int x1, vz]) (rest := []) ⟨hx, hb, hml, hown, ht0⟩ (kJ3_checkIndex_8e157 l D cy _ vz hvz x0 x1 r5 hc5 _ rfl) (va_cwS 3 ht0 (gS wd295 wd296 wd297 wd298) rfl rfl rfl (by decide +kernel) ⟨Nat.le_of_ble_eq_true rfl, Nat.le_of_ble_eq_true rfl⟩) hK hN hP hD [] rfl (by decide) rfl hl.1 rfl (Nat.le_of_ble_eq_true rfl) dJ0_checkIndex_df160_5 ⟨Nat.zero_le _, Nat.zero_le _⟩) hP hD hS hA [] [] rfl rfl (by decide) (by decide) [] (by decide) rfl rfl (fun H locs hP hD hS => ?_)
  refine lv_pop hx hb dJ0_checkIndex_df160_8 rfl ?_
  exact W.vret hx hb hr (fun t ht hW => ⟨⟨(), rfl, trivial, by rw [ht]; exact hP, va_K.moved hW.alike hK, hD⟩, hS.F ht⟩) hS.2.2 dJ0_checkIndex_df160_9
def wsJ1_charAt_3b067 : List Cond := .code yJ1_charAt_3b067 cJ1_charAt_3b067 2 (some .char) :: W0
abbrev wJ1_charAt_3b067 (cy : Nat → ClassId)  : va_W := []
set_option maxHeartbeats 4000000 in
set_option maxRecDepth 100000 in
theorem kJ1_charAt_3b067 (l : Launch) (D : va_G) (cy : Nat → ClassId) (ad : (Nat → Nat) × (Nat → Nat)) (sz : Nat) (x0 : Nat) (x1 : Int32) (zr : Int32) (hok : fJ1_charAt_3b067 x0 x1 = some zr) (A : Nat → Prop) (hAe : va_A (wJ1_charAt_3b067 cy ) sz = A) : Met l yJ1_charAt_3b067 wsJ1_charAt_3b067 ({ frames := 2, cells := 0, slots := 0, locals := 43 } : Room) (kPreS D cy ad [.ref (ad.2 x0), .int x1] (wJ1_charAt_3b067 cy ) sz A) (kQi D cy zr A (wJ1_charAt_3b067 cy )) 0 0 A := by
  refine Met.ofW (cc := cJ1_charAt_3b067) (maxL := 2) (ret := (some .char)) (by decide) rfl ?_
  intro p e s m args below meth c s₁ B hml hv
  obtain ⟨rfl, ⟨hsz, hP, hK, hD0, hN⟩, hSt⟩ := hv
  have hx := B.exec
  have hb := B.bytes
  have hr := B.returns
  have ht0 : ∀ w ∈ W0, w.before _ s = true := fun w h => atoms_spec (ws := wsJ1_charAt_3b067) B.pre w (List.mem_cons_of_mem _ h)
  have hown : s.vm.findClass RJ1 = some m.cls := findClass_of_methodNamed B.named
  have hlocks := B.notSynchronized
  subst hsz
  have hD : va_D A (wJ1_charAt_3b067 cy ) := by rw [← hAe]; exact hD0.self
  have hA : ∀ q : Nat, s.heap.size ≤ q → A q := fun q h => by rw [← hAe]; exact Or.inr h
  have hS : va_S A s.heap s.heap [] := va_S.rf
  have hl := lv_entry ([.ref (ad.2 x0), .int x1]) (n := 2) (Nat.le_of_ble_eq_true rfl)
  rw [lg_entry_eq]
  generalize (lg_sl ([.ref (ad.2 x0), .int x1]) ++ List.replicate (2 - (lg_sl ([.ref (ad.2 x0), .int x1])).length) Slot.unset).toArray = ls at hl ⊢
  have hl : lv_has ls 2 [(0, .ref (ad.2 x0)), (1, .int x1)] := hl
  unfold fJ1_charAt_3b067 at hok
  obtain ⟨H, hH⟩ : ∃ H, H = s.heap := ⟨_, rfl⟩
  obtain ⟨locs, hlc⟩ : ∃ x : List Loc, x = [] := ⟨_, rfl⟩
  have hP : va_P D vwCl (wJ1_charAt_3b067 cy ) H := by rw [hH]; exact hP
  have hS : va_S A s.heap H locs := by rw [hH, hlc]; exact hS
  rw [show W p l e _ s m _ below meth c s.heap [] = W p l e _ s m _ below meth c H locs from by rw [hH, hlc]]
  refine lv_iload_n hx hb dJ1_charAt_3b067_0 rfl (lv_at hl 1 rfl) ?_
  refine lv_aload_n hx hb dJ1_charAt_3b067_1 rfl (lv_at hl 0 rfl) ?_
  obtain ⟨g2, hok⟩ := gd_some hok
  refine va_tlen hx hb (hSt.1.1 x0 (okS_lt g2)).2.2.2 hS (v := nI (sLen x0)) rfl dJ1_charAt_3b067_2 ?_
  obtain ⟨u3, hc3, hok⟩ := k_bind hok
  try dsimp only at hok
  refine kCv (wc := (wJ0_checkIndex_df160 cy )) (wc2 := (wJ0_checkIndex_df160 cy )) (wr := []) (ws2 := (wJ1_charAt_3b067 cy )) (kRunSS (As := [.int x1, .int (nI (sLen x0))]) (rest := []) ⟨hx, hb, hml, hown, ht0⟩ (kJ0_checkIndex_df160 l D cy ad _ x1 (nI (sLen x0)) hc3 _ rfl) (va_cwS 2 ht0 (gS wd299 wd300 wd292 wd301) rfl rfl rfl (by decide +kernel) ⟨Nat.le_of_ble_eq_true rfl, Nat.le_of_ble_eq_true rfl⟩) hK hN hP hD hSt hS hA [] rfl (by decide) rfl hl.1 rfl (Nat.le_of_ble_eq_true rfl) dJ1_charAt_3b067_3 ⟨Nat.zero_le _, Nat.zero_le _⟩) hP hD hS hA [] [] rfl rfl (by decide) (by decide) [] (by decide) rfl rfl (fun H locs hP hD hS => ?_)
  refine lv_aload_n hx hb dJ1_charAt_3b067_6 rfl (lv_at hl 0 rfl) ?_
  refine lv_iload_n hx hb dJ1_charAt_3b067_7 rfl (lv_at hl 1 rfl) ?_
  obtain ⟨g8, hok⟩ := gd_some hok
  obtain ⟨gi8, hok⟩ := gd_some hok
  refine va_tb hx hb (hSt.1.1 x0 (okS_lt g8)).2.2.2 hS (okI_in gi8) rfl dJ1_charAt_3b067_8 ?_
  refine lv_sipush (v := 255) hx hb dJ1_charAt_3b067_9 (by decide) ?_
  refine lv_iand hx hb dJ1_charAt_3b067_12 ?_
  refine lv_i2c (v := (((sByt x0 x1.toNatClampNeg) &&& (255 : Int32)).toUInt32 % 65536).toInt32) hx hb dJ1_charAt_3b067_13 rfl ?_
  obtain ⟨g14, hok⟩ := gd_some hok
  cases hok
  exact W.zret hx hb hr (isCh_nar g14) (fun t ht hW => ⟨⟨_, (), rfl, rfl, by rw [ht]; exact hP, va_K.moved hW.alike hK, hD⟩, hS.F ht⟩) hS.2.2 dJ1_charAt_3b067_14
def wsJ2_length_9d52b : List Cond := .code yJ2_length_9d52b cJ2_length_9d52b 1 (some .int) :: W0
abbrev wJ2_length_9d52b (cy : Nat → ClassId) (ap0 : Nat) (n0 : Nat) (p0 : Nat → Int32) : va_W := [(ap0, rB cy n0 p0)]
set_option maxHeartbeats 4000000 in
set_option maxRecDepth 100000 in
theorem kJ2_length_9d52b (l : Launch) (D : va_G) (cy : Nat → ClassId) (sz : Nat) (ap0 : Nat) (n0 : Nat) (p0 : Nat → Int32) (zr : Int32) (hok : fJ2_length_9d52b n0 p0 = some zr) (A : Nat → Prop) (hAe : va_A (wJ2_length_9d52b cy ap0 n0 p0) sz = A) : Met l yJ2_length_9d52b wsJ2_length_9d52b ({ frames := 0, cells := 0, slots := 0, locals := 0 } : Room) (kPre D cy [.ref ap0] (wJ2_length_9d52b cy ap0 n0 p0) sz) (kQi D cy zr A (wJ2_length_9d52b cy ap0 n0 p0)) 0 0 A := by
  refine Met.ofW (cc := cJ2_length_9d52b) (maxL := 1) (ret := (some .int)) (by decide) rfl ?_
  intro p e s m args below meth c s₁ B hml hv
  obtain ⟨rfl, hsz, hP, hK, hD0, hN⟩ := hv
  have hx := B.exec
  have hb := B.bytes
  have hr := B.returns
  have ht0 : ∀ w ∈ W0, w.before _ s = true := fun w h => atoms_spec (ws := wsJ2_length_9d52b) B.pre w (List.mem_cons_of_mem _ h)
  have hown : s.vm.findClass RJ2 = some m.cls := findClass_of_methodNamed B.named
  have hlocks := B.notSynchronized
  subst hsz
  have hD : va_D A (wJ2_length_9d52b cy ap0 n0 p0) := by rw [← hAe]; exact hD0.self
  have hA : ∀ q : Nat, s.heap.size ≤ q → A q := fun q h => by rw [← hAe]; exact Or.inr h
  have hS : va_S A s.heap s.heap [] := va_S.rf
  have hl := lv_entry ([.ref ap0]) (n := 1) (Nat.le_of_ble_eq_true rfl)
  rw [lg_entry_eq]
  generalize (lg_sl ([.ref ap0]) ++ List.replicate (1 - (lg_sl ([.ref ap0])).length) Slot.unset).toArray = ls at hl ⊢
  have hl : lv_has ls 1 [(0, .ref ap0)] := hl
  unfold fJ2_length_9d52b at hok
  obtain ⟨H, hH⟩ : ∃ H, H = s.heap := ⟨_, rfl⟩
  obtain ⟨locs, hlc⟩ : ∃ x : List Loc, x = [] := ⟨_, rfl⟩
  have hP : va_P D vwCl (wJ2_length_9d52b cy ap0 n0 p0) H := by rw [hH]; exact hP
  have hS : va_S A s.heap H locs := by rw [hH, hlc]; exact hS
  rw [show W p l e _ s m _ below meth c s.heap [] = W p l e _ s m _ below meth c H locs from by rw [hH, hlc]]
  refine lv_aload_n hx hb dJ2_length_9d52b_0 rfl (lv_at hl 0 rfl) ?_
  refine va_alen hx hb hK hP 0 1 rfl rfl (v := (nI n0)) rfl dJ2_length_9d52b_1 ?_
  refine lv_iconst (v := 1) hx hb dJ2_length_9d52b_2 (by decide) ?_
  refine lv_ishr hx hb dJ2_length_9d52b_3 ?_
  cases hok
  exact W.iret hx hb hr (fun t ht hW => ⟨⟨_, (), rfl, rfl, by rw [ht]; exact hP, va_K.moved hW.alike hK, hD⟩, hS.F ht⟩) hS.2.2 dJ2_length_9d52b_4
def wsJ2_checkIndex_2214a : List Cond := .code yJ2_checkIndex_2214a cJ2_checkIndex_2214a 2 none :: W0
abbrev wJ2_checkIndex_2214a (cy : Nat → ClassId) (ap1 : Nat) (n1 : Nat) (p1 : Nat → Int32) : va_W := [(ap1, rB cy n1 p1)]
set_option maxHeartbeats 4000000 in
set_option maxRecDepth 100000 in
theorem kJ2_checkIndex_2214a (l : Launch) (D : va_G) (cy : Nat → ClassId) (ad : (Nat → Nat) × (Nat → Nat)) (sz : Nat) (ap1 : Nat) (n1 : Nat) (p1 : Nat → Int32) (x0 : Int32) (hok : fJ2_checkIndex_2214a n1 p1 x0 = some ()) (A : Nat → Prop) (hAe : va_A (wJ2_checkIndex_2214a cy ap1 n1 p1) sz = A) : Met l yJ2_checkIndex_2214a wsJ2_checkIndex_2214a ({ frames := 2, cells := 0, slots := 0, locals := 43 } : Room) (kPreS D cy ad [.int x0, .ref ap1] (wJ2_checkIndex_2214a cy ap1 n1 p1) sz A) (kQv D cy A (wJ2_checkIndex_2214a cy ap1 n1 p1)) 0 0 A := by
  refine Met.ofW (cc := cJ2_checkIndex_2214a) (maxL := 2) (ret := none) (by decide) rfl ?_
  intro p e s m args below meth c s₁ B hml hv
  obtain ⟨rfl, ⟨hsz, hP, hK, hD0, hN⟩, hSt⟩ := hv
  have hx := B.exec
  have hb := B.bytes
  have hr := B.returns
  have ht0 : ∀ w ∈ W0, w.before _ s = true := fun w h => atoms_spec (ws := wsJ2_checkIndex_2214a) B.pre w (List.mem_cons_of_mem _ h)
  have hown : s.vm.findClass RJ2 = some m.cls := findClass_of_methodNamed B.named
  have hlocks := B.notSynchronized
  subst hsz
  have hD : va_D A (wJ2_checkIndex_2214a cy ap1 n1 p1) := by rw [← hAe]; exact hD0.self
  have hA : ∀ q : Nat, s.heap.size ≤ q → A q := fun q h => by rw [← hAe]; exact Or.inr h
  have hS : va_S A s.heap s.heap [] := va_S.rf
  have hl := lv_entry ([.int x0, .ref ap1]) (n := 2) (Nat.le_of_ble_eq_true rfl)
  rw [lg_entry_eq]
  generalize (lg_sl ([.int x0, .ref ap1]) ++ List.replicate (2 - (lg_sl ([.int x0, .ref ap1])).length) Slot.unset).toArray = ls at hl ⊢
  have hl : lv_has ls 2 [(0, .int x0), (1, .ref ap1)] := hl
  unfold fJ2_checkIndex_2214a at hok
  obtain ⟨H, hH⟩ : ∃ H, H = s.heap := ⟨_, rfl⟩
  obtain ⟨locs, hlc⟩ : ∃ x : List Loc, x = [] := ⟨_, rfl⟩
  have hP : va_P D vwCl (wJ2_checkIndex_2214a cy ap1 n1 p1) H := by rw [hH]; exact hP
  have hS : va_S A s.heap H locs := by rw [hH, hlc]; exact hS
  rw [show W p l e _ s m _ below meth c s.heap [] = W p l e _ s m _ below meth c H locs from by rw [hH, hlc]]
  refine lv_iload_n hx hb dJ2_checkIndex_2214a_0 rfl (lv_at hl 0 rfl) ?_
  refine lv_aload_n hx hb dJ2_checkIndex_2214a_1 rfl (lv_at hl 1 rfl) ?_
  obtain ⟨r2, hc2, hok⟩ := k_bind hok
  refine kCi (wc := (wJ2_length_9d52b cy ap1 n1 p1)) (wc2 := (wJ2_length_9d52b cy ap1 n1 p1)) (wr := []) (ws2 := (wJ2_checkIndex_2214a cy ap1 n1 p1)) (kRunS (As := [.ref ap1]) (rest := [.int x0]) ⟨hx, hb, hml, hown, ht0⟩ (kJ2_length_9d52b l D cy _ ap1 n1 p1 r2 hc2 _ rfl) (va_cwS 1 ht0 (gS wd302 wd303 wd304 wd305) rfl rfl rfl (by decide +kernel) ⟨Nat.le_of_ble_eq_true rfl, Nat.le_of_ble_eq_true rfl⟩) hK hN hP hD [0] rfl (by decide) rfl hl.1 rfl (Nat.le_of_ble_eq_true rfl) dJ2_checkIndex_2214a_2 ⟨Nat.zero_le _, Nat.zero_le _⟩) hP hD hS hA [0] [] rfl rfl (by decide) (by decide) [0] (by decide) rfl rfl (fun H locs hP hD hS => ?_)
  obtain ⟨u5, hc5, hok⟩ := k_bind hok
  try dsimp only at hok
  refine kCv (wc := (wJ0_checkIndex_df160 cy )) (wc2 := (wJ0_checkIndex_df160 cy )) (wr := [(ap1, rB cy n1 p1)]) (ws2 := (wJ2_checkIndex_2214a cy ap1 n1 p1)) (kRunSS (As := [.int x0, .int r2]) (rest := []) ⟨hx, hb, hml, hown, ht0⟩ (kJ0_checkIndex_df160 l D cy ad _ x0 r2 hc5 _ rfl) (va_cwS 2 ht0 (gS wd306 wd300 wd292 wd301) rfl rfl rfl (by decide +kernel) ⟨Nat.le_of_ble_eq_true rfl, Nat.le_of_ble_eq_true rfl⟩) hK hN hP hD hSt hS hA [] rfl (by decide) rfl hl.1 rfl (Nat.le_of_ble_eq_true rfl) dJ2_checkIndex_2214a_5 ⟨Nat.zero_le _, Nat.zero_le _⟩) hP hD hS hA [] [0] rfl rfl (by decide) (by decide) [0] (by decide) rfl rfl (fun H locs hP hD hS => ?_)
  exact W.vret hx hb hr (fun t ht hW => ⟨⟨(), rfl, trivial, by rw [ht]; exact hP, va_K.moved hW.alike hK, hD⟩, hS.F ht⟩) hS.2.2 dJ2_checkIndex_2214a_8
def wsJ0_charAt_5068e : List Cond := .code yJ0_charAt_5068e cJ0_charAt_5068e 2 (some .char) :: W0
abbrev wJ0_charAt_5068e (cy : Nat → ClassId)  : va_W := []
set_option maxHeartbeats 4000000 in
set_option maxRecDepth 100000 in
theorem kJ0_charAt_5068e (l : Launch) (D : va_G) (cy : Nat → ClassId) (ad : (Nat → Nat) × (Nat → Nat)) (sz : Nat) (x0 : Nat) (x1 : Int32) (zr : Int32) (hok : fJ0_charAt_5068e x0 x1 = some zr) (A : Nat → Prop) (hAe : va_A (wJ0_charAt_5068e cy ) sz = A) : Met l yJ0_charAt_5068e wsJ0_charAt_5068e ({ frames := 3, cells := 0, slots := 0, locals := 64 } : Room) (kPreS D cy ad [.ref (ad.1 x0), .int x1] (wJ0_charAt_5068e cy ) sz A) (kQi D cy zr A (wJ0_charAt_5068e cy )) 0 0 A := by
  refine Met.ofW (cc := cJ0_charAt_5068e) (maxL := 2) (ret := (some .char)) (by decide) rfl ?_
  intro p e s m args below meth c s₁ B hml hv
  obtain ⟨rfl, ⟨hsz, hP, hK, hD0, hN⟩, hSt⟩ := hv
  have hx := B.exec
  have hb := B.bytes
  have hr := B.returns
  have ht0 : ∀ w ∈ W0, w.before _ s = true := fun w h => atoms_spec (ws := wsJ0_charAt_5068e) B.pre w (List.mem_cons_of_mem _ h)
  have hown : s.vm.findClass RJ0 = some m.cls := findClass_of_methodNamed B.named
  have hlocks := B.notSynchronized
  subst hsz
  have hD : va_D A (wJ0_charAt_5068e cy ) := by rw [← hAe]; exact hD0.self
  have hA : ∀ q : Nat, s.heap.size ≤ q → A q := fun q h => by rw [← hAe]; exact Or.inr h
  have hS : va_S A s.heap s.heap [] := va_S.rf
  have hl := lv_entry ([.ref (ad.1 x0), .int x1]) (n := 2) (Nat.le_of_ble_eq_true rfl)
  rw [lg_entry_eq]
  generalize (lg_sl ([.ref (ad.1 x0), .int x1]) ++ List.replicate (2 - (lg_sl ([.ref (ad.1 x0), .int x1])).length) Slot.unset).toArray = ls at hl ⊢
  have hl : lv_has ls 2 [(0, .ref (ad.1 x0)), (1, .int x1)] := hl
  unfold fJ0_charAt_5068e at hok
  obtain ⟨H, hH⟩ : ∃ H, H = s.heap := ⟨_, rfl⟩
  obtain ⟨locs, hlc⟩ : ∃ x : List Loc, x = [] := ⟨_, rfl⟩
  have hP : va_P D vwCl (wJ0_charAt_5068e cy ) H := by rw [hH]; exact hP
  have hS : va_S A s.heap H locs := by rw [hH, hlc]; exact hS
  rw [show W p l e _ s m _ below meth c s.heap [] = W p l e _ s m _ below meth c H locs from by rw [hH, hlc]]
  refine lv_aload_n hx hb dJ0_charAt_5068e_0 rfl (lv_at hl 0 rfl) ?_
  obtain ⟨gs1, hok⟩ := gd_some hok
  obtain ⟨r1, hc1, hok⟩ := k_bind hok
  refine kCi (wc := (wJ0_isLatin1_aae02 cy )) (wc2 := (wJ0_isLatin1_aae02 cy )) (wr := []) (ws2 := (wJ0_charAt_5068e cy )) (kRunVT (As := []) (rest := []) ⟨hx, hb, hml, hown, ht0⟩ (kJ0_isLatin1_aae02 l D cy ad _ x0 r1 hc1 _ rfl) (cwV 0 ht0 (gV wd308 wd309 wd310 wd292 wd311) rfl rfl rfl (by decide +kernel) ⟨Nat.le_of_ble_eq_true rfl, Nat.le_of_ble_eq_true rfl⟩) hK hN hP hD hSt hS hA [] rfl (by decide) (okS_lt gs1) rfl hl.1 rfl (Nat.le_of_ble_eq_true rfl) dJ0_charAt_5068e_1 ⟨Nat.zero_le _, Nat.zero_le _⟩) hP hD hS hA [] [] rfl rfl (by decide) (by decide) [] (by decide) rfl rfl (fun H locs hP hD hS => ?_)
  refine lv_if_eq (tgt := 16) hx hb dJ0_charAt_5068e_4 (by decide) (fun c4 => ?_) (fun c4 => ?_)
  · have hok := k_pos c4 hok
    cases hok
  · have hok := k_neg c4 hok
    refine lv_aload_n hx hb dJ0_charAt_5068e_7 rfl (lv_at hl 0 rfl) ?_
    obtain ⟨g8, hok⟩ := gd_some hok
    refine vk_getf hx hb (hSt.1.1 x0 (okS_lt g8)).2.2.1 hS hown (ht0 _ wd288) (fun _ h9 => h9) dJ0_charAt_5068e_8 ?_
    refine lv_iload_n hx hb dJ0_charAt_5068e_11 rfl (lv_at hl 1 rfl) ?_
    obtain ⟨r12, hc12, hok⟩ := k_bind hok
    refine kCi (wc := (wJ1_charAt_3b067 cy )) (wc2 := (wJ1_charAt_3b067 cy )) (wr := []) (ws2 := (wJ0_charAt_5068e cy )) (kRunSS (As := [.ref (ad.2 x0), .int x1]) (rest := []) ⟨hx, hb, hml, hown, ht0⟩ (kJ1_charAt_3b067 l D cy ad _ x0 x1 r12 hc12 _ rfl) (va_cwS 2 ht0 (gS wd312 wd313 wd314 wd315) rfl rfl rfl (by decide +kernel) ⟨Nat.le_of_ble_eq_true rfl, Nat.le_of_ble_eq_true rfl⟩) hK hN hP hD hSt hS hA [] rfl (by decide) rfl hl.1 rfl (Nat.le_of_ble_eq_true rfl) dJ0_charAt_5068e_12 ⟨Nat.zero_le _, Nat.zero_le _⟩) hP hD hS hA [] [] rfl rfl (by decide) (by decide) [] (by decide) rfl rfl (fun H locs hP hD hS => ?_)
    obtain ⟨g15, hok⟩ := gd_some hok
    cases hok
    exact W.zret hx hb hr (isCh_nar g15) (fun t ht hW => ⟨⟨_, (), rfl, rfl, by rw [ht]; exact hP, va_K.moved hW.alike hK, hD⟩, hS.F ht⟩) hS.2.2 dJ0_charAt_5068e_15
def wsX5_says : List Cond := .code yX5_says cX5_says 4 (some .boolean) :: W0
abbrev wX5_says (cy : Nat → ClassId) (aR : Nat) (qR : Nat → Nat) (aH : Nat) (fvR_2 : Nat) (vR_j11 : Int64) (vR : Nat → Int32) (vR_tape : Nat → Int32) : va_W := [(aR, oX5 vR qR vR_j11 fvR_2), (qR 0, rB cy 900 vR_tape)]
set_option maxHeartbeats 4000000 in
set_option maxRecDepth 100000 in
theorem kX5_says (l : Launch) (D : va_G) (cy : Nat → ClassId) (ad : (Nat → Nat) × (Nat → Nat)) (sz : Nat) (aR : Nat) (qR : Nat → Nat) (aH : Nat) (vR_j11 : Int64) (vR : Nat → Int32) (vR_tape : Nat → Int32) (x1 : Nat) (zr : Int32) (hok : fX5_says vR_j11 vR vR_tape x1 = some zr) (A : Nat → Prop) (hAe : va_A (wX5_says cy aR qR aH aH vR_j11 vR vR_tape) sz = A) : Met l yX5_says wsX5_says ({ frames := 4, cells := 0, slots := 0, locals := 85 } : Room) (kPreS D cy ad [.ref aR, .ref (ad.1 x1)] (wX5_says cy aR qR aH aH vR_j11 vR vR_tape) sz A) (kQi D cy zr A (wX5_says cy aR qR aH aH vR_j11 vR vR_tape)) 0 0 A := by
  refine Met.ofW (cc := cX5_says) (maxL := 4) (ret := (some .boolean)) (by decide) rfl ?_
  intro p e s m args below meth c s₁ B hml hv
  obtain ⟨rfl, ⟨hsz, hP, hK, hD0, hN⟩, hSt⟩ := hv
  have hx := B.exec
  have hb := B.bytes
  have hr := B.returns
  have ht0 : ∀ w ∈ W0, w.before _ s = true := fun w h => atoms_spec (ws := wsX5_says) B.pre w (List.mem_cons_of_mem _ h)
  have hown : s.vm.findClass RX5 = some m.cls := findClass_of_methodNamed B.named
  have hlocks := B.notSynchronized
  subst hsz
  have hD : va_D A (wX5_says cy aR qR aH aH vR_j11 vR vR_tape) := by rw [← hAe]; exact hD0.self
  have hA : ∀ q : Nat, s.heap.size ≤ q → A q := fun q h => by rw [← hAe]; exact Or.inr h
  have hS : va_S A s.heap s.heap [] := va_S.rf
  have hl := lv_entry ([.ref aR, .ref (ad.1 x1)]) (n := 4) (Nat.le_of_ble_eq_true rfl)
  rw [lg_entry_eq]
  generalize (lg_sl ([.ref aR, .ref (ad.1 x1)]) ++ List.replicate (4 - (lg_sl ([.ref aR, .ref (ad.1 x1)])).length) Slot.unset).toArray = ls at hl ⊢
  have hl : lv_has ls 4 [(0, .ref aR), (1, .ref (ad.1 x1))] := hl
  generalize hQe : MQ below (kQi D cy zr A (wX5_says cy aR qR aH aH vR_j11 vR vR_tape)) ([.ref aR, .ref (ad.1 x1)] : List Value).toArray s 0 0 A = Q
  have J68 : ∀ (H : Heap) (locs : List Loc) (ls : Array Slot), va_P D vwCl (wX5_says cy aR qR aH aH vR_j11 vR vR_tape) H → va_D A (wX5_says cy aR qR aH aH vR_j11 vR vR_tape) → va_S A s.heap H locs → lv_has ls 4 [] → fX5_says_J68 = some zr → W p l e ({ frames := 4, cells := 0, slots := 0, locals := 85 } : Room) s m ([.ref aR, .ref (ad.1 x1)] : List Value).toArray below meth c H locs 0 0 Q (F0 m 68 ls []) := by
    intro  H locs ls hP hD hS hl hok
    unfold fX5_says_J68 at hok
    refine lv_iconst (v := 0) hx hb dX5_says_68 (by decide) ?_
    cases hok
    subst hQe; exact W.zret hx hb hr rfl (fun t ht hW => ⟨⟨_, (), rfl, rfl, by rw [ht]; exact hP, va_K.moved hW.alike hK, hD⟩, hS.F ht⟩) hS.2.2 dX5_says_69
  have L28 : ∀ (fuel : Nat) (y2_28 : Int32), ∀ (H : Heap) (locs : List Loc) (ls : Array Slot), va_P D vwCl (wX5_says cy aR qR aH aH vR_j11 vR vR_tape) H → va_D A (wX5_says cy aR qR aH aH vR_j11 vR vR_tape) → va_S A s.heap H locs → lv_has ls 4 [(0, .ref aR), (1, .ref (ad.1 x1)), (2, .int y2_28)] → lp (fX5_says_B28 vR vR_tape x1) fuel y2_28 = some zr → W p l e ({ frames := 4, cells := 0, slots := 0, locals := 85 } : Room) s m ([.ref aR, .ref (ad.1 x1)] : List Value).toArray below meth c H locs 0 0 Q (F0 m 28 ls []) := by
    intro fuel
    induction fuel with
    | zero => intro y2_28 H locs ls hP hD hS hl hok; exact (lp_0 hok).elim
    | succ fuel ih28 =>
      intro y2_28 H locs ls hP hD hS hl hok
      obtain ⟨y28, hok, hL28, hR28⟩ := lp_step hok
      unfold fX5_says_B28 at hok
      refine lv_iload_n hx hb dX5_says_28 rfl (lv_at hl 2 rfl) ?_
      refine lv_aload_n hx hb dX5_says_29 rfl (lv_at hl 1 rfl) ?_
      obtain ⟨gs30, hok⟩ := gd_some hok
      obtain ⟨r30, hc30, hok⟩ := k_bind hok
      refine kCi (wc := (wJ0_length_8abf5 cy )) (wc2 := (wJ0_length_8abf5 cy )) (wr := [(aR, oX5 vR qR vR_j11 aH), (qR 0, rB cy 900 vR_tape)]) (ws2 := (wX5_says cy aR qR aH aH vR_j11 vR vR_tape)) (kRunVT (As := []) (rest := [.int y2_28]) ⟨hx, hb, hml, hown, ht0⟩ (kJ0_length_8abf5 l D cy ad _ x1 r30 hc30 _ rfl) (cwV 0 ht0 (gV wd316 wd317 wd318 wd292 wd319) rfl rfl rfl (by decide +kernel) ⟨Nat.le_of_ble_eq_true rfl, Nat.le_of_ble_eq_true rfl⟩) hK hN hP hD hSt hS hA [] rfl (by decide) (okS_lt gs30) rfl hl.1 rfl (Nat.le_of_ble_eq_true rfl) dX5_says_30 ⟨Nat.zero_le _, Nat.zero_le _⟩) hP hD hS hA [] [0, 1] rfl rfl (by decide) (by decide) [0, 1] (by decide) rfl rfl (fun H locs hP hD hS => ?_)
      refine lv_icmp_ge (tgt := 76) hx hb dX5_says_33 (by decide) (fun c33 => ?_) (fun c33 => ?_)
      · have hok := k_pos c33 hok
        obtain ⟨e28, hok, he28⟩ := ex_some hok
        have hok := hok.trans (congrArg some (hL28 _ he28))
        refine lv_iconst (v := 1) hx hb dX5_says_76 (by decide) ?_
        cases hok
        subst hQe; exact W.zret hx hb hr rfl (fun t ht hW => ⟨⟨_, (), rfl, rfl, by rw [ht]; exact hP, va_K.moved hW.alike hK, hD⟩, hS.F ht⟩) hS.2.2 dX5_says_77
      · have hok := k_neg c33 hok
        refine lv_aload_n hx hb dX5_says_36 rfl (lv_at hl 0 rfl) ?_
        refine va_get (D := D) (ci := 4) (v := .int (vR 8)) (C := RX5) (T := TX5) (N := 13) hx hb ht0 niX5 hown hK hP 0 rfl rfl 8 (by decide) (ht0 _ wd265) (fun _ h9 => h9) rfl dX5_says_37 ?_
        refine lv_iload_n hx hb dX5_says_40 rfl (lv_at hl 2 rfl) ?_
        refine lv_iadd hx hb dX5_says_41 ?_
        refine lv_istore_n (lv' := [(3, .int ((vR 8) + y2_28)), (0, .ref aR), (1, .ref (ad.1 x1)), (2, .int y2_28)]) hx hb dX5_says_42 rfl hl (by decide) rfl (fun ls hl => ?_)
        refine lv_iload_n hx hb dX5_says_43 rfl (lv_at hl 0 rfl) ?_
        refine lv_if_lt (tgt := 68) hx hb dX5_says_44 (by decide) (fun c44 => ?_) (fun c44 => ?_)
        · have hok := k_pos c44 hok
          obtain ⟨e28, hok, he28⟩ := ex_some hok
          have hok := hok.trans (congrArg some (hL28 _ he28))
          exact J68  H locs ls hP hD hS (lv_sub hl [] rfl) hok
        · have hok := k_neg c44 hok
          refine lv_iload_n hx hb dX5_says_47 rfl (lv_at hl 0 rfl) ?_
          refine lv_sipush (v := 900) hx hb dX5_says_48 (by decide) ?_
          refine lv_icmp_ge (tgt := 68) hx hb dX5_says_51 (by decide) (fun c51 => ?_) (fun c51 => ?_)
          · have hok := k_pos c51 hok
            obtain ⟨e28, hok, he28⟩ := ex_some hok
            have hok := hok.trans (congrArg some (hL28 _ he28))
            exact J68  H locs ls hP hD hS (lv_sub hl [] rfl) hok
          · have hok := k_neg c51 hok
            refine lv_aload_n hx hb dX5_says_54 rfl (lv_at hl 1 rfl) ?_
            refine va_get (D := D) (ci := 4) (v := .ref (qR 0)) (C := RX5) (T := TX5) (N := 13) hx hb ht0 niX5 hown hK hP 0 rfl rfl 0 (by decide) (ht0 _ wd263) (fun _ h9 => h9) rfl dX5_says_55 ?_
            refine lv_iload_n hx hb dX5_says_58 rfl (lv_at hl 0 rfl) ?_
            obtain ⟨g59, hok⟩ := gd_some hok
            refine va_bald hx hb hK hP 1 1 rfl rfl (okI_in g59) dX5_says_59 ?_
            refine lv_aload_n hx hb dX5_says_60 rfl (lv_at hl 2 rfl) ?_
            refine lv_iload_n hx hb dX5_says_61 rfl (lv_at hl 3 rfl) ?_
            obtain ⟨gs62, hok⟩ := gd_some hok
            obtain ⟨r62, hc62, hok⟩ := k_bind hok
            refine kCi (wc := (wJ0_charAt_5068e cy )) (wc2 := (wJ0_charAt_5068e cy )) (wr := [(aR, oX5 vR qR vR_j11 aH), (qR 0, rB cy 900 vR_tape)]) (ws2 := (wX5_says cy aR qR aH aH vR_j11 vR vR_tape)) (kRunVT (As := [.int y2_28]) (rest := [.int (vR_tape ((vR 8) + y2_28).toNatClampNeg)]) ⟨hx, hb, hml, hown, ht0⟩ (kJ0_charAt_5068e l D cy ad _ x1 y2_28 r62 hc62 _ rfl) (cwV 1 ht0 (gV wd320 wd321 wd322 wd292 wd323) rfl rfl rfl (by decide +kernel) ⟨Nat.le_of_ble_eq_true rfl, Nat.le_of_ble_eq_true rfl⟩) hK hN hP hD hSt hS hA [] rfl (by decide) (okS_lt gs62) rfl hl.1 rfl (Nat.le_of_ble_eq_true rfl) dX5_says_62 ⟨Nat.zero_le _, Nat.zero_le _⟩) hP hD hS hA [] [0, 1] rfl rfl (by decide) (by decide) [0, 1] (by decide) rfl rfl (fun H locs hP hD hS => ?_)
            refine lv_icmp_eq (tgt := 70) hx hb dX5_says_65 (by decide) (fun c65 => ?_) (fun c65 => ?_)
            · have hok := k_pos c65 hok
              refine lv_iinc (v := (y2_28 + 1)) (lv' := [(2, .int (y2_28 + 1)), (3, .int ((vR 8) + y2_28)), (0, .ref aR), (1, .ref (ad.1 x1))]) hx hb dX5_says_70 hl (k := 3) rfl (by first | rfl | decide) (by decide) rfl (fun ls hl => ?_)
              refine lv_goto (tgt := 28) hx hb dX5_says_73 (by decide) ?_
              exact ih28 (y2_28 + 1) H locs ls hP hD hS (lv_sub hl [2, 3, 0] rfl) (hR28 _ (Option.some.inj hok).symm)
            · have hok := k_neg c65 hok
              obtain ⟨e28, hok, he28⟩ := ex_some hok
              have hok := hok.trans (congrArg some (hL28 _ he28))
              exact J68  H locs ls hP hD hS (lv_sub hl [] rfl) hok
  have J24 : ∀ (H : Heap) (locs : List Loc) (ls : Array Slot), va_P D vwCl (wX5_says cy aR qR aH aH vR_j11 vR vR_tape) H → va_D A (wX5_says cy aR qR aH aH vR_j11 vR vR_tape) → va_S A s.heap H locs → lv_has ls 4 [] → fX5_says_J24 = some zr → W p l e ({ frames := 4, cells := 0, slots := 0, locals := 85 } : Room) s m ([.ref aR, .ref (ad.1 x1)] : List Value).toArray below meth c H locs 0 0 Q (F0 m 24 ls []) := by
    intro  H locs ls hP hD hS hl hok
    unfold fX5_says_J24 at hok
    refine lv_iconst (v := 0) hx hb dX5_says_24 (by decide) ?_
    cases hok
    subst hQe; exact W.zret hx hb hr rfl (fun t ht hW => ⟨⟨_, (), rfl, rfl, by rw [ht]; exact hP, va_K.moved hW.alike hK, hD⟩, hS.F ht⟩) hS.2.2 dX5_says_25
  unfold fX5_says at hok
  obtain ⟨H, hH⟩ : ∃ H, H = s.heap := ⟨_, rfl⟩
  obtain ⟨locs, hlc⟩ : ∃ x : List Loc, x = [] := ⟨_, rfl⟩
  have hP : va_P D vwCl (wX5_says cy aR qR aH aH vR_j11 vR vR_tape) H := by rw [hH]; exact hP
  have hS : va_S A s.heap H locs := by rw [hH, hlc]; exact hS
  rw [show W p l e _ s m _ below meth c s.heap [] = W p l e _ s m _ below meth c H locs from by rw [hH, hlc]]
  refine lv_aload_n hx hb dX5_says_0 rfl (lv_at hl 0 rfl) ?_
  refine va_get (D := D) (ci := 4) (v := .int (vR 7)) (C := RX5) (T := TX5) (N := 13) hx hb ht0 niX5 hown hK hP 0 rfl rfl 7 (by decide) (ht0 _ wd269) (fun _ h9 => h9) rfl dX5_says_1 ?_
  refine lv_iconst (v := 1) hx hb dX5_says_4 (by decide) ?_
  refine lv_icmp_ne (tgt := 24) hx hb dX5_says_5 (by decide) (fun c5 => ?_) (fun c5 => ?_)
  · have hok := k_neg c5 hok
    exact J24  H locs ls hP hD hS (lv_sub hl [] rfl) hok
  · have hok := k_pos c5 hok
    refine lv_aload_n hx hb dX5_says_8 rfl (lv_at hl 0 rfl) ?_
    refine va_get (D := D) (ci := 4) (v := .int (vR 9)) (C := RX5) (T := TX5) (N := 13) hx hb ht0 niX5 hown hK hP 0 rfl rfl 9 (by decide) (ht0 _ wd270) (fun _ h9 => h9) rfl dX5_says_9 ?_
    refine lv_aload_n hx hb dX5_says_12 rfl (lv_at hl 0 rfl) ?_
    refine va_get (D := D) (ci := 4) (v := .int (vR 8)) (C := RX5) (T := TX5) (N := 13) hx hb ht0 niX5 hown hK hP 0 rfl rfl 8 (by decide) (ht0 _ wd265) (fun _ h9 => h9) rfl dX5_says_13 ?_
    refine lv_isub hx hb dX5_says_16 ?_
    refine lv_aload_n hx hb dX5_says_17 rfl (lv_at hl 1 rfl) ?_
    obtain ⟨gs18, hok⟩ := gd_some hok
    obtain ⟨r18, hc18, hok⟩ := k_bind hok
    refine kCi (wc := (wJ0_length_8abf5 cy )) (wc2 := (wJ0_length_8abf5 cy )) (wr := [(aR, oX5 vR qR vR_j11 aH), (qR 0, rB cy 900 vR_tape)]) (ws2 := (wX5_says cy aR qR aH aH vR_j11 vR vR_tape)) (kRunVT (As := []) (rest := [.int ((vR 9) - (vR 8))]) ⟨hx, hb, hml, hown, ht0⟩ (kJ0_length_8abf5 l D cy ad _ x1 r18 hc18 _ rfl) (cwV 0 ht0 (gV wd316 wd317 wd318 wd292 wd319) rfl rfl rfl (by decide +kernel) ⟨Nat.le_of_ble_eq_true rfl, Nat.le_of_ble_eq_true rfl⟩) hK hN hP hD hSt hS hA [] rfl (by decide) (okS_lt gs18) rfl hl.1 rfl (Nat.le_of_ble_eq_true rfl) dX5_says_18 ⟨Nat.zero_le _, Nat.zero_le _⟩) hP hD hS hA [] [0, 1] rfl rfl (by decide) (by decide) [0, 1] (by decide) rfl rfl (fun H locs hP hD hS => ?_)
    refine lv_icmp_eq (tgt := 26) hx hb dX5_says_21 (by decide) (fun c21 => ?_) (fun c21 => ?_)
    · have hok := k_pos c21 hok
      refine lv_iconst (v := 0) hx hb dX5_says_26 (by decide) ?_
      refine lv_istore_n (lv' := [(2, .int 0), (0, .ref aR), (1, .ref (ad.1 x1))]) hx hb dX5_says_27 rfl hl (by decide) rfl (fun ls hl => ?_)
      exact L28 5000 (0 : Int32) H locs ls hP hD hS (lv_sub hl [1, 2, 0] rfl) hok
    · have hok := k_neg c21 hok
      exact J24  H locs ls hP hD hS (lv_sub hl [] rfl) hok
def wsX5_fails : List Cond := .code yX5_fails cX5_fails 2 (some .boolean) :: W0
abbrev wX5_fails (cy : Nat → ClassId) (aR : Nat) (qR : Nat → Nat) (aH : Nat) (fvR_2 : Nat) (vR_j11 : Int64) (vR : Nat → Int32) : va_W := [(aR, oX5 vR qR vR_j11 fvR_2)]
set_option maxHeartbeats 4000000 in
set_option maxRecDepth 100000 in
theorem kX5_fails (l : Launch) (D : va_G) (cy : Nat → ClassId) (sz : Nat) (aR : Nat) (qR : Nat → Nat) (aH : Nat) (vR_j11 : Int64) (vR : Nat → Int32) (x1 : Int32) (zr : Int32) (z_vR : Nat → Int32) (hok : fX5_fails vR_j11 vR x1 = some (zr, z_vR)) (A : Nat → Prop) (hAe : va_A (wX5_fails cy aR qR aH aH vR_j11 vR) sz = A) : Met l yX5_fails wsX5_fails ({ frames := 0, cells := 0, slots := 0, locals := 0 } : Room) (kPre D cy [.ref aR, .int x1] (wX5_fails cy aR qR aH aH vR_j11 vR) sz) (kQi D cy zr A (wX5_fails cy aR qR aH aH vR_j11 z_vR)) 0 0 A := by
  refine Met.ofW (cc := cX5_fails) (maxL := 2) (ret := (some .boolean)) (by decide) rfl ?_
  intro p e s m args below meth c s₁ B hml hv
  obtain ⟨rfl, hsz, hP, hK, hD0, hN⟩ := hv
  have hx := B.exec
  have hb := B.bytes
  have hr := B.returns
  have ht0 : ∀ w ∈ W0, w.before _ s = true := fun w h => atoms_spec (ws := wsX5_fails) B.pre w (List.mem_cons_of_mem _ h)
  have hown : s.vm.findClass RX5 = some m.cls := findClass_of_methodNamed B.named
  have hlocks := B.notSynchronized
  subst hsz
  have hD : va_D A (wX5_fails cy aR qR aH aH vR_j11 vR) := by rw [← hAe]; exact hD0.self
  have hA : ∀ q : Nat, s.heap.size ≤ q → A q := fun q h => by rw [← hAe]; exact Or.inr h
  have hS : va_S A s.heap s.heap [] := va_S.rf
  have hl := lv_entry ([.ref aR, .int x1]) (n := 2) (Nat.le_of_ble_eq_true rfl)
  rw [lg_entry_eq]
  generalize (lg_sl ([.ref aR, .int x1]) ++ List.replicate (2 - (lg_sl ([.ref aR, .int x1])).length) Slot.unset).toArray = ls at hl ⊢
  have hl : lv_has ls 2 [(0, .ref aR), (1, .int x1)] := hl
  unfold fX5_fails at hok
  obtain ⟨H, hH⟩ : ∃ H, H = s.heap := ⟨_, rfl⟩
  obtain ⟨locs, hlc⟩ : ∃ x : List Loc, x = [] := ⟨_, rfl⟩
  have hP : va_P D vwCl (wX5_fails cy aR qR aH aH vR_j11 vR) H := by rw [hH]; exact hP
  have hS : va_S A s.heap H locs := by rw [hH, hlc]; exact hS
  rw [show W p l e _ s m _ below meth c s.heap [] = W p l e _ s m _ below meth c H locs from by rw [hH, hlc]]
  refine lv_aload_n hx hb dX5_fails_0 rfl (lv_at hl 0 rfl) ?_
  refine lv_iload_n hx hb dX5_fails_1 rfl (lv_at hl 1 rfl) ?_
  refine va_put (D := D) (ci := 4) (v := .int x1) (ty := .int) (C := RX5) (T := TX5) (N := 13) hx hb ht0 niX5 tyX5 tyX5_ok nmX5 hown hK hP hD hS 0 rfl rfl 12 (by decide) (ht0 _ wd264) (fun _ h9 => h9) rfl (by decide +kernel) rfl rfl (Nat.le_of_ble_eq_true rfl) dX5_fails_2 (fun H locs hP hD hS => ?_)
  have hP : va_P D vwCl (wX5_fails cy aR qR aH aH vR_j11 (upd vR 12 x1)) H := hP
  have hD : va_D A (wX5_fails cy aR qR aH aH vR_j11 (upd vR 12 x1)) := hD
  refine lv_iconst (v := 0) hx hb dX5_fails_5 (by decide) ?_
  cases hok
  exact W.zret hx hb hr rfl (fun t ht hW => ⟨⟨_, (), rfl, rfl, by rw [ht]; exact hP, va_K.moved hW.alike hK, hD⟩, hS.F ht⟩) hS.2.2 dX5_fails_6
def wsX5_passes : List Cond := .code yX5_passes cX5_passes 2 (some .boolean) :: W0
abbrev wX5_passes (cy : Nat → ClassId) (aR : Nat) (qR : Nat → Nat) (aH : Nat) (fvR_2 : Nat) (vR_j11 : Int64) (vR : Nat → Int32) (vR_tape : Nat → Int32) : va_W := [(aR, oX5 vR qR vR_j11 fvR_2), (qR 0, rB cy 900 vR_tape)]
set_option maxHeartbeats 4000000 in
set_option maxRecDepth 100000 in
theorem kX5_passes (l : Launch) (D : va_G) (cy : Nat → ClassId) (ad : (Nat → Nat) × (Nat → Nat)) (sz : Nat) (aR : Nat) (qR : Nat → Nat) (aH : Nat) (vR_j11 : Int64) (vR : Nat → Int32) (vR_tape : Nat → Int32) (x1 : Nat) (zr : Int32) (z_vR_j11 : Int64) (z_vR : Nat → Int32) (hok : fX5_passes vR_j11 vR vR_tape x1 = some (zr, z_vR_j11, z_vR)) (A : Nat → Prop) (hAe : va_A (wX5_passes cy aR qR aH aH vR_j11 vR vR_tape) sz = A) : Met l yX5_passes wsX5_passes ({ frames := 5, cells := 0, slots := 0, locals := 108 } : Room) (kPreS D cy ad [.ref aR, .ref (ad.1 x1)] (wX5_passes cy aR qR aH aH vR_j11 vR vR_tape) sz A) (kQi D cy zr A (wX5_passes cy aR qR aH aH z_vR_j11 z_vR vR_tape)) 0 0 A := by
  refine Met.ofW (cc := cX5_passes) (maxL := 2) (ret := (some .boolean)) (by decide) rfl ?_
  intro p e s m args below meth c s₁ B hml hv
  obtain ⟨rfl, ⟨hsz, hP, hK, hD0, hN⟩, hSt⟩ := hv
  have hx := B.exec
  have hb := B.bytes
  have hr := B.returns
  have ht0 : ∀ w ∈ W0, w.before _ s = true := fun w h => atoms_spec (ws := wsX5_passes) B.pre w (List.mem_cons_of_mem _ h)
  have hown : s.vm.findClass RX5 = some m.cls := findClass_of_methodNamed B.named
  have hlocks := B.notSynchronized
  subst hsz
  have hD : va_D A (wX5_passes cy aR qR aH aH vR_j11 vR vR_tape) := by rw [← hAe]; exact hD0.self
  have hA : ∀ q : Nat, s.heap.size ≤ q → A q := fun q h => by rw [← hAe]; exact Or.inr h
  have hS : va_S A s.heap s.heap [] := va_S.rf
  have hl := lv_entry ([.ref aR, .ref (ad.1 x1)]) (n := 2) (Nat.le_of_ble_eq_true rfl)
  rw [lg_entry_eq]
  generalize (lg_sl ([.ref aR, .ref (ad.1 x1)]) ++ List.replicate (2 - (lg_sl ([.ref aR, .ref (ad.1 x1)])).length) Slot.unset).toArray = ls at hl ⊢
  have hl : lv_has ls 2 [(0, .ref aR), (1, .ref (ad.1 x1))] := hl
  unfold fX5_passes at hok
  obtain ⟨H, hH⟩ : ∃ H, H = s.heap := ⟨_, rfl⟩
  obtain ⟨locs, hlc⟩ : ∃ x : List Loc, x = [] := ⟨_, rfl⟩
  have hP : va_P D vwCl (wX5_passes cy aR qR aH aH vR_j11 vR vR_tape) H := by rw [hH]; exact hP
  have hS : va_S A s.heap H locs := by rw [hH, hlc]; exact hS
  rw [show W p l e _ s m _ below meth c s.heap [] = W p l e _ s m _ below meth c H locs from by rw [hH, hlc]]
  refine lv_aload_n hx hb dX5_passes_0 rfl (lv_at hl 0 rfl) ?_
  refine lv_aload_n hx hb dX5_passes_1 rfl (lv_at hl 1 rfl) ?_
  obtain ⟨r2, hc2, hok⟩ := k_bind hok
  refine kCi (wc := (wX5_says cy aR qR aH aH vR_j11 vR vR_tape)) (wc2 := (wX5_says cy aR qR aH aH vR_j11 vR vR_tape)) (wr := []) (ws2 := (wX5_passes cy aR qR aH aH vR_j11 vR vR_tape)) (kRunVS (As := [.ref (ad.1 x1)]) (rest := []) ⟨hx, hb, hml, hown, ht0⟩ (kX5_says l D cy ad _ aR qR aH vR_j11 vR vR_tape x1 r2 hc2 _ rfl) (cwV 1 ht0 (gV wd324 wd325 wd326 wd276 wd327) rfl rfl rfl (by decide +kernel) ⟨Nat.le_of_ble_eq_true rfl, Nat.le_of_ble_eq_true rfl⟩) hK hN hP hD hSt hS hA [0, 1] rfl (by decide) 0 4 rfl rfl rfl hl.1 rfl (Nat.le_of_ble_eq_true rfl) dX5_passes_2 ⟨Nat.zero_le _, Nat.zero_le _⟩) hP hD hS hA [0, 1] [] rfl rfl (by decide) (by decide) [0, 1] (by decide) rfl rfl (fun H locs hP hD hS => ?_)
  refine lv_if_ne (tgt := 14) hx hb dX5_passes_5 (by decide) (fun c5 => ?_) (fun c5 => ?_)
  · have hok := k_neg c5 hok
    refine lv_aload_n hx hb dX5_passes_14 rfl (lv_at hl 0 rfl) ?_
    obtain ⟨⟨vR_j11_15, vR_15⟩, hc15, hok⟩ := k_bind hok
    try dsimp only at hok
    refine kCv (wc := (wX5_step cy aR qR aH aH vR_j11 vR vR_tape)) (wc2 := (wX5_step cy aR qR aH aH vR_j11_15 vR_15 vR_tape)) (wr := []) (ws2 := (wX5_passes cy aR qR aH aH vR_j11_15 vR_15 vR_tape)) (kRunV (As := []) (rest := []) ⟨hx, hb, hml, hown, ht0⟩ (kX5_step l D cy _ aR qR aH vR_j11 vR vR_tape vR_j11_15 vR_15 hc15 _ rfl) (cwV 0 ht0 (gV wd328 wd329 wd330 wd276 wd331) rfl rfl rfl (by decide +kernel) ⟨Nat.le_of_ble_eq_true rfl, Nat.le_of_ble_eq_true rfl⟩) hK hN hP hD [0, 1] rfl (by decide) 0 4 rfl rfl rfl hl.1 rfl (Nat.le_of_ble_eq_true rfl) dX5_passes_15 ⟨Nat.zero_le _, Nat.zero_le _⟩) hP hD hS hA [0, 1] [] rfl rfl (by decide) (by decide) [0, 1] (by decide) rfl rfl (fun H locs hP hD hS => ?_)
    refine lv_iconst (v := 1) hx hb dX5_passes_18 (by decide) ?_
    cases hok
    exact W.zret hx hb hr rfl (fun t ht hW => ⟨⟨_, (), rfl, rfl, by rw [ht]; exact hP, va_K.moved hW.alike hK, hD⟩, hS.F ht⟩) hS.2.2 dX5_passes_19
  · have hok := k_pos c5 hok
    refine lv_aload_n hx hb dX5_passes_8 rfl (lv_at hl 0 rfl) ?_
    refine lv_iconst (v := 1) hx hb dX5_passes_9 (by decide) ?_
    obtain ⟨⟨r10, vR_10⟩, hc10, hok⟩ := k_bind hok
    try dsimp only at hok
    refine kCi (wc := (wX5_fails cy aR qR aH aH vR_j11 vR)) (wc2 := (wX5_fails cy aR qR aH aH vR_j11 vR_10)) (wr := [(qR 0, rB cy 900 vR_tape)]) (ws2 := (wX5_passes cy aR qR aH aH vR_j11 vR_10 vR_tape)) (kRunV (As := [.int 1]) (rest := []) ⟨hx, hb, hml, hown, ht0⟩ (kX5_fails l D cy _ aR qR aH vR_j11 vR (1 : Int32) r10 vR_10 hc10 _ rfl) (cwV 1 ht0 (gV wd332 wd333 wd334 wd276 wd335) rfl rfl rfl (by decide +kernel) ⟨Nat.le_of_ble_eq_true rfl, Nat.le_of_ble_eq_true rfl⟩) hK hN hP hD [0] rfl (by decide) 0 4 rfl rfl rfl hl.1 rfl (Nat.le_of_ble_eq_true rfl) dX5_passes_10 ⟨Nat.zero_le _, Nat.zero_le _⟩) hP hD hS hA [0] [1] rfl rfl (by decide) (by decide) [1, 0] (by decide) rfl rfl (fun H locs hP hD hS => ?_)
    obtain ⟨g13, hok⟩ := gd_some hok
    cases hok
    exact W.zret hx hb hr (isB_nar g13) (fun t ht hW => ⟨⟨_, (), rfl, rfl, by rw [ht]; exact hP, va_K.moved hW.alike hK, hD⟩, hS.F ht⟩) hS.2.2 dX5_passes_13
def wsX5_isWhole : List Cond := .code yX5_isWhole cX5_isWhole 3 (some .boolean) :: W0
abbrev wX5_isWhole (cy : Nat → ClassId) (aR : Nat) (qR : Nat → Nat) (aH : Nat) (fvR_2 : Nat) (vR_j11 : Int64) (vR : Nat → Int32) : va_W := [(aR, oX5 vR qR vR_j11 fvR_2)]
set_option maxHeartbeats 4000000 in
set_option maxRecDepth 100000 in
theorem kX5_isWhole (l : Launch) (D : va_G) (cy : Nat → ClassId) (sz : Nat) (aR : Nat) (qR : Nat → Nat) (aH : Nat) (vR_j11 : Int64) (vR : Nat → Int32) (x1 : Int32) (x2 : Int32) (zr : Int32) (z_vR : Nat → Int32) (hok : fX5_isWhole vR_j11 vR x1 x2 = some (zr, z_vR)) (A : Nat → Prop) (hAe : va_A (wX5_isWhole cy aR qR aH aH vR_j11 vR) sz = A) : Met l yX5_isWhole wsX5_isWhole ({ frames := 1, cells := 0, slots := 0, locals := 21 } : Room) (kPre D cy [.ref aR, .int x1, .int x2] (wX5_isWhole cy aR qR aH aH vR_j11 vR) sz) (kQi D cy zr A (wX5_isWhole cy aR qR aH aH vR_j11 z_vR)) 0 0 A := by
  refine Met.ofW (cc := cX5_isWhole) (maxL := 3) (ret := (some .boolean)) (by decide) rfl ?_
  intro p e s m args below meth c s₁ B hml hv
  obtain ⟨rfl, hsz, hP, hK, hD0, hN⟩ := hv
  have hx := B.exec
  have hb := B.bytes
  have hr := B.returns
  have ht0 : ∀ w ∈ W0, w.before _ s = true := fun w h => atoms_spec (ws := wsX5_isWhole) B.pre w (List.mem_cons_of_mem _ h)
  have hown : s.vm.findClass RX5 = some m.cls := findClass_of_methodNamed B.named
  have hlocks := B.notSynchronized
  subst hsz
  have hD : va_D A (wX5_isWhole cy aR qR aH aH vR_j11 vR) := by rw [← hAe]; exact hD0.self
  have hA : ∀ q : Nat, s.heap.size ≤ q → A q := fun q h => by rw [← hAe]; exact Or.inr h
  have hS : va_S A s.heap s.heap [] := va_S.rf
  have hl := lv_entry ([.ref aR, .int x1, .int x2]) (n := 3) (Nat.le_of_ble_eq_true rfl)
  rw [lg_entry_eq]
  generalize (lg_sl ([.ref aR, .int x1, .int x2]) ++ List.replicate (3 - (lg_sl ([.ref aR, .int x1, .int x2])).length) Slot.unset).toArray = ls at hl ⊢
  have hl : lv_has ls 3 [(0, .ref aR), (1, .int x1), (2, .int x2)] := hl
  generalize hQe : MQ below (kQi D cy zr A (wX5_isWhole cy aR qR aH aH vR_j11 z_vR)) ([.ref aR, .int x1, .int x2] : List Value).toArray s 0 0 A = Q
  have J43 : ∀ (t0_43 : Int32) (vR_43 : Nat → Int32), ∀ (H : Heap) (locs : List Loc) (ls : Array Slot), va_P D vwCl (wX5_isWhole cy aR qR aH aH vR_j11 vR_43) H → va_D A (wX5_isWhole cy aR qR aH aH vR_j11 vR_43) → va_S A s.heap H locs → lv_has ls 3 [] → fX5_isWhole_J43 t0_43 vR_43 = some (zr, z_vR) → W p l e ({ frames := 1, cells := 0, slots := 0, locals := 21 } : Room) s m ([.ref aR, .int x1, .int x2] : List Value).toArray below meth c H locs 0 0 Q (F0 m 43 ls [.int t0_43]) := by
    intro t0_43 vR_43 H locs ls hP hD hS hl hok
    unfold fX5_isWhole_J43 at hok
    obtain ⟨g43, hok⟩ := gd_some hok
    cases hok
    subst hQe; exact W.zret hx hb hr (isB_nar g43) (fun t ht hW => ⟨⟨_, (), rfl, rfl, by rw [ht]; exact hP, va_K.moved hW.alike hK, hD⟩, hS.F ht⟩) hS.2.2 dX5_isWhole_43
  have J38 : ∀ (vR_38 : Nat → Int32), ∀ (H : Heap) (locs : List Loc) (ls : Array Slot), va_P D vwCl (wX5_isWhole cy aR qR aH aH vR_j11 vR_38) H → va_D A (wX5_isWhole cy aR qR aH aH vR_j11 vR_38) → va_S A s.heap H locs → lv_has ls 3 [] → fX5_isWhole_J38 vR_38 = some (zr, z_vR) → W p l e ({ frames := 1, cells := 0, slots := 0, locals := 21 } : Room) s m ([.ref aR, .int x1, .int x2] : List Value).toArray below meth c H locs 0 0 Q (F0 m 38 ls []) := by
    intro vR_38 H locs ls hP hD hS hl hok
    unfold fX5_isWhole_J38 at hok
    refine lv_iconst (v := 1) hx hb dX5_isWhole_38 (by decide) ?_
    refine lv_goto (tgt := 43) hx hb dX5_isWhole_39 (by decide) ?_
    exact J43 (1 : Int32) vR_38 H locs ls hP hD hS (lv_sub hl [] rfl) hok
  have J30 : ∀ (H : Heap) (locs : List Loc) (ls : Array Slot), va_P D vwCl (wX5_isWhole cy aR qR aH aH vR_j11 vR) H → va_D A (wX5_isWhole cy aR qR aH aH vR_j11 vR) → va_S A s.heap H locs → lv_has ls 3 [(0, .ref aR)] → fX5_isWhole_J30 vR_j11 vR = some (zr, z_vR) → W p l e ({ frames := 1, cells := 0, slots := 0, locals := 21 } : Room) s m ([.ref aR, .int x1, .int x2] : List Value).toArray below meth c H locs 0 0 Q (F0 m 30 ls []) := by
    intro  H locs ls hP hD hS hl hok
    unfold fX5_isWhole_J30 at hok
    refine lv_aload_n hx hb dX5_isWhole_30 rfl (lv_at hl 0 rfl) ?_
    refine lv_iconst (v := 4) hx hb dX5_isWhole_31 (by decide) ?_
    obtain ⟨⟨r32, vR_32⟩, hc32, hok⟩ := k_bind hok
    try dsimp only at hok
    refine kCi (wc := (wX5_fails cy aR qR aH aH vR_j11 vR)) (wc2 := (wX5_fails cy aR qR aH aH vR_j11 vR_32)) (wr := []) (ws2 := (wX5_isWhole cy aR qR aH aH vR_j11 vR_32)) (kRunV (As := [.int 4]) (rest := []) ⟨hx, hb, hml, hown, ht0⟩ (kX5_fails l D cy _ aR qR aH vR_j11 vR (4 : Int32) r32 vR_32 hc32 _ rfl) (cwV 1 ht0 (gV wd332 wd333 wd334 wd276 wd335) rfl rfl rfl (by decide +kernel) ⟨Nat.le_of_ble_eq_true rfl, Nat.le_of_ble_eq_true rfl⟩) hK hN hP hD [0] rfl (by decide) 0 4 rfl rfl rfl hl.1 rfl (Nat.le_of_ble_eq_true rfl) dX5_isWhole_32 ⟨Nat.zero_le _, Nat.zero_le _⟩) hP hD hS hA [0] [] rfl rfl (by decide) (by decide) [0] (by decide) rfl rfl (fun H locs hP hD hS => ?_)
    refine lv_if_eq (tgt := 42) hx hb dX5_isWhole_35 (by decide) (fun c35 => ?_) (fun c35 => ?_)
    · have hok := k_pos c35 hok
      refine lv_iconst (v := 0) hx hb dX5_isWhole_42 (by decide) ?_
      exact J43 (0 : Int32) vR_32 H locs ls hP hD hS (lv_sub hl [] rfl) hok
    · have hok := k_neg c35 hok
      exact J38 vR_32 H locs ls hP hD hS (lv_sub hl [] rfl) hok
  unfold fX5_isWhole at hok
  obtain ⟨H, hH⟩ : ∃ H, H = s.heap := ⟨_, rfl⟩
  obtain ⟨locs, hlc⟩ : ∃ x : List Loc, x = [] := ⟨_, rfl⟩
  have hP : va_P D vwCl (wX5_isWhole cy aR qR aH aH vR_j11 vR) H := by rw [hH]; exact hP
  have hS : va_S A s.heap H locs := by rw [hH, hlc]; exact hS
  rw [show W p l e _ s m _ below meth c s.heap [] = W p l e _ s m _ below meth c H locs from by rw [hH, hlc]]
  refine lv_aload_n hx hb dX5_isWhole_0 rfl (lv_at hl 0 rfl) ?_
  refine va_get (D := D) (ci := 4) (v := .int (vR 7)) (C := RX5) (T := TX5) (N := 13) hx hb ht0 niX5 hown hK hP 0 rfl rfl 7 (by decide) (ht0 _ wd269) (fun _ h9 => h9) rfl dX5_isWhole_1 ?_
  refine lv_iconst (v := 2) hx hb dX5_isWhole_4 (by decide) ?_
  refine lv_icmp_eq (tgt := 14) hx hb dX5_isWhole_5 (by decide) (fun c5 => ?_) (fun c5 => ?_)
  · have hok := k_pos c5 hok
    refine lv_aload_n hx hb dX5_isWhole_14 rfl (lv_at hl 0 rfl) ?_
    refine va_get (D := D) (ci := 4) (v := .int (vR 10)) (C := RX5) (T := TX5) (N := 13) hx hb ht0 niX5 hown hK hP 0 rfl rfl 10 (by decide) (ht0 _ wd272) (fun _ h9 => h9) rfl dX5_isWhole_15 ?_
    refine lv_iload_n hx hb dX5_isWhole_18 rfl (lv_at hl 1 rfl) ?_
    refine lv_icmp_lt (tgt := 30) hx hb dX5_isWhole_19 (by decide) (fun c19 => ?_) (fun c19 => ?_)
    · have hok := k_pos c19 hok
      exact J30  H locs ls hP hD hS (lv_sub hl [0] rfl) hok
    · have hok := k_neg c19 hok
      refine lv_aload_n hx hb dX5_isWhole_22 rfl (lv_at hl 0 rfl) ?_
      refine va_get (D := D) (ci := 4) (v := .int (vR 10)) (C := RX5) (T := TX5) (N := 13) hx hb ht0 niX5 hown hK hP 0 rfl rfl 10 (by decide) (ht0 _ wd272) (fun _ h9 => h9) rfl dX5_isWhole_23 ?_
      refine lv_iload_n hx hb dX5_isWhole_26 rfl (lv_at hl 2 rfl) ?_
      refine lv_icmp_le (tgt := 38) hx hb dX5_isWhole_27 (by decide) (fun c27 => ?_) (fun c27 => ?_)
      · have hok := k_pos c27 hok
        exact J38 vR H locs ls hP hD hS (lv_sub hl [] rfl) hok
      · have hok := k_neg c27 hok
        exact J30  H locs ls hP hD hS (lv_sub hl [0] rfl) hok
  · have hok := k_neg c5 hok
    refine lv_aload_n hx hb dX5_isWhole_8 rfl (lv_at hl 0 rfl) ?_
    refine lv_iconst (v := 1) hx hb dX5_isWhole_9 (by decide) ?_
    obtain ⟨⟨r10, vR_10⟩, hc10, hok⟩ := k_bind hok
    try dsimp only at hok
    refine kCi (wc := (wX5_fails cy aR qR aH aH vR_j11 vR)) (wc2 := (wX5_fails cy aR qR aH aH vR_j11 vR_10)) (wr := []) (ws2 := (wX5_isWhole cy aR qR aH aH vR_j11 vR_10)) (kRunV (As := [.int 1]) (rest := []) ⟨hx, hb, hml, hown, ht0⟩ (kX5_fails l D cy _ aR qR aH vR_j11 vR (1 : Int32) r10 vR_10 hc10 _ rfl) (cwV 1 ht0 (gV wd332 wd333 wd334 wd276 wd335) rfl rfl rfl (by decide +kernel) ⟨Nat.le_of_ble_eq_true rfl, Nat.le_of_ble_eq_true rfl⟩) hK hN hP hD [0] rfl (by decide) 0 4 rfl rfl rfl hl.1 rfl (Nat.le_of_ble_eq_true rfl) dX5_isWhole_10 ⟨Nat.zero_le _, Nat.zero_le _⟩) hP hD hS hA [0] [] rfl rfl (by decide) (by decide) [0] (by decide) rfl rfl (fun H locs hP hD hS => ?_)
    obtain ⟨g13, hok⟩ := gd_some hok
    cases hok
    subst hQe; exact W.zret hx hb hr (isB_nar g13) (fun t ht hW => ⟨⟨_, (), rfl, rfl, by rw [ht]; exact hP, va_K.moved hW.alike hK, hD⟩, hS.F ht⟩) hS.2.2 dX5_isWhole_13
def wsX5_takeWhole : List Cond := .code yX5_takeWhole cX5_takeWhole 4 (some .int) :: W0
abbrev wX5_takeWhole (cy : Nat → ClassId) (aR : Nat) (qR : Nat → Nat) (aH : Nat) (fvR_2 : Nat) (vR_j11 : Int64) (vR : Nat → Int32) (vR_tape : Nat → Int32) : va_W := [(aR, oX5 vR qR vR_j11 fvR_2), (qR 0, rB cy 900 vR_tape)]
set_option maxHeartbeats 4000000 in
set_option maxRecDepth 100000 in
theorem kX5_takeWhole (l : Launch) (D : va_G) (cy : Nat → ClassId) (sz : Nat) (aR : Nat) (qR : Nat → Nat) (aH : Nat) (vR_j11 : Int64) (vR : Nat → Int32) (vR_tape : Nat → Int32) (x1 : Int32) (x2 : Int32) (zr : Int32) (z_vR_j11 : Int64) (z_vR : Nat → Int32) (hok : fX5_takeWhole vR_j11 vR vR_tape x1 x2 = some (zr, z_vR_j11, z_vR)) (A : Nat → Prop) (hAe : va_A (wX5_takeWhole cy aR qR aH aH vR_j11 vR vR_tape) sz = A) : Met l yX5_takeWhole wsX5_takeWhole ({ frames := 2, cells := 0, slots := 0, locals := 43 } : Room) (kPre D cy [.ref aR, .int x1, .int x2] (wX5_takeWhole cy aR qR aH aH vR_j11 vR vR_tape) sz) (kQi D cy zr A (wX5_takeWhole cy aR qR aH aH z_vR_j11 z_vR vR_tape)) 0 0 A := by
  refine Met.ofW (cc := cX5_takeWhole) (maxL := 4) (ret := (some .int)) (by decide) rfl ?_
  intro p e s m args below meth c s₁ B hml hv
  obtain ⟨rfl, hsz, hP, hK, hD0, hN⟩ := hv
  have hx := B.exec
  have hb := B.bytes
  have hr := B.returns
  have ht0 : ∀ w ∈ W0, w.before _ s = true := fun w h => atoms_spec (ws := wsX5_takeWhole) B.pre w (List.mem_cons_of_mem _ h)
  have hown : s.vm.findClass RX5 = some m.cls := findClass_of_methodNamed B.named
  have hlocks := B.notSynchronized
  subst hsz
  have hD : va_D A (wX5_takeWhole cy aR qR aH aH vR_j11 vR vR_tape) := by rw [← hAe]; exact hD0.self
  have hA : ∀ q : Nat, s.heap.size ≤ q → A q := fun q h => by rw [← hAe]; exact Or.inr h
  have hS : va_S A s.heap s.heap [] := va_S.rf
  have hl := lv_entry ([.ref aR, .int x1, .int x2]) (n := 4) (Nat.le_of_ble_eq_true rfl)
  rw [lg_entry_eq]
  generalize (lg_sl ([.ref aR, .int x1, .int x2]) ++ List.replicate (4 - (lg_sl ([.ref aR, .int x1, .int x2])).length) Slot.unset).toArray = ls at hl ⊢
  have hl : lv_has ls 4 [(0, .ref aR), (1, .int x1), (2, .int x2)] := hl
  unfold fX5_takeWhole at hok
  obtain ⟨H, hH⟩ : ∃ H, H = s.heap := ⟨_, rfl⟩
  obtain ⟨locs, hlc⟩ : ∃ x : List Loc, x = [] := ⟨_, rfl⟩
  have hP : va_P D vwCl (wX5_takeWhole cy aR qR aH aH vR_j11 vR vR_tape) H := by rw [hH]; exact hP
  have hS : va_S A s.heap H locs := by rw [hH, hlc]; exact hS
  rw [show W p l e _ s m _ below meth c s.heap [] = W p l e _ s m _ below meth c H locs from by rw [hH, hlc]]
  refine lv_aload_n hx hb dX5_takeWhole_0 rfl (lv_at hl 0 rfl) ?_
  refine lv_iload_n hx hb dX5_takeWhole_1 rfl (lv_at hl 1 rfl) ?_
  refine lv_iload_n hx hb dX5_takeWhole_2 rfl (lv_at hl 2 rfl) ?_
  obtain ⟨⟨r3, vR_3⟩, hc3, hok⟩ := k_bind hok
  try dsimp only at hok
  refine kCi (wc := (wX5_isWhole cy aR qR aH aH vR_j11 vR)) (wc2 := (wX5_isWhole cy aR qR aH aH vR_j11 vR_3)) (wr := [(qR 0, rB cy 900 vR_tape)]) (ws2 := (wX5_takeWhole cy aR qR aH aH vR_j11 vR_3 vR_tape)) (kRunV (As := [.int x1, .int x2]) (rest := []) ⟨hx, hb, hml, hown, ht0⟩ (kX5_isWhole l D cy _ aR qR aH vR_j11 vR x1 x2 r3 vR_3 hc3 _ rfl) (cwV 2 ht0 (gV wd336 wd337 wd338 wd276 wd339) rfl rfl rfl (by decide +kernel) ⟨Nat.le_of_ble_eq_true rfl, Nat.le_of_ble_eq_true rfl⟩) hK hN hP hD [0] rfl (by decide) 0 4 rfl rfl rfl hl.1 rfl (Nat.le_of_ble_eq_true rfl) dX5_takeWhole_3 ⟨Nat.zero_le _, Nat.zero_le _⟩) hP hD hS hA [0] [1] rfl rfl (by decide) (by decide) [1, 0] (by decide) rfl rfl (fun H locs hP hD hS => ?_)
  refine lv_if_ne (tgt := 11) hx hb dX5_takeWhole_6 (by decide) (fun c6 => ?_) (fun c6 => ?_)
  · have hok := k_neg c6 hok
    refine lv_aload_n hx hb dX5_takeWhole_11 rfl (lv_at hl 0 rfl) ?_
    refine va_get (D := D) (ci := 4) (v := .int (vR_3 10)) (C := RX5) (T := TX5) (N := 13) hx hb ht0 niX5 hown hK hP 0 rfl rfl 10 (by decide) (ht0 _ wd272) (fun _ h9 => h9) rfl dX5_takeWhole_12 ?_
    refine lv_istore_n (lv' := [(3, .int (vR_3 10)), (0, .ref aR), (1, .int x1), (2, .int x2)]) hx hb dX5_takeWhole_15 rfl hl (by decide) rfl (fun ls hl => ?_)
    refine lv_aload_n hx hb dX5_takeWhole_16 rfl (lv_at hl 1 rfl) ?_
    obtain ⟨⟨vR_j11_17, vR_17⟩, hc17, hok⟩ := k_bind hok
    try dsimp only at hok
    refine kCv (wc := (wX5_step cy aR qR aH aH vR_j11 vR_3 vR_tape)) (wc2 := (wX5_step cy aR qR aH aH vR_j11_17 vR_17 vR_tape)) (wr := []) (ws2 := (wX5_takeWhole cy aR qR aH aH vR_j11_17 vR_17 vR_tape)) (kRunV (As := []) (rest := []) ⟨hx, hb, hml, hown, ht0⟩ (kX5_step l D cy _ aR qR aH vR_j11 vR_3 vR_tape vR_j11_17 vR_17 hc17 _ rfl) (cwV 0 ht0 (gV wd328 wd329 wd330 wd276 wd331) rfl rfl rfl (by decide +kernel) ⟨Nat.le_of_ble_eq_true rfl, Nat.le_of_ble_eq_true rfl⟩) hK hN hP hD [0, 1] rfl (by decide) 0 4 rfl rfl rfl hl.1 rfl (Nat.le_of_ble_eq_true rfl) dX5_takeWhole_17 ⟨Nat.zero_le _, Nat.zero_le _⟩) hP hD hS hA [0, 1] [] rfl rfl (by decide) (by decide) [0, 1] (by decide) rfl rfl (fun H locs hP hD hS => ?_)
    refine lv_iload_n hx hb dX5_takeWhole_20 rfl (lv_at hl 0 rfl) ?_
    cases hok
    exact W.iret hx hb hr (fun t ht hW => ⟨⟨_, (), rfl, rfl, by rw [ht]; exact hP, va_K.moved hW.alike hK, hD⟩, hS.F ht⟩) hS.2.2 dX5_takeWhole_21
  · have hok := k_pos c6 hok
    refine lv_iconst (v := -1) hx hb dX5_takeWhole_9 (by decide) ?_
    cases hok
    exact W.iret hx hb hr (fun t ht hW => ⟨⟨_, (), rfl, rfl, by rw [ht]; exact hP, va_K.moved hW.alike hK, hD⟩, hS.F ht⟩) hS.2.2 dX5_takeWhole_10
def wsX5_readHouse : List Cond := .code yX5_readHouse cX5_readHouse 3 (some .boolean) :: W0
abbrev wX5_readHouse (cy : Nat → ClassId) (aR : Nat) (qR : Nat → Nat) (aH : Nat) (qH : Nat → Nat) (fvR_2 : Nat) (vR_j11 : Int64) (vR : Nat → Int32) (vR_tape : Nat → Int32) (vH : Nat → Int32) : va_W := [(aR, oX5 vR qR vR_j11 fvR_2), (qR 0, rB cy 900 vR_tape), (aH, oX4 vH qH)]
set_option maxHeartbeats 4000000 in
set_option maxRecDepth 100000 in
theorem kX5_readHouse (l : Launch) (D : va_G) (cy : Nat → ClassId) (ad : (Nat → Nat) × (Nat → Nat)) (sz : Nat) (aR : Nat) (qR : Nat → Nat) (aH : Nat) (qH : Nat → Nat) (vR_j11 : Int64) (vR : Nat → Int32) (vR_tape : Nat → Int32) (vH : Nat → Int32) (zr : Int32) (z_vR_j11 : Int64) (z_vR : Nat → Int32) (z_vH : Nat → Int32) (hok : fX5_readHouse vR_j11 vR vR_tape vH = some (zr, z_vR_j11, z_vR, z_vH)) (A : Nat → Prop) (hAe : va_A (wX5_readHouse cy aR qR aH qH aH vR_j11 vR vR_tape vH) sz = A) : Met l yX5_readHouse wsX5_readHouse ({ frames := 6, cells := 0, slots := 0, locals := 129 } : Room) (kPreS D cy ad [.ref aR] (wX5_readHouse cy aR qR aH qH aH vR_j11 vR vR_tape vH) sz A) (kQi D cy zr A (wX5_readHouse cy aR qR aH qH aH z_vR_j11 z_vR vR_tape z_vH)) 0 0 A := by
  refine Met.ofW (cc := cX5_readHouse) (maxL := 3) (ret := (some .boolean)) (by decide) rfl ?_
  intro p e s m args below meth c s₁ B hml hv
  obtain ⟨rfl, ⟨hsz, hP, hK, hD0, hN⟩, hSt⟩ := hv
  have hx := B.exec
  have hb := B.bytes
  have hr := B.returns
  have ht0 : ∀ w ∈ W0, w.before _ s = true := fun w h => atoms_spec (ws := wsX5_readHouse) B.pre w (List.mem_cons_of_mem _ h)
  have hown : s.vm.findClass RX5 = some m.cls := findClass_of_methodNamed B.named
  have hlocks := B.notSynchronized
  subst hsz
  have hD : va_D A (wX5_readHouse cy aR qR aH qH aH vR_j11 vR vR_tape vH) := by rw [← hAe]; exact hD0.self
  have hA : ∀ q : Nat, s.heap.size ≤ q → A q := fun q h => by rw [← hAe]; exact Or.inr h
  have hS : va_S A s.heap s.heap [] := va_S.rf
  have hl := lv_entry ([.ref aR]) (n := 3) (Nat.le_of_ble_eq_true rfl)
  rw [lg_entry_eq]
  generalize (lg_sl ([.ref aR]) ++ List.replicate (3 - (lg_sl ([.ref aR])).length) Slot.unset).toArray = ls at hl ⊢
  have hl : lv_has ls 3 [(0, .ref aR)] := hl
  generalize hQe : MQ below (kQi D cy zr A (wX5_readHouse cy aR qR aH qH aH z_vR_j11 z_vR vR_tape z_vH)) ([.ref aR] : List Value).toArray s 0 0 A = Q
  have J48 : ∀ (vR_11_48 : Int64) (vR_48 : Nat → Int32), ∀ (H : Heap) (locs : List Loc) (ls : Array Slot), va_P D vwCl (wX5_readHouse cy aR qR aH qH aH vR_11_48 vR_48 vR_tape vH) H → va_D A (wX5_readHouse cy aR qR aH qH aH vR_11_48 vR_48 vR_tape vH) → va_S A s.heap H locs → lv_has ls 3 [] → fX5_readHouse_J48 vH vR_11_48 vR_48 = some (zr, z_vR_j11, z_vR, z_vH) → W p l e ({ frames := 6, cells := 0, slots := 0, locals := 129 } : Room) s m ([.ref aR] : List Value).toArray below meth c H locs 0 0 Q (F0 m 48 ls []) := by
    intro vR_11_48 vR_48 H locs ls hP hD hS hl hok
    unfold fX5_readHouse_J48 at hok
    refine lv_iconst (v := 0) hx hb dX5_readHouse_48 (by decide) ?_
    cases hok
    subst hQe; exact W.zret hx hb hr rfl (fun t ht hW => ⟨⟨_, (), rfl, rfl, by rw [ht]; exact hP, va_K.moved hW.alike hK, hD⟩, hS.F ht⟩) hS.2.2 dX5_readHouse_49
  unfold fX5_readHouse at hok
  obtain ⟨H, hH⟩ : ∃ H, H = s.heap := ⟨_, rfl⟩
  obtain ⟨locs, hlc⟩ : ∃ x : List Loc, x = [] := ⟨_, rfl⟩
  have hP : va_P D vwCl (wX5_readHouse cy aR qR aH qH aH vR_j11 vR vR_tape vH) H := by rw [hH]; exact hP
  have hS : va_S A s.heap H locs := by rw [hH, hlc]; exact hS
  rw [show W p l e _ s m _ below meth c s.heap [] = W p l e _ s m _ below meth c H locs from by rw [hH, hlc]]
  refine lv_aload_n hx hb dX5_readHouse_0 rfl (lv_at hl 0 rfl) ?_
  refine va_get (D := D) (ci := 4) (v := .int (vR 5)) (C := RX5) (T := TX5) (N := 13) hx hb ht0 niX5 hown hK hP 0 rfl rfl 5 (by decide) (ht0 _ wd340) (fun _ h9 => h9) rfl dX5_readHouse_1 ?_
  refine lv_if_eq (tgt := 13) hx hb dX5_readHouse_4 (by decide) (fun c4 => ?_) (fun c4 => ?_)
  · have hok := k_pos c4 hok
    refine lv_aload_n hx hb dX5_readHouse_13 rfl (lv_at hl 0 rfl) ?_
    obtain ⟨⟨vR_j11_14, vR_14⟩, hc14, hok⟩ := k_bind hok
    try dsimp only at hok
    refine kCv (wc := (wX5_step cy aR qR aH aH vR_j11 vR vR_tape)) (wc2 := (wX5_step cy aR qR aH aH vR_j11_14 vR_14 vR_tape)) (wr := [(aH, oX4 vH qH)]) (ws2 := (wX5_readHouse cy aR qR aH qH aH vR_j11_14 vR_14 vR_tape vH)) (kRunV (As := []) (rest := []) ⟨hx, hb, hml, hown, ht0⟩ (kX5_step l D cy _ aR qR aH vR_j11 vR vR_tape vR_j11_14 vR_14 hc14 _ rfl) (cwV 0 ht0 (gV wd328 wd329 wd330 wd276 wd331) rfl rfl rfl (by decide +kernel) ⟨Nat.le_of_ble_eq_true rfl, Nat.le_of_ble_eq_true rfl⟩) hK hN hP hD [0, 1] rfl (by decide) 0 4 rfl rfl rfl hl.1 rfl (Nat.le_of_ble_eq_true rfl) dX5_readHouse_14 ⟨Nat.zero_le _, Nat.zero_le _⟩) hP hD hS hA [0, 1] [2] rfl rfl (by decide) (by decide) [1, 2, 0] (by decide) rfl rfl (fun H locs hP hD hS => ?_)
    refine lv_aload_n hx hb dX5_readHouse_17 rfl (lv_at hl 0 rfl) ?_
    refine va_ldcS (own := RX5) (tx := "cellar") (index := 138) (q := ad.1 4) hx hb hown (hSt.2.1 (RX5, 138, "cellar", 4) (List.mem_of_getElem? (i := 9) rfl)) dX5_readHouse_18 ?_
    obtain ⟨⟨r20, vR_j11_20, vR_20⟩, hc20, hok⟩ := k_bind hok
    try dsimp only at hok
    refine kCi (wc := (wX5_passes cy aR qR aH aH vR_j11_14 vR_14 vR_tape)) (wc2 := (wX5_passes cy aR qR aH aH vR_j11_20 vR_20 vR_tape)) (wr := [(aH, oX4 vH qH)]) (ws2 := (wX5_readHouse cy aR qR aH qH aH vR_j11_20 vR_20 vR_tape vH)) (kRunVS (As := [.ref (ad.1 4)]) (rest := []) ⟨hx, hb, hml, hown, ht0⟩ (kX5_passes l D cy ad _ aR qR aH vR_j11_14 vR_14 vR_tape 4 r20 vR_j11_20 vR_20 hc20 _ rfl) (cwV 1 ht0 (gV wd341 wd342 wd343 wd276 wd344) rfl rfl rfl (by decide +kernel) ⟨Nat.le_of_ble_eq_true rfl, Nat.le_of_ble_eq_true rfl⟩) hK hN hP hD hSt hS hA [0, 1] rfl (by decide) 0 4 rfl rfl rfl hl.1 rfl (Nat.le_of_ble_eq_true rfl) dX5_readHouse_20 ⟨Nat.zero_le _, Nat.zero_le _⟩) hP hD hS hA [0, 1] [2] rfl rfl (by decide) (by decide) [1, 2, 0] (by decide) rfl rfl (fun H locs hP hD hS => ?_)
    refine lv_if_ne (tgt := 28) hx hb dX5_readHouse_23 (by decide) (fun c23 => ?_) (fun c23 => ?_)
    · have hok := k_neg c23 hok
      refine lv_aload_n hx hb dX5_readHouse_28 rfl (lv_at hl 0 rfl) ?_
      refine lv_iconst (v := 1) hx hb dX5_readHouse_29 (by decide) ?_
      refine lv_iconst (v := 5) hx hb dX5_readHouse_30 (by decide) ?_
      obtain ⟨⟨r31, vR_j11_31, vR_31⟩, hc31, hok⟩ := k_bind hok
      try dsimp only at hok
      refine kCi (wc := (wX5_takeWhole cy aR qR aH aH vR_j11_20 vR_20 vR_tape)) (wc2 := (wX5_takeWhole cy aR qR aH aH vR_j11_31 vR_31 vR_tape)) (wr := [(aH, oX4 vH qH)]) (ws2 := (wX5_readHouse cy aR qR aH qH aH vR_j11_31 vR_31 vR_tape vH)) (kRunV (As := [.int 1, .int 5]) (rest := []) ⟨hx, hb, hml, hown, ht0⟩ (kX5_takeWhole l D cy _ aR qR aH vR_j11_20 vR_20 vR_tape (1 : Int32) (5 : Int32) r31 vR_j11_31 vR_31 hc31 _ rfl) (cwV 2 ht0 (gV wd345 wd346 wd347 wd276 wd348) rfl rfl rfl (by decide +kernel) ⟨Nat.le_of_ble_eq_true rfl, Nat.le_of_ble_eq_true rfl⟩) hK hN hP hD [0, 1] rfl (by decide) 0 4 rfl rfl rfl hl.1 rfl (Nat.le_of_ble_eq_true rfl) dX5_readHouse_31 ⟨Nat.zero_le _, Nat.zero_le _⟩) hP hD hS hA [0, 1] [2] rfl rfl (by decide) (by decide) [1, 2, 0] (by decide) rfl rfl (fun H locs hP hD hS => ?_)
      refine lv_istore_n (lv' := [(1, .int r31), (0, .ref aR)]) hx hb dX5_readHouse_34 rfl hl (by decide) rfl (fun ls hl => ?_)
      refine lv_iload_n hx hb dX5_readHouse_35 rfl (lv_at hl 0 rfl) ?_
      refine lv_if_lt (tgt := 48) hx hb dX5_readHouse_36 (by decide) (fun c36 => ?_) (fun c36 => ?_)
      · have hok := k_pos c36 hok
        exact J48 vR_j11_31 vR_31 H locs ls hP hD hS (lv_sub hl [] rfl) hok
      · have hok := k_neg c36 hok
        refine lv_aload_n hx hb dX5_readHouse_39 rfl (lv_at hl 1 rfl) ?_
        refine va_ldcS (own := RX5) (tx := "damp") (index := 197) (q := ad.1 5) hx hb hown (hSt.2.1 (RX5, 197, "damp", 5) (List.mem_of_getElem? (i := 14) rfl)) dX5_readHouse_40 ?_
        obtain ⟨⟨r42, vR_j11_42, vR_42⟩, hc42, hok⟩ := k_bind hok
        try dsimp only at hok
        refine kCi (wc := (wX5_passes cy aR qR aH aH vR_j11_31 vR_31 vR_tape)) (wc2 := (wX5_passes cy aR qR aH aH vR_j11_42 vR_42 vR_tape)) (wr := [(aH, oX4 vH qH)]) (ws2 := (wX5_readHouse cy aR qR aH qH aH vR_j11_42 vR_42 vR_tape vH)) (kRunVS (As := [.ref (ad.1 5)]) (rest := []) ⟨hx, hb, hml, hown, ht0⟩ (kX5_passes l D cy ad _ aR qR aH vR_j11_31 vR_31 vR_tape 5 r42 vR_j11_42 vR_42 hc42 _ rfl) (cwV 1 ht0 (gV wd341 wd342 wd343 wd276 wd344) rfl rfl rfl (by decide +kernel) ⟨Nat.le_of_ble_eq_true rfl, Nat.le_of_ble_eq_true rfl⟩) hK hN hP hD hSt hS hA [0, 1] rfl (by decide) 0 4 rfl rfl rfl hl.1 rfl (Nat.le_of_ble_eq_true rfl) dX5_readHouse_42 ⟨Nat.zero_le _, Nat.zero_le _⟩) hP hD hS hA [0, 1] [2] rfl rfl (by decide) (by decide) [1, 2, 0] (by decide) rfl rfl (fun H locs hP hD hS => ?_)
        refine lv_if_ne (tgt := 50) hx hb dX5_readHouse_45 (by decide) (fun c45 => ?_) (fun c45 => ?_)
        · have hok := k_neg c45 hok
          refine lv_aload_n hx hb dX5_readHouse_50 rfl (lv_at hl 1 rfl) ?_
          refine lv_iconst (v := 0) hx hb dX5_readHouse_51 (by decide) ?_
          refine lv_bipush (v := 100) hx hb dX5_readHouse_52 (by decide) ?_
          obtain ⟨⟨r54, vR_j11_54, vR_54⟩, hc54, hok⟩ := k_bind hok
          try dsimp only at hok
          refine kCi (wc := (wX5_takeWhole cy aR qR aH aH vR_j11_42 vR_42 vR_tape)) (wc2 := (wX5_takeWhole cy aR qR aH aH vR_j11_54 vR_54 vR_tape)) (wr := [(aH, oX4 vH qH)]) (ws2 := (wX5_readHouse cy aR qR aH qH aH vR_j11_54 vR_54 vR_tape vH)) (kRunV (As := [.int 0, .int 100]) (rest := []) ⟨hx, hb, hml, hown, ht0⟩ (kX5_takeWhole l D cy _ aR qR aH vR_j11_42 vR_42 vR_tape (0 : Int32) (100 : Int32) r54 vR_j11_54 vR_54 hc54 _ rfl) (cwV 2 ht0 (gV wd345 wd346 wd347 wd276 wd348) rfl rfl rfl (by decide +kernel) ⟨Nat.le_of_ble_eq_true rfl, Nat.le_of_ble_eq_true rfl⟩) hK hN hP hD [0, 1] rfl (by decide) 0 4 rfl rfl rfl hl.1 rfl (Nat.le_of_ble_eq_true rfl) dX5_readHouse_54 ⟨Nat.zero_le _, Nat.zero_le _⟩) hP hD hS hA [0, 1] [2] rfl rfl (by decide) (by decide) [1, 2, 0] (by decide) rfl rfl (fun H locs hP hD hS => ?_)
          refine lv_istore_n (lv' := [(2, .int r54), (1, .int r31), (0, .ref aR)]) hx hb dX5_readHouse_57 rfl hl (by decide) rfl (fun ls hl => ?_)
          refine lv_iload_n hx hb dX5_readHouse_58 rfl (lv_at hl 0 rfl) ?_
          refine lv_if_ge (tgt := 64) hx hb dX5_readHouse_59 (by decide) (fun c59 => ?_) (fun c59 => ?_)
          · have hok := k_pos c59 hok
            refine lv_aload_n hx hb dX5_readHouse_64 rfl (lv_at hl 2 rfl) ?_
            refine va_get (D := D) (ci := 4) (v := .ref aH) (C := RX5) (T := TX5) (N := 13) hx hb ht0 niX5 hown hK hP 0 rfl rfl 2 (by decide) (ht0 _ wd266) (fun _ h9 => h9) rfl dX5_readHouse_65 ?_
            refine lv_iload_n hx hb dX5_readHouse_68 rfl (lv_at hl 1 rfl) ?_
            refine va_put (D := D) (ci := 3) (v := .int r31) (ty := .int) (C := RX4) (T := TX4) (N := 20) hx hb ht0 niX4 tyX4 tyX4_ok nmX4 hown hK hP hD hS 2 rfl rfl 0 (by decide) (ht0 _ wd349) (fun _ h9 => h9) rfl (by decide +kernel) rfl rfl (Nat.le_of_ble_eq_true rfl) dX5_readHouse_69 (fun H locs hP hD hS => ?_)
            have hP : va_P D vwCl (wX5_readHouse cy aR qR aH qH aH vR_j11_54 vR_54 vR_tape (upd vH 0 r31)) H := hP
            have hD : va_D A (wX5_readHouse cy aR qR aH qH aH vR_j11_54 vR_54 vR_tape (upd vH 0 r31)) := hD
            refine lv_aload_n hx hb dX5_readHouse_72 rfl (lv_at hl 2 rfl) ?_
            refine va_get (D := D) (ci := 4) (v := .ref aH) (C := RX5) (T := TX5) (N := 13) hx hb ht0 niX5 hown hK hP 0 rfl rfl 2 (by decide) (ht0 _ wd266) (fun _ h9 => h9) rfl dX5_readHouse_73 ?_
            refine lv_iload_n hx hb dX5_readHouse_76 rfl (lv_at hl 0 rfl) ?_
            refine va_put (D := D) (ci := 3) (v := .int r54) (ty := .int) (C := RX4) (T := TX4) (N := 20) hx hb ht0 niX4 tyX4 tyX4_ok nmX4 hown hK hP hD hS 2 rfl rfl 1 (by decide) (ht0 _ wd350) (fun _ h9 => h9) rfl (by decide +kernel) rfl rfl (Nat.le_of_ble_eq_true rfl) dX5_readHouse_77 (fun H locs hP hD hS => ?_)
            have hP : va_P D vwCl (wX5_readHouse cy aR qR aH qH aH vR_j11_54 vR_54 vR_tape (upd (upd vH 0 r31) 1 r54)) H := hP
            have hD : va_D A (wX5_readHouse cy aR qR aH qH aH vR_j11_54 vR_54 vR_tape (upd (upd vH 0 r31) 1 r54)) := hD
            refine lv_aload_n hx hb dX5_readHouse_80 rfl (lv_at hl 2 rfl) ?_
            refine lv_iconst (v := 1) hx hb dX5_readHouse_81 (by decide) ?_
            refine va_put (D := D) (ci := 4) (v := .int 1) (ty := .boolean) (C := RX5) (T := TX5) (N := 13) hx hb ht0 niX5 tyX5 tyX5_ok nmX5 hown hK hP hD hS 0 rfl rfl 5 (by decide) (ht0 _ wd340) (fun _ h9 => h9) rfl (by decide +kernel) rfl rfl (Nat.le_of_ble_eq_true rfl) dX5_readHouse_82 (fun H locs hP hD hS => ?_)
            have hP : va_P D vwCl (wX5_readHouse cy aR qR aH qH aH vR_j11_54 (upd vR_54 5 (1 : Int32)) vR_tape (upd (upd vH 0 r31) 1 r54)) H := hP
            have hD : va_D A (wX5_readHouse cy aR qR aH qH aH vR_j11_54 (upd vR_54 5 (1 : Int32)) vR_tape (upd (upd vH 0 r31) 1 r54)) := hD
            refine lv_iconst (v := 1) hx hb dX5_readHouse_85 (by decide) ?_
            cases hok
            subst hQe; exact W.zret hx hb hr rfl (fun t ht hW => ⟨⟨_, (), rfl, rfl, by rw [ht]; exact hP, va_K.moved hW.alike hK, hD⟩, hS.F ht⟩) hS.2.2 dX5_readHouse_86
          · have hok := k_neg c59 hok
            refine lv_iconst (v := 0) hx hb dX5_readHouse_62 (by decide) ?_
            cases hok
            subst hQe; exact W.zret hx hb hr rfl (fun t ht hW => ⟨⟨_, (), rfl, rfl, by rw [ht]; exact hP, va_K.moved hW.alike hK, hD⟩, hS.F ht⟩) hS.2.2 dX5_readHouse_63
        · have hok := k_pos c45 hok
          exact J48 vR_j11_42 vR_42 H locs ls hP hD hS (lv_sub hl [] rfl) hok
    · have hok := k_pos c23 hok
      refine lv_iconst (v := 0) hx hb dX5_readHouse_26 (by decide) ?_
      cases hok
      subst hQe; exact W.zret hx hb hr rfl (fun t ht hW => ⟨⟨_, (), rfl, rfl, by rw [ht]; exact hP, va_K.moved hW.alike hK, hD⟩, hS.F ht⟩) hS.2.2 dX5_readHouse_27
  · have hok := k_neg c4 hok
    refine lv_aload_n hx hb dX5_readHouse_7 rfl (lv_at hl 0 rfl) ?_
    refine lv_iconst (v := 3) hx hb dX5_readHouse_8 (by decide) ?_
    obtain ⟨⟨r9, vR_9⟩, hc9, hok⟩ := k_bind hok
    try dsimp only at hok
    refine kCi (wc := (wX5_fails cy aR qR aH aH vR_j11 vR)) (wc2 := (wX5_fails cy aR qR aH aH vR_j11 vR_9)) (wr := [(qR 0, rB cy 900 vR_tape), (aH, oX4 vH qH)]) (ws2 := (wX5_readHouse cy aR qR aH qH aH vR_j11 vR_9 vR_tape vH)) (kRunV (As := [.int 3]) (rest := []) ⟨hx, hb, hml, hown, ht0⟩ (kX5_fails l D cy _ aR qR aH vR_j11 vR (3 : Int32) r9 vR_9 hc9 _ rfl) (cwV 1 ht0 (gV wd332 wd333 wd334 wd276 wd335) rfl rfl rfl (by decide +kernel) ⟨Nat.le_of_ble_eq_true rfl, Nat.le_of_ble_eq_true rfl⟩) hK hN hP hD [0] rfl (by decide) 0 4 rfl rfl rfl hl.1 rfl (Nat.le_of_ble_eq_true rfl) dX5_readHouse_9 ⟨Nat.zero_le _, Nat.zero_le _⟩) hP hD hS hA [0] [1, 2] rfl rfl (by decide) (by decide) [2, 0, 1] (by decide) rfl rfl (fun H locs hP hD hS => ?_)
    obtain ⟨g12, hok⟩ := gd_some hok
    cases hok
    subst hQe; exact W.zret hx hb hr (isB_nar g12) (fun t ht hW => ⟨⟨_, (), rfl, rfl, by rw [ht]; exact hP, va_K.moved hW.alike hK, hD⟩, hS.F ht⟩) hS.2.2 dX5_readHouse_12
def wsX5_isName : List Cond := .code yX5_isName cX5_isName 3 (some .boolean) :: W0
abbrev wX5_isName (cy : Nat → ClassId) (aR : Nat) (qR : Nat → Nat) (aH : Nat) (fvR_2 : Nat) (vR_j11 : Int64) (vR : Nat → Int32) (vR_tape : Nat → Int32) : va_W := [(aR, oX5 vR qR vR_j11 fvR_2), (qR 0, rB cy 900 vR_tape)]
set_option maxHeartbeats 4000000 in
set_option maxRecDepth 100000 in
theorem kX5_isName (l : Launch) (D : va_G) (cy : Nat → ClassId) (ad : (Nat → Nat) × (Nat → Nat)) (sz : Nat) (aR : Nat) (qR : Nat → Nat) (aH : Nat) (vR_j11 : Int64) (vR : Nat → Int32) (vR_tape : Nat → Int32) (zr : Int32) (hok : fX5_isName vR_j11 vR vR_tape = some zr) (A : Nat → Prop) (hAe : va_A (wX5_isName cy aR qR aH aH vR_j11 vR vR_tape) sz = A) : Met l yX5_isName wsX5_isName ({ frames := 5, cells := 0, slots := 0, locals := 108 } : Room) (kPreS D cy ad [.ref aR] (wX5_isName cy aR qR aH aH vR_j11 vR vR_tape) sz A) (kQi D cy zr A (wX5_isName cy aR qR aH aH vR_j11 vR vR_tape)) 0 0 A := by
  refine Met.ofW (cc := cX5_isName) (maxL := 3) (ret := (some .boolean)) (by decide) rfl ?_
  intro p e s m args below meth c s₁ B hml hv
  obtain ⟨rfl, ⟨hsz, hP, hK, hD0, hN⟩, hSt⟩ := hv
  have hx := B.exec
  have hb := B.bytes
  have hr := B.returns
  have ht0 : ∀ w ∈ W0, w.before _ s = true := fun w h => atoms_spec (ws := wsX5_isName) B.pre w (List.mem_cons_of_mem _ h)
  have hown : s.vm.findClass RX5 = some m.cls := findClass_of_methodNamed B.named
  have hlocks := B.notSynchronized
  subst hsz
  have hD : va_D A (wX5_isName cy aR qR aH aH vR_j11 vR vR_tape) := by rw [← hAe]; exact hD0.self
  have hA : ∀ q : Nat, s.heap.size ≤ q → A q := fun q h => by rw [← hAe]; exact Or.inr h
  have hS : va_S A s.heap s.heap [] := va_S.rf
  have hl := lv_entry ([.ref aR]) (n := 3) (Nat.le_of_ble_eq_true rfl)
  rw [lg_entry_eq]
  generalize (lg_sl ([.ref aR]) ++ List.replicate (3 - (lg_sl ([.ref aR])).length) Slot.unset).toArray = ls at hl ⊢
  have hl : lv_has ls 3 [(0, .ref aR)] := hl
  generalize hQe : MQ below (kQi D cy zr A (wX5_isName cy aR qR aH aH vR_j11 vR vR_tape)) ([.ref aR] : List Value).toArray s 0 0 A = Q
  have J105 : ∀ (t0_105 : Int32), ∀ (H : Heap) (locs : List Loc) (ls : Array Slot), va_P D vwCl (wX5_isName cy aR qR aH aH vR_j11 vR vR_tape) H → va_D A (wX5_isName cy aR qR aH aH vR_j11 vR vR_tape) → va_S A s.heap H locs → lv_has ls 3 [] → fX5_isName_J105 t0_105 = some zr → W p l e ({ frames := 5, cells := 0, slots := 0, locals := 108 } : Room) s m ([.ref aR] : List Value).toArray below meth c H locs 0 0 Q (F0 m 105 ls [.int t0_105]) := by
    intro t0_105 H locs ls hP hD hS hl hok
    unfold fX5_isName_J105 at hok
    obtain ⟨g105, hok⟩ := gd_some hok
    cases hok
    subst hQe; exact W.zret hx hb hr (isB_nar g105) (fun t ht hW => ⟨⟨_, (), rfl, rfl, by rw [ht]; exact hP, va_K.moved hW.alike hK, hD⟩, hS.F ht⟩) hS.2.2 dX5_isName_105
  have J104 : ∀ (H : Heap) (locs : List Loc) (ls : Array Slot), va_P D vwCl (wX5_isName cy aR qR aH aH vR_j11 vR vR_tape) H → va_D A (wX5_isName cy aR qR aH aH vR_j11 vR vR_tape) → va_S A s.heap H locs → lv_has ls 3 [] → fX5_isName_J104 = some zr → W p l e ({ frames := 5, cells := 0, slots := 0, locals := 108 } : Room) s m ([.ref aR] : List Value).toArray below meth c H locs 0 0 Q (F0 m 104 ls []) := by
    intro  H locs ls hP hD hS hl hok
    unfold fX5_isName_J104 at hok
    refine lv_iconst (v := 0) hx hb dX5_isName_104 (by decide) ?_
    exact J105 (0 : Int32) H locs ls hP hD hS (lv_sub hl [] rfl) hok
  have J83 : ∀ (y1_83 : Int32) (t0_83 : Int32), ∀ (H : Heap) (locs : List Loc) (ls : Array Slot), va_P D vwCl (wX5_isName cy aR qR aH aH vR_j11 vR vR_tape) H → va_D A (wX5_isName cy aR qR aH aH vR_j11 vR vR_tape) → va_S A s.heap H locs → lv_has ls 3 [(0, .ref aR), (1, .int y1_83)] → fX5_isName_J83 vR y1_83 t0_83 = some zr → W p l e ({ frames := 5, cells := 0, slots := 0, locals := 108 } : Room) s m ([.ref aR] : List Value).toArray below meth c H locs 0 0 Q (F0 m 83 ls [.int t0_83]) := by
    intro y1_83 t0_83 H locs ls hP hD hS hl hok
    unfold fX5_isName_J83 at hok
    refine lv_istore_n (lv' := [(2, .int t0_83), (0, .ref aR), (1, .int y1_83)]) hx hb dX5_isName_83 rfl hl (by decide) rfl (fun ls hl => ?_)
    refine lv_aload_n hx hb dX5_isName_84 rfl (lv_at hl 1 rfl) ?_
    refine va_get (D := D) (ci := 4) (v := .int (vR 7)) (C := RX5) (T := TX5) (N := 13) hx hb ht0 niX5 hown hK hP 0 rfl rfl 7 (by decide) (ht0 _ wd269) (fun _ h9 => h9) rfl dX5_isName_85 ?_
    refine lv_iconst (v := 1) hx hb dX5_isName_88 (by decide) ?_
    refine lv_icmp_ne (tgt := 104) hx hb dX5_isName_89 (by decide) (fun c89 => ?_) (fun c89 => ?_)
    · have hok := k_neg c89 hok
      exact J104  H locs ls hP hD hS (lv_sub hl [] rfl) hok
    · have hok := k_pos c89 hok
      refine lv_iload_n hx hb dX5_isName_92 rfl (lv_at hl 2 rfl) ?_
      refine lv_if_ne (tgt := 104) hx hb dX5_isName_93 (by decide) (fun c93 => ?_) (fun c93 => ?_)
      · have hok := k_neg c93 hok
        exact J104  H locs ls hP hD hS (lv_sub hl [] rfl) hok
      · have hok := k_pos c93 hok
        refine lv_iload_n hx hb dX5_isName_96 rfl (lv_at hl 0 rfl) ?_
        refine lv_if_ne (tgt := 104) hx hb dX5_isName_97 (by decide) (fun c97 => ?_) (fun c97 => ?_)
        · have hok := k_neg c97 hok
          exact J104  H locs ls hP hD hS (lv_sub hl [] rfl) hok
        · have hok := k_pos c97 hok
          refine lv_iconst (v := 1) hx hb dX5_isName_100 (by decide) ?_
          refine lv_goto (tgt := 105) hx hb dX5_isName_101 (by decide) ?_
          exact J105 (1 : Int32) H locs ls hP hD hS (lv_sub hl [] rfl) hok
  have J78 : ∀ (y1_78 : Int32), ∀ (H : Heap) (locs : List Loc) (ls : Array Slot), va_P D vwCl (wX5_isName cy aR qR aH aH vR_j11 vR vR_tape) H → va_D A (wX5_isName cy aR qR aH aH vR_j11 vR vR_tape) → va_S A s.heap H locs → lv_has ls 3 [(0, .ref aR), (1, .int y1_78)] → fX5_isName_J78 vR y1_78 = some zr → W p l e ({ frames := 5, cells := 0, slots := 0, locals := 108 } : Room) s m ([.ref aR] : List Value).toArray below meth c H locs 0 0 Q (F0 m 78 ls []) := by
    intro y1_78 H locs ls hP hD hS hl hok
    unfold fX5_isName_J78 at hok
    refine lv_iconst (v := 1) hx hb dX5_isName_78 (by decide) ?_
    refine lv_goto (tgt := 83) hx hb dX5_isName_79 (by decide) ?_
    exact J83 y1_78 (1 : Int32) H locs ls hP hD hS (lv_sub hl [0, 1] rfl) hok
  have J41 : ∀ (t0_41 : Int32), ∀ (H : Heap) (locs : List Loc) (ls : Array Slot), va_P D vwCl (wX5_isName cy aR qR aH aH vR_j11 vR vR_tape) H → va_D A (wX5_isName cy aR qR aH aH vR_j11 vR vR_tape) → va_S A s.heap H locs → lv_has ls 3 [(0, .ref aR)] → fX5_isName_J41 vR_j11 vR vR_tape t0_41 = some zr → W p l e ({ frames := 5, cells := 0, slots := 0, locals := 108 } : Room) s m ([.ref aR] : List Value).toArray below meth c H locs 0 0 Q (F0 m 41 ls [.int t0_41]) := by
    intro t0_41 H locs ls hP hD hS hl hok
    unfold fX5_isName_J41 at hok
    refine lv_istore_n (lv' := [(1, .int t0_41), (0, .ref aR)]) hx hb dX5_isName_41 rfl hl (by decide) rfl (fun ls hl => ?_)
    refine lv_aload_n hx hb dX5_isName_42 rfl (lv_at hl 1 rfl) ?_
    refine va_ldcS (own := RX5) (tx := "thing") (index := 110) (q := ad.1 20) hx hb hown (hSt.2.1 (RX5, 110, "thing", 20) (List.mem_of_getElem? (i := 4) rfl)) dX5_isName_43 ?_
    obtain ⟨r45, hc45, hok⟩ := k_bind hok
    refine kCi (wc := (wX5_says cy aR qR aH aH vR_j11 vR vR_tape)) (wc2 := (wX5_says cy aR qR aH aH vR_j11 vR vR_tape)) (wr := []) (ws2 := (wX5_isName cy aR qR aH aH vR_j11 vR vR_tape)) (kRunVS (As := [.ref (ad.1 20)]) (rest := []) ⟨hx, hb, hml, hown, ht0⟩ (kX5_says l D cy ad _ aR qR aH vR_j11 vR vR_tape 20 r45 hc45 _ rfl) (cwV 1 ht0 (gV wd324 wd325 wd326 wd276 wd327) rfl rfl rfl (by decide +kernel) ⟨Nat.le_of_ble_eq_true rfl, Nat.le_of_ble_eq_true rfl⟩) hK hN hP hD hSt hS hA [0, 1] rfl (by decide) 0 4 rfl rfl rfl hl.1 rfl (Nat.le_of_ble_eq_true rfl) dX5_isName_45 ⟨Nat.zero_le _, Nat.zero_le _⟩) hP hD hS hA [0, 1] [] rfl rfl (by decide) (by decide) [0, 1] (by decide) rfl rfl (fun H locs hP hD hS => ?_)
    refine lv_if_ne (tgt := 78) hx hb dX5_isName_48 (by decide) (fun c48 => ?_) (fun c48 => ?_)
    · have hok := k_neg c48 hok
      exact J78 t0_41 H locs ls hP hD hS (lv_sub hl [1, 0] rfl) hok
    · have hok := k_pos c48 hok
      refine lv_aload_n hx hb dX5_isName_51 rfl (lv_at hl 1 rfl) ?_
      refine va_ldcS (own := RX5) (tx := "want") (index := 112) (q := ad.1 21) hx hb hown (hSt.2.1 (RX5, 112, "want", 21) (List.mem_of_getElem? (i := 5) rfl)) dX5_isName_52 ?_
      obtain ⟨r54, hc54, hok⟩ := k_bind hok
      refine kCi (wc := (wX5_says cy aR qR aH aH vR_j11 vR vR_tape)) (wc2 := (wX5_says cy aR qR aH aH vR_j11 vR vR_tape)) (wr := []) (ws2 := (wX5_isName cy aR qR aH aH vR_j11 vR vR_tape)) (kRunVS (As := [.ref (ad.1 21)]) (rest := []) ⟨hx, hb, hml, hown, ht0⟩ (kX5_says l D cy ad _ aR qR aH vR_j11 vR vR_tape 21 r54 hc54 _ rfl) (cwV 1 ht0 (gV wd324 wd325 wd326 wd276 wd327) rfl rfl rfl (by decide +kernel) ⟨Nat.le_of_ble_eq_true rfl, Nat.le_of_ble_eq_true rfl⟩) hK hN hP hD hSt hS hA [0, 1] rfl (by decide) 0 4 rfl rfl rfl hl.1 rfl (Nat.le_of_ble_eq_true rfl) dX5_isName_54 ⟨Nat.zero_le _, Nat.zero_le _⟩) hP hD hS hA [0, 1] [] rfl rfl (by decide) (by decide) [0, 1] (by decide) rfl rfl (fun H locs hP hD hS => ?_)
      refine lv_if_ne (tgt := 78) hx hb dX5_isName_57 (by decide) (fun c57 => ?_) (fun c57 => ?_)
      · have hok := k_neg c57 hok
        exact J78 t0_41 H locs ls hP hD hS (lv_sub hl [1, 0] rfl) hok
      · have hok := k_pos c57 hok
        refine lv_aload_n hx hb dX5_isName_60 rfl (lv_at hl 1 rfl) ?_
        refine va_ldcS (own := RX5) (tx := "found") (index := 114) (q := ad.1 7) hx hb hown (hSt.2.1 (RX5, 114, "found", 7) (List.mem_of_getElem? (i := 6) rfl)) dX5_isName_61 ?_
        obtain ⟨r63, hc63, hok⟩ := k_bind hok
        refine kCi (wc := (wX5_says cy aR qR aH aH vR_j11 vR vR_tape)) (wc2 := (wX5_says cy aR qR aH aH vR_j11 vR vR_tape)) (wr := []) (ws2 := (wX5_isName cy aR qR aH aH vR_j11 vR vR_tape)) (kRunVS (As := [.ref (ad.1 7)]) (rest := []) ⟨hx, hb, hml, hown, ht0⟩ (kX5_says l D cy ad _ aR qR aH vR_j11 vR vR_tape 7 r63 hc63 _ rfl) (cwV 1 ht0 (gV wd324 wd325 wd326 wd276 wd327) rfl rfl rfl (by decide +kernel) ⟨Nat.le_of_ble_eq_true rfl, Nat.le_of_ble_eq_true rfl⟩) hK hN hP hD hSt hS hA [0, 1] rfl (by decide) 0 4 rfl rfl rfl hl.1 rfl (Nat.le_of_ble_eq_true rfl) dX5_isName_63 ⟨Nat.zero_le _, Nat.zero_le _⟩) hP hD hS hA [0, 1] [] rfl rfl (by decide) (by decide) [0, 1] (by decide) rfl rfl (fun H locs hP hD hS => ?_)
        refine lv_if_ne (tgt := 78) hx hb dX5_isName_66 (by decide) (fun c66 => ?_) (fun c66 => ?_)
        · have hok := k_neg c66 hok
          exact J78 t0_41 H locs ls hP hD hS (lv_sub hl [1, 0] rfl) hok
        · have hok := k_pos c66 hok
          refine lv_aload_n hx hb dX5_isName_69 rfl (lv_at hl 1 rfl) ?_
          refine va_ldcS (own := RX5) (tx := "lost") (index := 115) (q := ad.1 10) hx hb hown (hSt.2.1 (RX5, 115, "lost", 10) (List.mem_of_getElem? (i := 7) rfl)) dX5_isName_70 ?_
          obtain ⟨r72, hc72, hok⟩ := k_bind hok
          refine kCi (wc := (wX5_says cy aR qR aH aH vR_j11 vR vR_tape)) (wc2 := (wX5_says cy aR qR aH aH vR_j11 vR vR_tape)) (wr := []) (ws2 := (wX5_isName cy aR qR aH aH vR_j11 vR vR_tape)) (kRunVS (As := [.ref (ad.1 10)]) (rest := []) ⟨hx, hb, hml, hown, ht0⟩ (kX5_says l D cy ad _ aR qR aH vR_j11 vR vR_tape 10 r72 hc72 _ rfl) (cwV 1 ht0 (gV wd324 wd325 wd326 wd276 wd327) rfl rfl rfl (by decide +kernel) ⟨Nat.le_of_ble_eq_true rfl, Nat.le_of_ble_eq_true rfl⟩) hK hN hP hD hSt hS hA [0, 1] rfl (by decide) 0 4 rfl rfl rfl hl.1 rfl (Nat.le_of_ble_eq_true rfl) dX5_isName_72 ⟨Nat.zero_le _, Nat.zero_le _⟩) hP hD hS hA [0, 1] [] rfl rfl (by decide) (by decide) [0, 1] (by decide) rfl rfl (fun H locs hP hD hS => ?_)
          refine lv_if_eq (tgt := 82) hx hb dX5_isName_75 (by decide) (fun c75 => ?_) (fun c75 => ?_)
          · have hok := k_pos c75 hok
            refine lv_iconst (v := 0) hx hb dX5_isName_82 (by decide) ?_
            exact J83 t0_41 (0 : Int32) H locs ls hP hD hS (lv_sub hl [1, 0] rfl) hok
          · have hok := k_neg c75 hok
            exact J78 t0_41 H locs ls hP hD hS (lv_sub hl [1, 0] rfl) hok
  have J36 : ∀ (H : Heap) (locs : List Loc) (ls : Array Slot), va_P D vwCl (wX5_isName cy aR qR aH aH vR_j11 vR vR_tape) H → va_D A (wX5_isName cy aR qR aH aH vR_j11 vR vR_tape) → va_S A s.heap H locs → lv_has ls 3 [(0, .ref aR)] → fX5_isName_J36 vR_j11 vR vR_tape = some zr → W p l e ({ frames := 5, cells := 0, slots := 0, locals := 108 } : Room) s m ([.ref aR] : List Value).toArray below meth c H locs 0 0 Q (F0 m 36 ls []) := by
    intro  H locs ls hP hD hS hl hok
    unfold fX5_isName_J36 at hok
    refine lv_iconst (v := 1) hx hb dX5_isName_36 (by decide) ?_
    refine lv_goto (tgt := 41) hx hb dX5_isName_37 (by decide) ?_
    exact J41 (1 : Int32) H locs ls hP hD hS (lv_sub hl [0] rfl) hok
  unfold fX5_isName at hok
  obtain ⟨H, hH⟩ : ∃ H, H = s.heap := ⟨_, rfl⟩
  obtain ⟨locs, hlc⟩ : ∃ x : List Loc, x = [] := ⟨_, rfl⟩
  have hP : va_P D vwCl (wX5_isName cy aR qR aH aH vR_j11 vR vR_tape) H := by rw [hH]; exact hP
  have hS : va_S A s.heap H locs := by rw [hH, hlc]; exact hS
  rw [show W p l e _ s m _ below meth c s.heap [] = W p l e _ s m _ below meth c H locs from by rw [hH, hlc]]
  refine lv_aload_n hx hb dX5_isName_0 rfl (lv_at hl 0 rfl) ?_
  refine va_ldcS (own := RX5) (tx := "house") (index := 102) (q := ad.1 8) hx hb hown (hSt.2.1 (RX5, 102, "house", 8) (List.mem_of_getElem? (i := 0) rfl)) dX5_isName_1 ?_
  obtain ⟨r3, hc3, hok⟩ := k_bind hok
  refine kCi (wc := (wX5_says cy aR qR aH aH vR_j11 vR vR_tape)) (wc2 := (wX5_says cy aR qR aH aH vR_j11 vR vR_tape)) (wr := []) (ws2 := (wX5_isName cy aR qR aH aH vR_j11 vR vR_tape)) (kRunVS (As := [.ref (ad.1 8)]) (rest := []) ⟨hx, hb, hml, hown, ht0⟩ (kX5_says l D cy ad _ aR qR aH vR_j11 vR vR_tape 8 r3 hc3 _ rfl) (cwV 1 ht0 (gV wd324 wd325 wd326 wd276 wd327) rfl rfl rfl (by decide +kernel) ⟨Nat.le_of_ble_eq_true rfl, Nat.le_of_ble_eq_true rfl⟩) hK hN hP hD hSt hS hA [0, 1] rfl (by decide) 0 4 rfl rfl rfl hl.1 rfl (Nat.le_of_ble_eq_true rfl) dX5_isName_3 ⟨Nat.zero_le _, Nat.zero_le _⟩) hP hD hS hA [0, 1] [] rfl rfl (by decide) (by decide) [0, 1] (by decide) rfl rfl (fun H locs hP hD hS => ?_)
  refine lv_if_ne (tgt := 36) hx hb dX5_isName_6 (by decide) (fun c6 => ?_) (fun c6 => ?_)
  · have hok := k_neg c6 hok
    exact J36  H locs ls hP hD hS (lv_sub hl [0] rfl) hok
  · have hok := k_pos c6 hok
    refine lv_aload_n hx hb dX5_isName_9 rfl (lv_at hl 0 rfl) ?_
    refine va_ldcS (own := RX5) (tx := "ring") (index := 104) (q := ad.1 18) hx hb hown (hSt.2.1 (RX5, 104, "ring", 18) (List.mem_of_getElem? (i := 1) rfl)) dX5_isName_10 ?_
    obtain ⟨r12, hc12, hok⟩ := k_bind hok
    refine kCi (wc := (wX5_says cy aR qR aH aH vR_j11 vR vR_tape)) (wc2 := (wX5_says cy aR qR aH aH vR_j11 vR vR_tape)) (wr := []) (ws2 := (wX5_isName cy aR qR aH aH vR_j11 vR vR_tape)) (kRunVS (As := [.ref (ad.1 18)]) (rest := []) ⟨hx, hb, hml, hown, ht0⟩ (kX5_says l D cy ad _ aR qR aH vR_j11 vR vR_tape 18 r12 hc12 _ rfl) (cwV 1 ht0 (gV wd324 wd325 wd326 wd276 wd327) rfl rfl rfl (by decide +kernel) ⟨Nat.le_of_ble_eq_true rfl, Nat.le_of_ble_eq_true rfl⟩) hK hN hP hD hSt hS hA [0, 1] rfl (by decide) 0 4 rfl rfl rfl hl.1 rfl (Nat.le_of_ble_eq_true rfl) dX5_isName_12 ⟨Nat.zero_le _, Nat.zero_le _⟩) hP hD hS hA [0, 1] [] rfl rfl (by decide) (by decide) [0, 1] (by decide) rfl rfl (fun H locs hP hD hS => ?_)
    refine lv_if_ne (tgt := 36) hx hb dX5_isName_15 (by decide) (fun c15 => ?_) (fun c15 => ?_)
    · have hok := k_neg c15 hok
      exact J36  H locs ls hP hD hS (lv_sub hl [0] rfl) hok
    · have hok := k_pos c15 hok
      refine lv_aload_n hx hb dX5_isName_18 rfl (lv_at hl 0 rfl) ?_
      refine va_ldcS (own := RX5) (tx := "narrow") (index := 106) (q := ad.1 11) hx hb hown (hSt.2.1 (RX5, 106, "narrow", 11) (List.mem_of_getElem? (i := 2) rfl)) dX5_isName_19 ?_
      obtain ⟨r21, hc21, hok⟩ := k_bind hok
      refine kCi (wc := (wX5_says cy aR qR aH aH vR_j11 vR vR_tape)) (wc2 := (wX5_says cy aR qR aH aH vR_j11 vR vR_tape)) (wr := []) (ws2 := (wX5_isName cy aR qR aH aH vR_j11 vR vR_tape)) (kRunVS (As := [.ref (ad.1 11)]) (rest := []) ⟨hx, hb, hml, hown, ht0⟩ (kX5_says l D cy ad _ aR qR aH vR_j11 vR vR_tape 11 r21 hc21 _ rfl) (cwV 1 ht0 (gV wd324 wd325 wd326 wd276 wd327) rfl rfl rfl (by decide +kernel) ⟨Nat.le_of_ble_eq_true rfl, Nat.le_of_ble_eq_true rfl⟩) hK hN hP hD hSt hS hA [0, 1] rfl (by decide) 0 4 rfl rfl rfl hl.1 rfl (Nat.le_of_ble_eq_true rfl) dX5_isName_21 ⟨Nat.zero_le _, Nat.zero_le _⟩) hP hD hS hA [0, 1] [] rfl rfl (by decide) (by decide) [0, 1] (by decide) rfl rfl (fun H locs hP hD hS => ?_)
      refine lv_if_ne (tgt := 36) hx hb dX5_isName_24 (by decide) (fun c24 => ?_) (fun c24 => ?_)
      · have hok := k_neg c24 hok
        exact J36  H locs ls hP hD hS (lv_sub hl [0] rfl) hok
      · have hok := k_pos c24 hok
        refine lv_aload_n hx hb dX5_isName_27 rfl (lv_at hl 0 rfl) ?_
        refine va_ldcS (own := RX5) (tx := "door") (index := 108) (q := ad.1 6) hx hb hown (hSt.2.1 (RX5, 108, "door", 6) (List.mem_of_getElem? (i := 3) rfl)) dX5_isName_28 ?_
        obtain ⟨r30, hc30, hok⟩ := k_bind hok
        refine kCi (wc := (wX5_says cy aR qR aH aH vR_j11 vR vR_tape)) (wc2 := (wX5_says cy aR qR aH aH vR_j11 vR vR_tape)) (wr := []) (ws2 := (wX5_isName cy aR qR aH aH vR_j11 vR vR_tape)) (kRunVS (As := [.ref (ad.1 6)]) (rest := []) ⟨hx, hb, hml, hown, ht0⟩ (kX5_says l D cy ad _ aR qR aH vR_j11 vR vR_tape 6 r30 hc30 _ rfl) (cwV 1 ht0 (gV wd324 wd325 wd326 wd276 wd327) rfl rfl rfl (by decide +kernel) ⟨Nat.le_of_ble_eq_true rfl, Nat.le_of_ble_eq_true rfl⟩) hK hN hP hD hSt hS hA [0, 1] rfl (by decide) 0 4 rfl rfl rfl hl.1 rfl (Nat.le_of_ble_eq_true rfl) dX5_isName_30 ⟨Nat.zero_le _, Nat.zero_le _⟩) hP hD hS hA [0, 1] [] rfl rfl (by decide) (by decide) [0, 1] (by decide) rfl rfl (fun H locs hP hD hS => ?_)
        refine lv_if_eq (tgt := 40) hx hb dX5_isName_33 (by decide) (fun c33 => ?_) (fun c33 => ?_)
        · have hok := k_pos c33 hok
          refine lv_iconst (v := 0) hx hb dX5_isName_40 (by decide) ?_
          exact J41 (0 : Int32) H locs ls hP hD hS (lv_sub hl [0] rfl) hok
        · have hok := k_neg c33 hok
          exact J36  H locs ls hP hD hS (lv_sub hl [0] rfl) hok
def wsX7_count : List Cond := .code yX7_count cX7_count 1 (some .int) :: W0
abbrev wX7_count (cy : Nat → ClassId) (aU : Nat) (qU : Nat → Nat) (vU : Nat → Int32) : va_W := [(aU, oX7 vU qU)]
set_option maxHeartbeats 4000000 in
set_option maxRecDepth 100000 in
theorem kX7_count (l : Launch) (D : va_G) (cy : Nat → ClassId) (sz : Nat) (aU : Nat) (qU : Nat → Nat) (vU : Nat → Int32) (zr : Int32) (hok : fX7_count vU = some zr) (A : Nat → Prop) (hAe : va_A (wX7_count cy aU qU vU) sz = A) : Met l yX7_count wsX7_count ({ frames := 0, cells := 0, slots := 0, locals := 0 } : Room) (kPre D cy [.ref aU] (wX7_count cy aU qU vU) sz) (kQi D cy zr A (wX7_count cy aU qU vU)) 0 0 A := by
  refine Met.ofW (cc := cX7_count) (maxL := 1) (ret := (some .int)) (by decide) rfl ?_
  intro p e s m args below meth c s₁ B hml hv
  obtain ⟨rfl, hsz, hP, hK, hD0, hN⟩ := hv
  have hx := B.exec
  have hb := B.bytes
  have hr := B.returns
  have ht0 : ∀ w ∈ W0, w.before _ s = true := fun w h => atoms_spec (ws := wsX7_count) B.pre w (List.mem_cons_of_mem _ h)
  have hown : s.vm.findClass RX7 = some m.cls := findClass_of_methodNamed B.named
  have hlocks := B.notSynchronized
  subst hsz
  have hD : va_D A (wX7_count cy aU qU vU) := by rw [← hAe]; exact hD0.self
  have hA : ∀ q : Nat, s.heap.size ≤ q → A q := fun q h => by rw [← hAe]; exact Or.inr h
  have hS : va_S A s.heap s.heap [] := va_S.rf
  have hl := lv_entry ([.ref aU]) (n := 1) (Nat.le_of_ble_eq_true rfl)
  rw [lg_entry_eq]
  generalize (lg_sl ([.ref aU]) ++ List.replicate (1 - (lg_sl ([.ref aU])).length) Slot.unset).toArray = ls at hl ⊢
  have hl : lv_has ls 1 [(0, .ref aU)] := hl
  unfold fX7_count at hok
  obtain ⟨H, hH⟩ : ∃ H, H = s.heap := ⟨_, rfl⟩
  obtain ⟨locs, hlc⟩ : ∃ x : List Loc, x = [] := ⟨_, rfl⟩
  have hP : va_P D vwCl (wX7_count cy aU qU vU) H := by rw [hH]; exact hP
  have hS : va_S A s.heap H locs := by rw [hH, hlc]; exact hS
  rw [show W p l e _ s m _ below meth c s.heap [] = W p l e _ s m _ below meth c H locs from by rw [hH, hlc]]
  refine lv_aload_n hx hb dX7_count_0 rfl (lv_at hl 0 rfl) ?_
  refine va_get (D := D) (ci := 6) (v := .int (vU 0)) (C := RX7) (T := TX7) (N := 5) hx hb ht0 niX7 hown hK hP 0 rfl rfl 0 (by decide) (ht0 _ wd202) (fun _ h9 => h9) rfl dX7_count_1 ?_
  cases hok
  exact W.iret hx hb hr (fun t ht hW => ⟨⟨_, (), rfl, rfl, by rw [ht]; exact hP, va_K.moved hW.alike hK, hD⟩, hS.F ht⟩) hS.2.2 dX7_count_4
