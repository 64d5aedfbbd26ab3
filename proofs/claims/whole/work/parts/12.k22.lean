def wsX9_keptBy : List Cond := .code yX9_keptBy cX9_keptBy 6 (some .int) :: W0
abbrev wX9_keptBy (cy : Nat → ClassId) (aM : Nat) (qM : Nat → Nat) (vM : Nat → Int32) (vM_st : Nat → Int32) (vM_trial : Nat → Int32) (vM_r : Nat → Int32) : va_W := [(aM, oX9 vM qM), (qM 17, rI cy 9 vM_st), (qM 22, rI cy 9 vM_trial), (qM 15, rI cy 224 vM_r)]
set_option maxHeartbeats 4000000 in
set_option maxRecDepth 100000 in
theorem kX9_keptBy (l : Launch) (D : va_G) (cy : Nat → ClassId) (sz : Nat) (aM : Nat) (qM : Nat → Nat) (vM : Nat → Int32) (vM_st : Nat → Int32) (vM_trial : Nat → Int32) (vM_r : Nat → Int32) (x1 : Int32) (x2 : Int32) (zr : Int32) (z_vM_trial : Nat → Int32) (hok : fX9_keptBy vM vM_st vM_trial vM_r x1 x2 = some (zr, z_vM_trial)) (A : Nat → Prop) (hAe : va_A (wX9_keptBy cy aM qM vM vM_st vM_trial vM_r) sz = A) : Met l yX9_keptBy wsX9_keptBy ({ frames := 5, cells := 0, slots := 0, locals := 114 } : Room) (kPre D cy [.ref aM, .int x1, .int x2] (wX9_keptBy cy aM qM vM vM_st vM_trial vM_r) sz) (kQi D cy zr A (wX9_keptBy cy aM qM vM vM_st z_vM_trial vM_r)) 0 0 A := by
  refine Met.ofW (cc := cX9_keptBy) (maxL := 6) (ret := (some .int)) (by decide) rfl ?_
  intro p e s m args below meth c s₁ B hml hv
  obtain ⟨rfl, hsz, hP, hK, hD0, hN⟩ := hv
  have hx := B.exec
  have hb := B.bytes
  have hr := B.returns
  have ht0 : ∀ w ∈ W0, w.before _ s = true := fun w h => atoms_spec (ws := wsX9_keptBy) B.pre w (List.mem_cons_of_mem _ h)
  have hown : s.vm.findClass RX9 = some m.cls := findClass_of_methodNamed B.named
  have hlocks := B.notSynchronized
  subst hsz
  have hD : va_D A (wX9_keptBy cy aM qM vM vM_st vM_trial vM_r) := by rw [← hAe]; exact hD0.self
  have hA : ∀ q : Nat, s.heap.size ≤ q → A q := fun q h => by rw [← hAe]; exact Or.inr h
  have hS : va_S A s.heap s.heap [] := va_S.rf
  have hl := lv_entry ([.ref aM, .int x1, .int x2]) (n := 6) (Nat.le_of_ble_eq_true rfl)
  rw [lg_entry_eq]
  generalize (lg_sl ([.ref aM, .int x1, .int x2]) ++ List.replicate (6 - (lg_sl ([.ref aM, .int x1, .int x2])).length) Slot.unset).toArray = ls at hl ⊢
  have hl : lv_has ls 6 [(0, .ref aM), (1, .int x1), (2, .int x2)] := hl
  generalize hQe : MQ below (kQi D cy zr A (wX9_keptBy cy aM qM vM vM_st z_vM_trial vM_r)) ([.ref aM, .int x1, .int x2] : List Value).toArray s 0 0 A = Q
  have L20 : ∀ (fuel : Nat) (y3_20 : Int32) (y4_20 : Int32) (vM_trial_20 : Nat → Int32), ∀ (H : Heap) (locs : List Loc) (ls : Array Slot), va_P D vwCl (wX9_keptBy cy aM qM vM vM_st vM_trial_20 vM_r) H → va_D A (wX9_keptBy cy aM qM vM vM_st vM_trial_20 vM_r) → va_S A s.heap H locs → lv_has ls 6 [(0, .ref aM), (2, .int x2), (3, .int y3_20), (4, .int y4_20)] → lp (fX9_keptBy_B20 vM vM_r x2) fuel (y3_20, y4_20, vM_trial_20) = some (zr, z_vM_trial) → W p l e ({ frames := 5, cells := 0, slots := 0, locals := 114 } : Room) s m ([.ref aM, .int x1, .int x2] : List Value).toArray below meth c H locs 0 0 Q (F0 m 20 ls []) := by
    intro fuel
    induction fuel with
    | zero => intro y3_20 y4_20 vM_trial_20 H locs ls hP hD hS hl hok; exact (lp_0 hok).elim
    | succ fuel ih20 =>
      intro y3_20 y4_20 vM_trial_20 H locs ls hP hD hS hl hok
      obtain ⟨y20, hok, hL20, hR20⟩ := lp_step hok
      have L38 : ∀ (fuel : Nat) (y3_38 : Int32) (y5_38 : Int32) (vM_trial_38 : Nat → Int32), ∀ (H : Heap) (locs : List Loc) (ls : Array Slot), va_P D vwCl (wX9_keptBy cy aM qM vM vM_st vM_trial_38 vM_r) H → va_D A (wX9_keptBy cy aM qM vM vM_st vM_trial_38 vM_r) → va_S A s.heap H locs → lv_has ls 6 [(0, .ref aM), (2, .int x2), (3, .int y3_38), (4, .int y4_20), (5, .int y5_38)] → lp (fX9_keptBy_B38 vM_r y4_20) fuel (y3_38, y5_38, vM_trial_38) = some y20 → W p l e ({ frames := 5, cells := 0, slots := 0, locals := 114 } : Room) s m ([.ref aM, .int x1, .int x2] : List Value).toArray below meth c H locs 0 0 Q (F0 m 38 ls []) := by
        intro fuel
        induction fuel with
        | zero => intro y3_38 y5_38 vM_trial_38 H locs ls hP hD hS hl hok; exact (lp_0 hok).elim
        | succ fuel ih38 =>
          intro y3_38 y5_38 vM_trial_38 H locs ls hP hD hS hl hok
          obtain ⟨y38, hok, hL38, hR38⟩ := lp_step hok
          have J117 : ∀ (t0_117 : Int32), ∀ (H : Heap) (locs : List Loc) (ls : Array Slot), va_P D vwCl (wX9_keptBy cy aM qM vM vM_st vM_trial_38 vM_r) H → va_D A (wX9_keptBy cy aM qM vM vM_st vM_trial_38 vM_r) → va_S A s.heap H locs → lv_has ls 6 [(0, .ref aM), (2, .int x2), (4, .int y4_20), (5, .int y5_38)] → fX9_keptBy_J117 y3_38 y5_38 vM_trial_38 t0_117 = some y38 → W p l e ({ frames := 5, cells := 0, slots := 0, locals := 114 } : Room) s m ([.ref aM, .int x1, .int x2] : List Value).toArray below meth c H locs 0 0 Q (F0 m 117 ls [.int t0_117, .int y3_38]) := by
            intro t0_117 H locs ls hP hD hS hl hok
            unfold fX9_keptBy_J117 at hok
            refine lv_ior hx hb dX9_keptBy_117 ?_
            refine lv_istore_n (lv' := [(3, .int (y3_38 ||| t0_117)), (0, .ref aM), (2, .int x2), (4, .int y4_20), (5, .int y5_38)]) hx hb dX9_keptBy_118 rfl hl (by decide) rfl (fun ls hl => ?_)
            refine lv_iinc (v := (y5_38 + 1)) (lv' := [(5, .int (y5_38 + 1)), (3, .int (y3_38 ||| t0_117)), (0, .ref aM), (2, .int x2), (4, .int y4_20)]) hx hb dX9_keptBy_119 hl (k := 4) rfl (by first | rfl | decide) (by decide) rfl (fun ls hl => ?_)
            refine lv_goto (tgt := 38) hx hb dX9_keptBy_122 (by decide) ?_
            exact ih38 (y3_38 ||| t0_117) (y5_38 + 1) vM_trial_38 H locs ls hP hD hS (lv_sub hl [2, 3, 1, 4, 0] rfl) (hR38 _ (Option.some.inj hok).symm)
          have J116 : ∀ (H : Heap) (locs : List Loc) (ls : Array Slot), va_P D vwCl (wX9_keptBy cy aM qM vM vM_st vM_trial_38 vM_r) H → va_D A (wX9_keptBy cy aM qM vM vM_st vM_trial_38 vM_r) → va_S A s.heap H locs → lv_has ls 6 [(0, .ref aM), (2, .int x2), (4, .int y4_20), (5, .int y5_38)] → fX9_keptBy_J116 y3_38 y5_38 vM_trial_38 = some y38 → W p l e ({ frames := 5, cells := 0, slots := 0, locals := 114 } : Room) s m ([.ref aM, .int x1, .int x2] : List Value).toArray below meth c H locs 0 0 Q (F0 m 116 ls [.int y3_38]) := by
            intro  H locs ls hP hD hS hl hok
            unfold fX9_keptBy_J116 at hok
            refine lv_iconst (v := 0) hx hb dX9_keptBy_116 (by decide) ?_
            exact J117 (0 : Int32) H locs ls hP hD hS (lv_sub hl [0, 1, 2, 3] rfl) hok
          unfold fX9_keptBy_B38 at hok
          try dsimp only at hok
          refine lv_iload hx hb dX9_keptBy_38 (lv_at hl 4 rfl) ?_
          refine lv_aload_n hx hb dX9_keptBy_40 rfl (lv_at hl 0 rfl) ?_
          refine va_get (D := D) (ci := 8) (v := .ref (qM 15)) (C := RX9) (T := TX9) (N := 29) hx hb ht0 niX9 hown hK hP 0 rfl rfl 15 (by decide) (ht0 _ wd854) (fun _ h9 => h9) rfl dX9_keptBy_41 ?_
          refine lv_bipush (v := 6) hx hb dX9_keptBy_44 (by decide) ?_
          obtain ⟨g46, hok⟩ := gd_some hok
          refine va_iald hx hb hK hP 3 0 rfl rfl (okI_in g46) dX9_keptBy_46 ?_
          refine lv_icmp_ge (tgt := 125) hx hb dX9_keptBy_47 (by decide) (fun c47 => ?_) (fun c47 => ?_)
          · have hok := k_pos c47 hok
            obtain ⟨e38, hok, he38⟩ := ex_some hok
            have hok := hok.trans (congrArg some (hL38 _ he38))
            refine lv_iinc (v := (y4_20 + 1)) (lv' := [(4, .int (y4_20 + 1)), (0, .ref aM), (2, .int x2), (3, .int y3_38), (5, .int y5_38)]) hx hb dX9_keptBy_125 hl (k := 3) rfl (by first | rfl | decide) (by decide) rfl (fun ls hl => ?_)
            refine lv_goto (tgt := 20) hx hb dX9_keptBy_128 (by decide) ?_
            exact ih20 y3_38 (y4_20 + 1) vM_trial_38 H locs ls hP hD hS (lv_sub hl [1, 2, 3, 0] rfl) (hR20 _ (Option.some.inj hok).symm)
          · have hok := k_neg c47 hok
            refine lv_iload_n hx hb dX9_keptBy_50 rfl (lv_at hl 2 rfl) ?_
            refine lv_aload_n hx hb dX9_keptBy_51 rfl (lv_at hl 0 rfl) ?_
            refine va_get (D := D) (ci := 8) (v := .ref (qM 15)) (C := RX9) (T := TX9) (N := 29) hx hb ht0 niX9 hown hK hP 0 rfl rfl 15 (by decide) (ht0 _ wd854) (fun _ h9 => h9) rfl dX9_keptBy_52 ?_
            refine lv_bipush (v := 83) hx hb dX9_keptBy_55 (by decide) ?_
            refine lv_iconst (v := 4) hx hb dX9_keptBy_57 (by decide) ?_
            refine lv_iload hx hb dX9_keptBy_58 (lv_at hl 4 rfl) ?_
            refine lv_imul hx hb dX9_keptBy_60 ?_
            refine lv_iadd hx hb dX9_keptBy_61 ?_
            refine lv_iconst (v := 2) hx hb dX9_keptBy_62 (by decide) ?_
            refine lv_iadd hx hb dX9_keptBy_63 ?_
            obtain ⟨g64, hok⟩ := gd_some hok
            refine va_iald hx hb hK hP 3 0 rfl rfl (okI_in g64) dX9_keptBy_64 ?_
            refine lv_aload_n hx hb dX9_keptBy_65 rfl (lv_at hl 0 rfl) ?_
            refine va_get (D := D) (ci := 8) (v := .ref (qM 22)) (C := RX9) (T := TX9) (N := 29) hx hb ht0 niX9 hown hK hP 0 rfl rfl 22 (by decide) (ht0 _ wd921) (fun _ h9 => h9) rfl dX9_keptBy_66 ?_
            refine lv_bipush (v := 8) hx hb dX9_keptBy_69 (by decide) ?_
            obtain ⟨g71, hok⟩ := gd_some hok
            refine va_iald hx hb hK hP 2 0 rfl rfl (okI_in g71) dX9_keptBy_71 ?_
            refine lv_icmp_ne (tgt := 116) hx hb dX9_keptBy_72 (by decide) (fun c72 => ?_) (fun c72 => ?_)
            · have hok := k_neg c72 hok
              exact J116  H locs ls hP hD hS (lv_sub hl [0, 1, 3, 4] rfl) hok
            · have hok := k_pos c72 hok
              refine lv_aload_n hx hb dX9_keptBy_75 rfl (lv_at hl 0 rfl) ?_
              refine va_get (D := D) (ci := 8) (v := .ref (qM 22)) (C := RX9) (T := TX9) (N := 29) hx hb ht0 niX9 hown hK hP 0 rfl rfl 22 (by decide) (ht0 _ wd921) (fun _ h9 => h9) rfl dX9_keptBy_76 ?_
              refine lv_aload_n hx hb dX9_keptBy_79 rfl (lv_at hl 0 rfl) ?_
              refine va_get (D := D) (ci := 8) (v := .ref (qM 15)) (C := RX9) (T := TX9) (N := 29) hx hb ht0 niX9 hown hK hP 0 rfl rfl 15 (by decide) (ht0 _ wd854) (fun _ h9 => h9) rfl dX9_keptBy_80 ?_
              refine lv_bipush (v := 83) hx hb dX9_keptBy_83 (by decide) ?_
              refine lv_iconst (v := 4) hx hb dX9_keptBy_85 (by decide) ?_
              refine lv_iload hx hb dX9_keptBy_86 (lv_at hl 4 rfl) ?_
              refine lv_imul hx hb dX9_keptBy_88 ?_
              refine lv_iadd hx hb dX9_keptBy_89 ?_
              obtain ⟨g90, hok⟩ := gd_some hok
              refine va_iald hx hb hK hP 3 0 rfl rfl (okI_in g90) dX9_keptBy_90 ?_
              obtain ⟨g91, hok⟩ := gd_some hok
              refine va_iald hx hb hK hP 2 0 rfl rfl (okI_in g91) dX9_keptBy_91 ?_
              refine lv_aload_n hx hb dX9_keptBy_92 rfl (lv_at hl 0 rfl) ?_
              refine va_get (D := D) (ci := 8) (v := .ref (qM 15)) (C := RX9) (T := TX9) (N := 29) hx hb ht0 niX9 hown hK hP 0 rfl rfl 15 (by decide) (ht0 _ wd854) (fun _ h9 => h9) rfl dX9_keptBy_93 ?_
              refine lv_bipush (v := 83) hx hb dX9_keptBy_96 (by decide) ?_
              refine lv_iconst (v := 4) hx hb dX9_keptBy_98 (by decide) ?_
              refine lv_iload hx hb dX9_keptBy_99 (lv_at hl 4 rfl) ?_
              refine lv_imul hx hb dX9_keptBy_101 ?_
              refine lv_iadd hx hb dX9_keptBy_102 ?_
              refine lv_iconst (v := 1) hx hb dX9_keptBy_103 (by decide) ?_
              refine lv_iadd hx hb dX9_keptBy_104 ?_
              obtain ⟨g105, hok⟩ := gd_some hok
              refine va_iald hx hb hK hP 3 0 rfl rfl (okI_in g105) dX9_keptBy_105 ?_
              refine lv_icmp_ne (tgt := 116) hx hb dX9_keptBy_106 (by decide) (fun c106 => ?_) (fun c106 => ?_)
              · have hok := k_neg c106 hok
                exact J116  H locs ls hP hD hS (lv_sub hl [0, 1, 3, 4] rfl) hok
              · have hok := k_pos c106 hok
                refine lv_iconst (v := 1) hx hb dX9_keptBy_109 (by decide) ?_
                refine lv_iload hx hb dX9_keptBy_110 (lv_at hl 4 rfl) ?_
                refine lv_ishl hx hb dX9_keptBy_112 ?_
                refine lv_goto (tgt := 117) hx hb dX9_keptBy_113 (by decide) ?_
                exact J117 (isl (1 : Int32) y5_38) H locs ls hP hD hS (lv_sub hl [0, 1, 3, 4] rfl) hok
      unfold fX9_keptBy_B20 at hok
      try dsimp only at hok
      refine lv_iload hx hb dX9_keptBy_20 (lv_at hl 3 rfl) ?_
      refine lv_iload_n hx hb dX9_keptBy_22 rfl (lv_at hl 1 rfl) ?_
      refine lv_icmp_ge (tgt := 131) hx hb dX9_keptBy_23 (by decide) (fun c23 => ?_) (fun c23 => ?_)
      · have hok := k_pos c23 hok
        obtain ⟨e20, hok, he20⟩ := ex_some hok
        have hok := hok.trans (congrArg some (hL20 _ he20))
        refine lv_iload_n hx hb dX9_keptBy_131 rfl (lv_at hl 2 rfl) ?_
        cases hok
        subst hQe; exact W.iret hx hb hr (fun t ht hW => ⟨⟨_, (), rfl, rfl, by rw [ht]; exact hP, va_K.moved hW.alike hK, hD⟩, hS.F ht⟩) hS.2.2 dX9_keptBy_132
      · have hok := k_neg c23 hok
        refine lv_aload_n hx hb dX9_keptBy_26 rfl (lv_at hl 0 rfl) ?_
        refine lv_aload_n hx hb dX9_keptBy_27 rfl (lv_at hl 0 rfl) ?_
        refine va_get (D := D) (ci := 8) (v := .ref (qM 22)) (C := RX9) (T := TX9) (N := 29) hx hb ht0 niX9 hown hK hP 0 rfl rfl 22 (by decide) (ht0 _ wd921) (fun _ h9 => h9) rfl dX9_keptBy_28 ?_
        obtain ⟨⟨r31, p1_31⟩, hc31, hok⟩ := k_bind hok
        try dsimp only at hok
        refine kCi (wc := (wX9_nightOf cy aM (qM 22) qM vM vM_r 9 vM_trial_20)) (wc2 := (wX9_nightOf cy aM (qM 22) qM vM vM_r 9 p1_31)) (wr := [(qM 17, rI cy 9 vM_st)]) (ws2 := (wX9_keptBy cy aM qM vM vM_st p1_31 vM_r)) (kRunV (As := [.ref (qM 22)]) (rest := []) ⟨hx, hb, hml, hown, ht0⟩ (kX9_nightOf l D cy _ aM (qM 22) qM vM vM_r 9 vM_trial_20 r31 p1_31 hc31 _ rfl) (cwV 1 ht0 (gV wd940 wd941 wd942 wd744 wd943) rfl rfl rfl (by decide +kernel) ⟨Nat.le_of_ble_eq_true rfl, Nat.le_of_ble_eq_true rfl⟩) hK hN hP hD [0, 3, 2] rfl (by decide) 0 8 rfl rfl rfl hl.1 rfl (Nat.le_of_ble_eq_true rfl) dX9_keptBy_31 ⟨Nat.zero_le _, Nat.zero_le _⟩) hP hD hS hA [0, 3, 2] [1] rfl rfl (by decide) (by decide) [1, 0, 3, 2] (by decide) rfl rfl (fun H locs hP hD hS => ?_)
        refine lv_pop hx hb dX9_keptBy_34 rfl ?_
        refine lv_iconst (v := 0) hx hb dX9_keptBy_35 (by decide) ?_
        refine lv_istore (lv' := [(5, .int 0), (0, .ref aM), (2, .int x2), (3, .int y3_20), (4, .int y4_20)]) hx hb dX9_keptBy_36 hl (by decide) rfl (fun ls hl => ?_)
        exact L38 5000 y3_20 (0 : Int32) p1_31 H locs ls hP hD hS (lv_sub hl [1, 2, 3, 4, 0] rfl) hok
  unfold fX9_keptBy at hok
  obtain ⟨H, hH⟩ : ∃ H, H = s.heap := ⟨_, rfl⟩
  obtain ⟨locs, hlc⟩ : ∃ x : List Loc, x = [] := ⟨_, rfl⟩
  have hP : va_P D vwCl (wX9_keptBy cy aM qM vM vM_st vM_trial vM_r) H := by rw [hH]; exact hP
  have hS : va_S A s.heap H locs := by rw [hH, hlc]; exact hS
  rw [show W p l e _ s m _ below meth c s.heap [] = W p l e _ s m _ below meth c H locs from by rw [hH, hlc]]
  refine lv_aload_n hx hb dX9_keptBy_0 rfl (lv_at hl 0 rfl) ?_
  obtain ⟨vM_trial_1, hc1, hok⟩ := k_bind hok
  refine kCv (wc := (wX9_begin cy aM qM vM vM_st vM_trial)) (wc2 := (wX9_begin cy aM qM vM vM_st vM_trial_1)) (wr := [(qM 15, rI cy 224 vM_r)]) (ws2 := (wX9_keptBy cy aM qM vM vM_st vM_trial_1 vM_r)) (kRunV (As := []) (rest := []) ⟨hx, hb, hml, hown, ht0⟩ (kX9_begin l D cy _ aM qM vM vM_st vM_trial vM_trial_1 hc1 _ rfl) (cwV 0 ht0 (gV wd948 wd949 wd950 wd744 wd951) rfl rfl rfl (by decide +kernel) ⟨Nat.le_of_ble_eq_true rfl, Nat.le_of_ble_eq_true rfl⟩) hK hN hP hD [0, 1, 2] rfl (by decide) 0 8 rfl rfl rfl hl.1 rfl (Nat.le_of_ble_eq_true rfl) dX9_keptBy_1 ⟨Nat.zero_le _, Nat.zero_le _⟩) hP hD hS hA [0, 1, 2] [3] rfl rfl (by decide) (by decide) [1, 2, 3, 0] (by decide) rfl rfl (fun H locs hP hD hS => ?_)
  refine lv_aload_n hx hb dX9_keptBy_4 rfl (lv_at hl 0 rfl) ?_
  refine va_get (D := D) (ci := 8) (v := .ref (qM 22)) (C := RX9) (T := TX9) (N := 29) hx hb ht0 niX9 hown hK hP 0 rfl rfl 22 (by decide) (ht0 _ wd921) (fun _ h9 => h9) rfl dX9_keptBy_5 ?_
  refine lv_bipush (v := 7) hx hb dX9_keptBy_8 (by decide) ?_
  refine lv_dup2_11 hx hb dX9_keptBy_10 rfl rfl ?_
  obtain ⟨g11, hok⟩ := gd_some hok
  refine va_iald hx hb hK hP 2 0 rfl rfl (okI_in g11) dX9_keptBy_11 ?_
  refine lv_iload_n hx hb dX9_keptBy_12 rfl (lv_at hl 1 rfl) ?_
  refine lv_ior hx hb dX9_keptBy_13 ?_
  obtain ⟨g14, hok⟩ := gd_some hok
  refine va_iast hx hb hK hP hD hS 2 0 rfl rfl (okI_in g14) dX9_keptBy_14 (fun H locs hP hD hS => ?_)
  have hP : va_P D vwCl (wX9_keptBy cy aM qM vM vM_st (upd vM_trial_1 (7 : Int32).toNatClampNeg ((vM_trial_1 (7 : Int32).toNatClampNeg) ||| x1)) vM_r) H := hP
  have hD : va_D A (wX9_keptBy cy aM qM vM vM_st (upd vM_trial_1 (7 : Int32).toNatClampNeg ((vM_trial_1 (7 : Int32).toNatClampNeg) ||| x1)) vM_r) := hD
  refine lv_iconst (v := 0) hx hb dX9_keptBy_15 (by decide) ?_
  refine lv_istore_n (lv' := [(3, .int 0), (0, .ref aM), (1, .int x1), (2, .int x2)]) hx hb dX9_keptBy_16 rfl hl (by decide) rfl (fun ls hl => ?_)
  refine lv_iconst (v := 0) hx hb dX9_keptBy_17 (by decide) ?_
  refine lv_istore (lv' := [(4, .int 0), (3, .int 0), (0, .ref aM), (1, .int x1), (2, .int x2)]) hx hb dX9_keptBy_18 hl (by decide) rfl (fun ls hl => ?_)
  exact L20 5000 (0 : Int32) (0 : Int32) (upd vM_trial_1 (7 : Int32).toNatClampNeg ((vM_trial_1 (7 : Int32).toNatClampNeg) ||| x1)) H locs ls hP hD hS (lv_sub hl [2, 4, 1, 0] rfl) hok
def wsX9_payOf : List Cond := .code yX9_payOf cX9_payOf 4 (some .int) :: W0
abbrev wX9_payOf (cy : Nat → ClassId) (aM : Nat) (qM : Nat → Nat) (vM : Nat → Int32) (vM_r : Nat → Int32) : va_W := [(aM, oX9 vM qM), (qM 15, rI cy 224 vM_r)]
set_option maxHeartbeats 4000000 in
set_option maxRecDepth 100000 in
theorem kX9_payOf (l : Launch) (D : va_G) (cy : Nat → ClassId) (sz : Nat) (aM : Nat) (qM : Nat → Nat) (vM : Nat → Int32) (vM_r : Nat → Int32) (x1 : Int32) (zr : Int32) (hok : fX9_payOf vM vM_r x1 = some zr) (A : Nat → Prop) (hAe : va_A (wX9_payOf cy aM qM vM vM_r) sz = A) : Met l yX9_payOf wsX9_payOf ({ frames := 1, cells := 0, slots := 0, locals := 21 } : Room) (kPre D cy [.ref aM, .int x1] (wX9_payOf cy aM qM vM vM_r) sz) (kQi D cy zr A (wX9_payOf cy aM qM vM vM_r)) 0 0 A := by
  refine Met.ofW (cc := cX9_payOf) (maxL := 4) (ret := (some .int)) (by decide) rfl ?_
  intro p e s m args below meth c s₁ B hml hv
  obtain ⟨rfl, hsz, hP, hK, hD0, hN⟩ := hv
  have hx := B.exec
  have hb := B.bytes
  have hr := B.returns
  have ht0 : ∀ w ∈ W0, w.before _ s = true := fun w h => atoms_spec (ws := wsX9_payOf) B.pre w (List.mem_cons_of_mem _ h)
  have hown : s.vm.findClass RX9 = some m.cls := findClass_of_methodNamed B.named
  have hlocks := B.notSynchronized
  subst hsz
  have hD : va_D A (wX9_payOf cy aM qM vM vM_r) := by rw [← hAe]; exact hD0.self
  have hA : ∀ q : Nat, s.heap.size ≤ q → A q := fun q h => by rw [← hAe]; exact Or.inr h
  have hS : va_S A s.heap s.heap [] := va_S.rf
  have hl := lv_entry ([.ref aM, .int x1]) (n := 4) (Nat.le_of_ble_eq_true rfl)
  rw [lg_entry_eq]
  generalize (lg_sl ([.ref aM, .int x1]) ++ List.replicate (4 - (lg_sl ([.ref aM, .int x1])).length) Slot.unset).toArray = ls at hl ⊢
  have hl : lv_has ls 4 [(0, .ref aM), (1, .int x1)] := hl
  generalize hQe : MQ below (kQi D cy zr A (wX9_payOf cy aM qM vM vM_r)) ([.ref aM, .int x1] : List Value).toArray s 0 0 A = Q
  have L4 : ∀ (fuel : Nat) (y2_4 : Int32) (y3_4 : Int32), ∀ (H : Heap) (locs : List Loc) (ls : Array Slot), va_P D vwCl (wX9_payOf cy aM qM vM vM_r) H → va_D A (wX9_payOf cy aM qM vM vM_r) → va_S A s.heap H locs → lv_has ls 4 [(0, .ref aM), (1, .int x1), (2, .int y2_4), (3, .int y3_4)] → lp (fX9_payOf_B4 vM_r x1) fuel (y2_4, y3_4) = some zr → W p l e ({ frames := 1, cells := 0, slots := 0, locals := 21 } : Room) s m ([.ref aM, .int x1] : List Value).toArray below meth c H locs 0 0 Q (F0 m 4 ls []) := by
    intro fuel
    induction fuel with
    | zero => intro y2_4 y3_4 H locs ls hP hD hS hl hok; exact (lp_0 hok).elim
    | succ fuel ih4 =>
      intro y2_4 y3_4 H locs ls hP hD hS hl hok
      obtain ⟨y4, hok, hL4, hR4⟩ := lp_step hok
      have J41 : ∀ (t0_41 : Int32), ∀ (H : Heap) (locs : List Loc) (ls : Array Slot), va_P D vwCl (wX9_payOf cy aM qM vM vM_r) H → va_D A (wX9_payOf cy aM qM vM vM_r) → va_S A s.heap H locs → lv_has ls 4 [(0, .ref aM), (1, .int x1), (3, .int y3_4)] → fX9_payOf_J41 y2_4 y3_4 t0_41 = some y4 → W p l e ({ frames := 1, cells := 0, slots := 0, locals := 21 } : Room) s m ([.ref aM, .int x1] : List Value).toArray below meth c H locs 0 0 Q (F0 m 41 ls [.int t0_41, .int y2_4]) := by
        intro t0_41 H locs ls hP hD hS hl hok
        unfold fX9_payOf_J41 at hok
        refine lv_iadd hx hb dX9_payOf_41 ?_
        refine lv_istore_n (lv' := [(2, .int (y2_4 + t0_41)), (0, .ref aM), (1, .int x1), (3, .int y3_4)]) hx hb dX9_payOf_42 rfl hl (by decide) rfl (fun ls hl => ?_)
        refine lv_iinc (v := (y3_4 + 1)) (lv' := [(3, .int (y3_4 + 1)), (2, .int (y2_4 + t0_41)), (0, .ref aM), (1, .int x1)]) hx hb dX9_payOf_43 hl (k := 3) rfl (by first | rfl | decide) (by decide) rfl (fun ls hl => ?_)
        refine lv_goto (tgt := 4) hx hb dX9_payOf_46 (by decide) ?_
        exact ih4 (y2_4 + t0_41) (y3_4 + 1) H locs ls hP hD hS (lv_sub hl [2, 3, 1, 0] rfl) (hR4 _ (Option.some.inj hok).symm)
      unfold fX9_payOf_B4 at hok
      try dsimp only at hok
      refine lv_iload_n hx hb dX9_payOf_4 rfl (lv_at hl 3 rfl) ?_
      refine lv_aload_n hx hb dX9_payOf_5 rfl (lv_at hl 0 rfl) ?_
      refine va_get (D := D) (ci := 8) (v := .ref (qM 15)) (C := RX9) (T := TX9) (N := 29) hx hb ht0 niX9 hown hK hP 0 rfl rfl 15 (by decide) (ht0 _ wd854) (fun _ h9 => h9) rfl dX9_payOf_6 ?_
      refine lv_bipush (v := 6) hx hb dX9_payOf_9 (by decide) ?_
      obtain ⟨g11, hok⟩ := gd_some hok
      refine va_iald hx hb hK hP 1 0 rfl rfl (okI_in g11) dX9_payOf_11 ?_
      refine lv_icmp_ge (tgt := 49) hx hb dX9_payOf_12 (by decide) (fun c12 => ?_) (fun c12 => ?_)
      · have hok := k_pos c12 hok
        obtain ⟨e4, hok, he4⟩ := ex_some hok
        have hok := hok.trans (congrArg some (hL4 _ he4))
        refine lv_iload_n hx hb dX9_payOf_49 rfl (lv_at hl 2 rfl) ?_
        cases hok
        subst hQe; exact W.iret hx hb hr (fun t ht hW => ⟨⟨_, (), rfl, rfl, by rw [ht]; exact hP, va_K.moved hW.alike hK, hD⟩, hS.F ht⟩) hS.2.2 dX9_payOf_50
      · have hok := k_neg c12 hok
        refine lv_iload_n hx hb dX9_payOf_15 rfl (lv_at hl 2 rfl) ?_
        refine lv_iload_n hx hb dX9_payOf_16 rfl (lv_at hl 1 rfl) ?_
        refine lv_iload_n hx hb dX9_payOf_17 rfl (lv_at hl 3 rfl) ?_
        obtain ⟨r18, hc18, hok⟩ := k_bind hok
        refine kCi (wc := (wX9_hasBit cy )) (wc2 := (wX9_hasBit cy )) (wr := [(aM, oX9 vM qM), (qM 15, rI cy 224 vM_r)]) (ws2 := (wX9_payOf cy aM qM vM vM_r)) (kRunS (As := [.int x1, .int y3_4]) (rest := [.int y2_4]) ⟨hx, hb, hml, hown, ht0⟩ (kX9_hasBit l D cy _ x1 y3_4 r18 hc18 _ rfl) (va_cwS 2 ht0 (gS wd894 wd895 wd744 wd896) rfl rfl rfl (by decide +kernel) ⟨Nat.le_of_ble_eq_true rfl, Nat.le_of_ble_eq_true rfl⟩) hK hN hP hD [] rfl (by decide) rfl hl.1 rfl (Nat.le_of_ble_eq_true rfl) dX9_payOf_18 ⟨Nat.zero_le _, Nat.zero_le _⟩) hP hD hS hA [] [0, 1] rfl rfl (by decide) (by decide) [0, 1] (by decide) rfl rfl (fun H locs hP hD hS => ?_)
        refine lv_if_eq (tgt := 40) hx hb dX9_payOf_21 (by decide) (fun c21 => ?_) (fun c21 => ?_)
        · have hok := k_pos c21 hok
          refine lv_iconst (v := 0) hx hb dX9_payOf_40 (by decide) ?_
          exact J41 (0 : Int32) H locs ls hP hD hS (lv_sub hl [0, 1, 3] rfl) hok
        · have hok := k_neg c21 hok
          refine lv_aload_n hx hb dX9_payOf_24 rfl (lv_at hl 0 rfl) ?_
          refine va_get (D := D) (ci := 8) (v := .ref (qM 15)) (C := RX9) (T := TX9) (N := 29) hx hb ht0 niX9 hown hK hP 0 rfl rfl 15 (by decide) (ht0 _ wd854) (fun _ h9 => h9) rfl dX9_payOf_25 ?_
          refine lv_bipush (v := 83) hx hb dX9_payOf_28 (by decide) ?_
          refine lv_iconst (v := 4) hx hb dX9_payOf_30 (by decide) ?_
          refine lv_iload_n hx hb dX9_payOf_31 rfl (lv_at hl 3 rfl) ?_
          refine lv_imul hx hb dX9_payOf_32 ?_
          refine lv_iadd hx hb dX9_payOf_33 ?_
          refine lv_iconst (v := 3) hx hb dX9_payOf_34 (by decide) ?_
          refine lv_iadd hx hb dX9_payOf_35 ?_
          obtain ⟨g36, hok⟩ := gd_some hok
          refine va_iald hx hb hK hP 1 0 rfl rfl (okI_in g36) dX9_payOf_36 ?_
          refine lv_goto (tgt := 41) hx hb dX9_payOf_37 (by decide) ?_
          exact J41 (vM_r (((83 : Int32) + ((4 : Int32) * y3_4)) + (3 : Int32)).toNatClampNeg) H locs ls hP hD hS (lv_sub hl [0, 1, 3] rfl) hok
  unfold fX9_payOf at hok
  obtain ⟨H, hH⟩ : ∃ H, H = s.heap := ⟨_, rfl⟩
  obtain ⟨locs, hlc⟩ : ∃ x : List Loc, x = [] := ⟨_, rfl⟩
  have hP : va_P D vwCl (wX9_payOf cy aM qM vM vM_r) H := by rw [hH]; exact hP
  have hS : va_S A s.heap H locs := by rw [hH, hlc]; exact hS
  rw [show W p l e _ s m _ below meth c s.heap [] = W p l e _ s m _ below meth c H locs from by rw [hH, hlc]]
  refine lv_iconst (v := 0) hx hb dX9_payOf_0 (by decide) ?_
  refine lv_istore_n (lv' := [(2, .int 0), (0, .ref aM), (1, .int x1)]) hx hb dX9_payOf_1 rfl hl (by decide) rfl (fun ls hl => ?_)
  refine lv_iconst (v := 0) hx hb dX9_payOf_2 (by decide) ?_
  refine lv_istore_n (lv' := [(3, .int 0), (2, .int 0), (0, .ref aM), (1, .int x1)]) hx hb dX9_payOf_3 rfl hl (by decide) rfl (fun ls hl => ?_)
  exact L4 5000 (0 : Int32) (0 : Int32) H locs ls hP hD hS (lv_sub hl [2, 3, 1, 0] rfl) hok
def wsX9_bestOf : List Cond := .code yX9_bestOf cX9_bestOf 6 (some .int) :: W0
abbrev wX9_bestOf (cy : Nat → ClassId) (aM : Nat) (qM : Nat → Nat) (vM : Nat → Int32) (vM_st : Nat → Int32) (vM_trial : Nat → Int32) (vM_r : Nat → Int32) : va_W := [(aM, oX9 vM qM), (qM 17, rI cy 9 vM_st), (qM 22, rI cy 9 vM_trial), (qM 15, rI cy 224 vM_r)]
set_option maxHeartbeats 4000000 in
set_option maxRecDepth 100000 in
theorem kX9_bestOf (l : Launch) (D : va_G) (cy : Nat → ClassId) (sz : Nat) (aM : Nat) (qM : Nat → Nat) (vM : Nat → Int32) (vM_st : Nat → Int32) (vM_trial : Nat → Int32) (vM_r : Nat → Int32) (x1 : Int32) (zr : Int32) (z_vM_trial : Nat → Int32) (hok : fX9_bestOf vM vM_st vM_trial vM_r x1 = some (zr, z_vM_trial)) (A : Nat → Prop) (hAe : va_A (wX9_bestOf cy aM qM vM vM_st vM_trial vM_r) sz = A) : Met l yX9_bestOf wsX9_bestOf ({ frames := 6, cells := 0, slots := 0, locals := 139 } : Room) (kPre D cy [.ref aM, .int x1] (wX9_bestOf cy aM qM vM vM_st vM_trial vM_r) sz) (kQi D cy zr A (wX9_bestOf cy aM qM vM vM_st z_vM_trial vM_r)) 0 0 A := by
  refine Met.ofW (cc := cX9_bestOf) (maxL := 6) (ret := (some .int)) (by decide) rfl ?_
  intro p e s m args below meth c s₁ B hml hv
  obtain ⟨rfl, hsz, hP, hK, hD0, hN⟩ := hv
  have hx := B.exec
  have hb := B.bytes
  have hr := B.returns
  have ht0 : ∀ w ∈ W0, w.before _ s = true := fun w h => atoms_spec (ws := wsX9_bestOf) B.pre w (List.mem_cons_of_mem _ h)
  have hown : s.vm.findClass RX9 = some m.cls := findClass_of_methodNamed B.named
  have hlocks := B.notSynchronized
  subst hsz
  have hD : va_D A (wX9_bestOf cy aM qM vM vM_st vM_trial vM_r) := by rw [← hAe]; exact hD0.self
  have hA : ∀ q : Nat, s.heap.size ≤ q → A q := fun q h => by rw [← hAe]; exact Or.inr h
  have hS : va_S A s.heap s.heap [] := va_S.rf
  have hl := lv_entry ([.ref aM, .int x1]) (n := 6) (Nat.le_of_ble_eq_true rfl)
  rw [lg_entry_eq]
  generalize (lg_sl ([.ref aM, .int x1]) ++ List.replicate (6 - (lg_sl ([.ref aM, .int x1])).length) Slot.unset).toArray = ls at hl ⊢
  have hl : lv_has ls 6 [(0, .ref aM), (1, .int x1)] := hl
  generalize hQe : MQ below (kQi D cy zr A (wX9_bestOf cy aM qM vM vM_st z_vM_trial vM_r)) ([.ref aM, .int x1] : List Value).toArray s 0 0 A = Q
  have L16 : ∀ (fuel : Nat) (y2_16 : Int32) (y3_16 : Int32) (y4_16 : Int32) (vM_trial_16 : Nat → Int32), ∀ (H : Heap) (locs : List Loc) (ls : Array Slot), va_P D vwCl (wX9_bestOf cy aM qM vM vM_st vM_trial_16 vM_r) H → va_D A (wX9_bestOf cy aM qM vM vM_st vM_trial_16 vM_r) → va_S A s.heap H locs → lv_has ls 6 [(0, .ref aM), (1, .int x1), (2, .int y2_16), (3, .int y3_16), (4, .int y4_16)] → lp (fX9_bestOf_B16 vM vM_st vM_r x1) fuel (y2_16, y3_16, y4_16, vM_trial_16) = some (zr, z_vM_trial) → W p l e ({ frames := 6, cells := 0, slots := 0, locals := 139 } : Room) s m ([.ref aM, .int x1] : List Value).toArray below meth c H locs 0 0 Q (F0 m 16 ls []) := by
    intro fuel
    induction fuel with
    | zero => intro y2_16 y3_16 y4_16 vM_trial_16 H locs ls hP hD hS hl hok; exact (lp_0 hok).elim
    | succ fuel ih16 =>
      intro y2_16 y3_16 y4_16 vM_trial_16 H locs ls hP hD hS hl hok
      obtain ⟨y16, hok, hL16, hR16⟩ := lp_step hok
      have J87 : ∀ (y2_87 : Int32) (y3_87 : Int32) (vM_trial_87 : Nat → Int32), ∀ (H : Heap) (locs : List Loc) (ls : Array Slot), va_P D vwCl (wX9_bestOf cy aM qM vM vM_st vM_trial_87 vM_r) H → va_D A (wX9_bestOf cy aM qM vM vM_st vM_trial_87 vM_r) → va_S A s.heap H locs → lv_has ls 6 [(0, .ref aM), (1, .int x1), (2, .int y2_87), (3, .int y3_87), (4, .int y4_16)] → fX9_bestOf_J87 y4_16 y2_87 y3_87 vM_trial_87 = some y16 → W p l e ({ frames := 6, cells := 0, slots := 0, locals := 139 } : Room) s m ([.ref aM, .int x1] : List Value).toArray below meth c H locs 0 0 Q (F0 m 87 ls []) := by
        intro y2_87 y3_87 vM_trial_87 H locs ls hP hD hS hl hok
        unfold fX9_bestOf_J87 at hok
        refine lv_iinc (v := (y4_16 + 1)) (lv' := [(4, .int (y4_16 + 1)), (0, .ref aM), (1, .int x1), (2, .int y2_87), (3, .int y3_87)]) hx hb dX9_bestOf_87 hl (k := 4) rfl (by first | rfl | decide) (by decide) rfl (fun ls hl => ?_)
        refine lv_goto (tgt := 16) hx hb dX9_bestOf_90 (by decide) ?_
        exact ih16 y2_87 y3_87 (y4_16 + 1) vM_trial_87 H locs ls hP hD hS (lv_sub hl [1, 2, 3, 4, 0] rfl) (hR16 _ (Option.some.inj hok).symm)
      have J81 : ∀ (y5_81 : Int32) (vM_trial_81 : Nat → Int32), ∀ (H : Heap) (locs : List Loc) (ls : Array Slot), va_P D vwCl (wX9_bestOf cy aM qM vM vM_st vM_trial_81 vM_r) H → va_D A (wX9_bestOf cy aM qM vM vM_st vM_trial_81 vM_r) → va_S A s.heap H locs → lv_has ls 6 [(0, .ref aM), (1, .int x1), (4, .int y4_16), (5, .int y5_81)] → fX9_bestOf_J81 y4_16 y5_81 vM_trial_81 = some y16 → W p l e ({ frames := 6, cells := 0, slots := 0, locals := 139 } : Room) s m ([.ref aM, .int x1] : List Value).toArray below meth c H locs 0 0 Q (F0 m 81 ls []) := by
        intro y5_81 vM_trial_81 H locs ls hP hD hS hl hok
        unfold fX9_bestOf_J81 at hok
        refine lv_iload hx hb dX9_bestOf_81 (lv_at hl 2 rfl) ?_
        refine lv_istore_n (lv' := [(2, .int y4_16), (0, .ref aM), (1, .int x1), (4, .int y4_16), (5, .int y5_81)]) hx hb dX9_bestOf_83 rfl hl (by decide) rfl (fun ls hl => ?_)
        refine lv_iload hx hb dX9_bestOf_84 (lv_at hl 4 rfl) ?_
        refine lv_istore_n (lv' := [(3, .int y5_81), (2, .int y4_16), (0, .ref aM), (1, .int x1), (4, .int y4_16), (5, .int y5_81)]) hx hb dX9_bestOf_86 rfl hl (by decide) rfl (fun ls hl => ?_)
        exact J87 y4_16 y5_81 vM_trial_81 H locs ls hP hD hS (lv_sub hl [2, 3, 1, 0, 4] rfl) hok
      unfold fX9_bestOf_B16 at hok
      try dsimp only at hok
      refine lv_iload hx hb dX9_bestOf_16 (lv_at hl 4 rfl) ?_
      refine lv_aload_n hx hb dX9_bestOf_18 rfl (lv_at hl 0 rfl) ?_
      obtain ⟨r19, hc19, hok⟩ := k_bind hok
      refine kCi (wc := (wX9_allThings cy aM qM vM vM_r)) (wc2 := (wX9_allThings cy aM qM vM vM_r)) (wr := [(qM 17, rI cy 9 vM_st), (qM 22, rI cy 9 vM_trial_16)]) (ws2 := (wX9_bestOf cy aM qM vM vM_st vM_trial_16 vM_r)) (kRunV (As := []) (rest := [.int y4_16]) ⟨hx, hb, hml, hown, ht0⟩ (kX9_allThings l D cy _ aM qM vM vM_r r19 hc19 _ rfl) (cwV 0 ht0 (gV wd966 wd967 wd968 wd744 wd969) rfl rfl rfl (by decide +kernel) ⟨Nat.le_of_ble_eq_true rfl, Nat.le_of_ble_eq_true rfl⟩) hK hN hP hD [0, 3] rfl (by decide) 0 8 rfl rfl rfl hl.1 rfl (Nat.le_of_ble_eq_true rfl) dX9_bestOf_19 ⟨Nat.zero_le _, Nat.zero_le _⟩) hP hD hS hA [0, 3] [1, 2] rfl rfl (by decide) (by decide) [2, 0, 1, 3] (by decide) rfl rfl (fun H locs hP hD hS => ?_)
      refine lv_icmp_gt (tgt := 93) hx hb dX9_bestOf_22 (by decide) (fun c22 => ?_) (fun c22 => ?_)
      · have hok := k_pos c22 hok
        obtain ⟨e16, hok, he16⟩ := ex_some hok
        have hok := hok.trans (congrArg some (hL16 _ he16))
        refine lv_iload_n hx hb dX9_bestOf_93 rfl (lv_at hl 2 rfl) ?_
        cases hok
        subst hQe; exact W.iret hx hb hr (fun t ht hW => ⟨⟨_, (), rfl, rfl, by rw [ht]; exact hP, va_K.moved hW.alike hK, hD⟩, hS.F ht⟩) hS.2.2 dX9_bestOf_94
      · have hok := k_neg c22 hok
        refine lv_iload hx hb dX9_bestOf_25 (lv_at hl 4 rfl) ?_
        refine lv_aload_n hx hb dX9_bestOf_27 rfl (lv_at hl 0 rfl) ?_
        refine va_get (D := D) (ci := 8) (v := .ref (qM 17)) (C := RX9) (T := TX9) (N := 29) hx hb ht0 niX9 hown hK hP 0 rfl rfl 17 (by decide) (ht0 _ wd858) (fun _ h9 => h9) rfl dX9_bestOf_28 ?_
        refine lv_bipush (v := 7) hx hb dX9_bestOf_31 (by decide) ?_
        obtain ⟨g33, hok⟩ := gd_some hok
        refine va_iald hx hb hK hP 1 0 rfl rfl (okI_in g33) dX9_bestOf_33 ?_
        refine lv_iand hx hb dX9_bestOf_34 ?_
        refine lv_if_eq (tgt := 41) hx hb dX9_bestOf_35 (by decide) (fun c35 => ?_) (fun c35 => ?_)
        · have hok := k_pos c35 hok
          refine lv_aload_n hx hb dX9_bestOf_41 rfl (lv_at hl 0 rfl) ?_
          refine lv_aload_n hx hb dX9_bestOf_42 rfl (lv_at hl 0 rfl) ?_
          refine lv_iload hx hb dX9_bestOf_43 (lv_at hl 4 rfl) ?_
          refine lv_iload_n hx hb dX9_bestOf_45 rfl (lv_at hl 1 rfl) ?_
          obtain ⟨⟨r46, vM_trial_46⟩, hc46, hok⟩ := k_bind hok
          try dsimp only at hok
          refine kCi (wc := (wX9_keptBy cy aM qM vM vM_st vM_trial_16 vM_r)) (wc2 := (wX9_keptBy cy aM qM vM vM_st vM_trial_46 vM_r)) (wr := []) (ws2 := (wX9_bestOf cy aM qM vM vM_st vM_trial_46 vM_r)) (kRunV (As := [.int y4_16, .int x1]) (rest := [.ref aM]) ⟨hx, hb, hml, hown, ht0⟩ (kX9_keptBy l D cy _ aM qM vM vM_st vM_trial_16 vM_r y4_16 x1 r46 vM_trial_46 hc46 _ rfl) (cwV 2 ht0 (gV wd974 wd975 wd976 wd744 wd977) rfl rfl rfl (by decide +kernel) ⟨Nat.le_of_ble_eq_true rfl, Nat.le_of_ble_eq_true rfl⟩) hK hN hP hD [0, 1, 2, 3] rfl (by decide) 0 8 rfl rfl rfl hl.1 rfl (Nat.le_of_ble_eq_true rfl) dX9_bestOf_46 ⟨Nat.zero_le _, Nat.zero_le _⟩) hP hD hS hA [0, 1, 2, 3] [] rfl rfl (by decide) (by decide) [0, 1, 2, 3] (by decide) rfl rfl (fun H locs hP hD hS => ?_)
          obtain ⟨r49, hc49, hok⟩ := k_bind hok
          refine kCi (wc := (wX9_payOf cy aM qM vM vM_r)) (wc2 := (wX9_payOf cy aM qM vM vM_r)) (wr := [(qM 17, rI cy 9 vM_st), (qM 22, rI cy 9 vM_trial_46)]) (ws2 := (wX9_bestOf cy aM qM vM vM_st vM_trial_46 vM_r)) (kRunV (As := [.int r46]) (rest := []) ⟨hx, hb, hml, hown, ht0⟩ (kX9_payOf l D cy _ aM qM vM vM_r r46 r49 hc49 _ rfl) (cwV 1 ht0 (gV wd978 wd979 wd980 wd744 wd981) rfl rfl rfl (by decide +kernel) ⟨Nat.le_of_ble_eq_true rfl, Nat.le_of_ble_eq_true rfl⟩) hK hN hP hD [0, 3] rfl (by decide) 0 8 rfl rfl rfl hl.1 rfl (Nat.le_of_ble_eq_true rfl) dX9_bestOf_49 ⟨Nat.zero_le _, Nat.zero_le _⟩) hP hD hS hA [0, 3] [1, 2] rfl rfl (by decide) (by decide) [2, 0, 1, 3] (by decide) rfl rfl (fun H locs hP hD hS => ?_)
          refine lv_istore (lv' := [(5, .int r49), (0, .ref aM), (1, .int x1), (2, .int y2_16), (3, .int y3_16), (4, .int y4_16)]) hx hb dX9_bestOf_52 hl (by decide) rfl (fun ls hl => ?_)
          refine lv_iload hx hb dX9_bestOf_54 (lv_at hl 0 rfl) ?_
          refine lv_iload_n hx hb dX9_bestOf_56 rfl (lv_at hl 4 rfl) ?_
          refine lv_icmp_lt (tgt := 87) hx hb dX9_bestOf_57 (by decide) (fun c57 => ?_) (fun c57 => ?_)
          · have hok := k_pos c57 hok
            exact J87 y2_16 y3_16 vM_trial_46 H locs ls hP hD hS (lv_sub hl [1, 2, 3, 4, 5] rfl) hok
          · have hok := k_neg c57 hok
            refine lv_iload hx hb dX9_bestOf_60 (lv_at hl 0 rfl) ?_
            refine lv_iload_n hx hb dX9_bestOf_62 rfl (lv_at hl 4 rfl) ?_
            refine lv_icmp_ne (tgt := 81) hx hb dX9_bestOf_63 (by decide) (fun c63 => ?_) (fun c63 => ?_)
            · have hok := k_neg c63 hok
              exact J81 r49 vM_trial_46 H locs ls hP hD hS (lv_sub hl [1, 2, 5, 0] rfl) hok
            · have hok := k_pos c63 hok
              refine lv_iload hx hb dX9_bestOf_66 (lv_at hl 5 rfl) ?_
              obtain ⟨r68, hc68, hok⟩ := k_bind hok
              refine kCi (wc := (wX9_ones cy )) (wc2 := (wX9_ones cy )) (wr := [(aM, oX9 vM qM), (qM 17, rI cy 9 vM_st), (qM 22, rI cy 9 vM_trial_46), (qM 15, rI cy 224 vM_r)]) (ws2 := (wX9_bestOf cy aM qM vM vM_st vM_trial_46 vM_r)) (kRunS (As := [.int y4_16]) (rest := []) ⟨hx, hb, hml, hown, ht0⟩ (kX9_ones l D cy _ y4_16 r68 hc68 _ rfl) (va_cwS 1 ht0 (gS wd922 wd923 wd744 wd924) rfl rfl rfl (by decide +kernel) ⟨Nat.le_of_ble_eq_true rfl, Nat.le_of_ble_eq_true rfl⟩) hK hN hP hD [] rfl (by decide) rfl hl.1 rfl (Nat.le_of_ble_eq_true rfl) dX9_bestOf_68 ⟨Nat.zero_le _, Nat.zero_le _⟩) hP hD hS hA [] [0, 1, 2, 3] rfl rfl (by decide) (by decide) [0, 1, 2, 3] (by decide) rfl rfl (fun H locs hP hD hS => ?_)
              refine lv_iload_n hx hb dX9_bestOf_71 rfl (lv_at hl 3 rfl) ?_
              obtain ⟨r72, hc72, hok⟩ := k_bind hok
              refine kCi (wc := (wX9_ones cy )) (wc2 := (wX9_ones cy )) (wr := [(aM, oX9 vM qM), (qM 17, rI cy 9 vM_st), (qM 22, rI cy 9 vM_trial_46), (qM 15, rI cy 224 vM_r)]) (ws2 := (wX9_bestOf cy aM qM vM vM_st vM_trial_46 vM_r)) (kRunS (As := [.int y2_16]) (rest := [.int r68]) ⟨hx, hb, hml, hown, ht0⟩ (kX9_ones l D cy _ y2_16 r72 hc72 _ rfl) (va_cwS 1 ht0 (gS wd922 wd923 wd744 wd924) rfl rfl rfl (by decide +kernel) ⟨Nat.le_of_ble_eq_true rfl, Nat.le_of_ble_eq_true rfl⟩) hK hN hP hD [] rfl (by decide) rfl hl.1 rfl (Nat.le_of_ble_eq_true rfl) dX9_bestOf_72 ⟨Nat.zero_le _, Nat.zero_le _⟩) hP hD hS hA [] [0, 1, 2, 3] rfl rfl (by decide) (by decide) [0, 1, 2, 3] (by decide) rfl rfl (fun H locs hP hD hS => ?_)
              refine lv_icmp_lt (tgt := 81) hx hb dX9_bestOf_75 (by decide) (fun c75 => ?_) (fun c75 => ?_)
              · have hok := k_pos c75 hok
                exact J81 r49 vM_trial_46 H locs ls hP hD hS (lv_sub hl [1, 2, 5, 0] rfl) hok
              · have hok := k_neg c75 hok
                refine lv_goto (tgt := 87) hx hb dX9_bestOf_78 (by decide) ?_
                exact J87 y2_16 y3_16 vM_trial_46 H locs ls hP hD hS (lv_sub hl [1, 2, 3, 4, 5] rfl) hok
        · have hok := k_neg c35 hok
          refine lv_goto (tgt := 87) hx hb dX9_bestOf_38 (by decide) ?_
          exact J87 y2_16 y3_16 vM_trial_16 H locs ls hP hD hS (lv_sub hl [0, 1, 2, 3, 4] rfl) hok
  unfold fX9_bestOf at hok
  obtain ⟨H, hH⟩ : ∃ H, H = s.heap := ⟨_, rfl⟩
  obtain ⟨locs, hlc⟩ : ∃ x : List Loc, x = [] := ⟨_, rfl⟩
  have hP : va_P D vwCl (wX9_bestOf cy aM qM vM vM_st vM_trial vM_r) H := by rw [hH]; exact hP
  have hS : va_S A s.heap H locs := by rw [hH, hlc]; exact hS
  rw [show W p l e _ s m _ below meth c s.heap [] = W p l e _ s m _ below meth c H locs from by rw [hH, hlc]]
  refine lv_iconst (v := 0) hx hb dX9_bestOf_0 (by decide) ?_
  refine lv_istore_n (lv' := [(2, .int 0), (0, .ref aM), (1, .int x1)]) hx hb dX9_bestOf_1 rfl hl (by decide) rfl (fun ls hl => ?_)
  refine lv_aload_n hx hb dX9_bestOf_2 rfl (lv_at hl 1 rfl) ?_
  refine lv_aload_n hx hb dX9_bestOf_3 rfl (lv_at hl 1 rfl) ?_
  refine lv_iconst (v := 0) hx hb dX9_bestOf_4 (by decide) ?_
  refine lv_iload_n hx hb dX9_bestOf_5 rfl (lv_at hl 2 rfl) ?_
  obtain ⟨⟨r6, vM_trial_6⟩, hc6, hok⟩ := k_bind hok
  try dsimp only at hok
  refine kCi (wc := (wX9_keptBy cy aM qM vM vM_st vM_trial vM_r)) (wc2 := (wX9_keptBy cy aM qM vM vM_st vM_trial_6 vM_r)) (wr := []) (ws2 := (wX9_bestOf cy aM qM vM vM_st vM_trial_6 vM_r)) (kRunV (As := [.int 0, .int x1]) (rest := [.ref aM]) ⟨hx, hb, hml, hown, ht0⟩ (kX9_keptBy l D cy _ aM qM vM vM_st vM_trial vM_r (0 : Int32) x1 r6 vM_trial_6 hc6 _ rfl) (cwV 2 ht0 (gV wd974 wd975 wd976 wd744 wd977) rfl rfl rfl (by decide +kernel) ⟨Nat.le_of_ble_eq_true rfl, Nat.le_of_ble_eq_true rfl⟩) hK hN hP hD [0, 1, 2, 3] rfl (by decide) 0 8 rfl rfl rfl hl.1 rfl (Nat.le_of_ble_eq_true rfl) dX9_bestOf_6 ⟨Nat.zero_le _, Nat.zero_le _⟩) hP hD hS hA [0, 1, 2, 3] [] rfl rfl (by decide) (by decide) [0, 1, 2, 3] (by decide) rfl rfl (fun H locs hP hD hS => ?_)
  obtain ⟨r9, hc9, hok⟩ := k_bind hok
  refine kCi (wc := (wX9_payOf cy aM qM vM vM_r)) (wc2 := (wX9_payOf cy aM qM vM vM_r)) (wr := [(qM 17, rI cy 9 vM_st), (qM 22, rI cy 9 vM_trial_6)]) (ws2 := (wX9_bestOf cy aM qM vM vM_st vM_trial_6 vM_r)) (kRunV (As := [.int r6]) (rest := []) ⟨hx, hb, hml, hown, ht0⟩ (kX9_payOf l D cy _ aM qM vM vM_r r6 r9 hc9 _ rfl) (cwV 1 ht0 (gV wd978 wd979 wd980 wd744 wd981) rfl rfl rfl (by decide +kernel) ⟨Nat.le_of_ble_eq_true rfl, Nat.le_of_ble_eq_true rfl⟩) hK hN hP hD [0, 3] rfl (by decide) 0 8 rfl rfl rfl hl.1 rfl (Nat.le_of_ble_eq_true rfl) dX9_bestOf_9 ⟨Nat.zero_le _, Nat.zero_le _⟩) hP hD hS hA [0, 3] [1, 2] rfl rfl (by decide) (by decide) [2, 0, 1, 3] (by decide) rfl rfl (fun H locs hP hD hS => ?_)
  refine lv_istore_n (lv' := [(3, .int r9), (2, .int 0), (0, .ref aM), (1, .int x1)]) hx hb dX9_bestOf_12 rfl hl (by decide) rfl (fun ls hl => ?_)
  refine lv_iconst (v := 1) hx hb dX9_bestOf_13 (by decide) ?_
  refine lv_istore (lv' := [(4, .int 1), (3, .int r9), (2, .int 0), (0, .ref aM), (1, .int x1)]) hx hb dX9_bestOf_14 hl (by decide) rfl (fun ls hl => ?_)
  exact L16 5000 (0 : Int32) r9 (1 : Int32) vM_trial_6 H locs ls hP hD hS (lv_sub hl [3, 4, 2, 1, 0] rfl) hok
def wsX9_pays : List Cond := .code yX9_pays cX9_pays 3 (some .int) :: W0
abbrev wX9_pays (cy : Nat → ClassId) (aM : Nat) (qM : Nat → Nat) (vM : Nat → Int32) (vM_st : Nat → Int32) (vM_trial : Nat → Int32) (vM_r : Nat → Int32) : va_W := [(aM, oX9 vM qM), (qM 17, rI cy 9 vM_st), (qM 22, rI cy 9 vM_trial), (qM 15, rI cy 224 vM_r)]
set_option maxHeartbeats 4000000 in
set_option maxRecDepth 100000 in
theorem kX9_pays (l : Launch) (D : va_G) (cy : Nat → ClassId) (sz : Nat) (aM : Nat) (qM : Nat → Nat) (vM : Nat → Int32) (vM_st : Nat → Int32) (vM_trial : Nat → Int32) (vM_r : Nat → Int32) (x1 : Int32) (zr : Int32) (z_vM : Nat → Int32) (z_vM_trial : Nat → Int32) (hok : fX9_pays vM vM_st vM_trial vM_r x1 = some (zr, z_vM, z_vM_trial)) (A : Nat → Prop) (hAe : va_A (wX9_pays cy aM qM vM vM_st vM_trial vM_r) sz = A) : Met l yX9_pays wsX9_pays ({ frames := 6, cells := 0, slots := 0, locals := 139 } : Room) (kPre D cy [.ref aM, .int x1] (wX9_pays cy aM qM vM vM_st vM_trial vM_r) sz) (kQi D cy zr A (wX9_pays cy aM qM z_vM vM_st z_vM_trial vM_r)) 0 0 A := by
  refine Met.ofW (cc := cX9_pays) (maxL := 3) (ret := (some .int)) (by decide) rfl ?_
  intro p e s m args below meth c s₁ B hml hv
  obtain ⟨rfl, hsz, hP, hK, hD0, hN⟩ := hv
  have hx := B.exec
  have hb := B.bytes
  have hr := B.returns
  have ht0 : ∀ w ∈ W0, w.before _ s = true := fun w h => atoms_spec (ws := wsX9_pays) B.pre w (List.mem_cons_of_mem _ h)
  have hown : s.vm.findClass RX9 = some m.cls := findClass_of_methodNamed B.named
  have hlocks := B.notSynchronized
  subst hsz
  have hD : va_D A (wX9_pays cy aM qM vM vM_st vM_trial vM_r) := by rw [← hAe]; exact hD0.self
  have hA : ∀ q : Nat, s.heap.size ≤ q → A q := fun q h => by rw [← hAe]; exact Or.inr h
  have hS : va_S A s.heap s.heap [] := va_S.rf
  have hl := lv_entry ([.ref aM, .int x1]) (n := 3) (Nat.le_of_ble_eq_true rfl)
  rw [lg_entry_eq]
  generalize (lg_sl ([.ref aM, .int x1]) ++ List.replicate (3 - (lg_sl ([.ref aM, .int x1])).length) Slot.unset).toArray = ls at hl ⊢
  have hl : lv_has ls 3 [(0, .ref aM), (1, .int x1)] := hl
  generalize hQe : MQ below (kQi D cy zr A (wX9_pays cy aM qM z_vM vM_st z_vM_trial vM_r)) ([.ref aM, .int x1] : List Value).toArray s 0 0 A = Q
  have J38 : ∀ (t0_38 : Int32) (vM_trial_38 : Nat → Int32) (vM_38 : Nat → Int32), ∀ (H : Heap) (locs : List Loc) (ls : Array Slot), va_P D vwCl (wX9_pays cy aM qM vM_38 vM_st vM_trial_38 vM_r) H → va_D A (wX9_pays cy aM qM vM_38 vM_st vM_trial_38 vM_r) → va_S A s.heap H locs → lv_has ls 3 [] → fX9_pays_J38 t0_38 vM_trial_38 vM_38 = some (zr, z_vM, z_vM_trial) → W p l e ({ frames := 6, cells := 0, slots := 0, locals := 139 } : Room) s m ([.ref aM, .int x1] : List Value).toArray below meth c H locs 0 0 Q (F0 m 38 ls [.int t0_38]) := by
    intro t0_38 vM_trial_38 vM_38 H locs ls hP hD hS hl hok
    unfold fX9_pays_J38 at hok
    cases hok
    subst hQe; exact W.iret hx hb hr (fun t ht hW => ⟨⟨_, (), rfl, rfl, by rw [ht]; exact hP, va_K.moved hW.alike hK, hD⟩, hS.F ht⟩) hS.2.2 dX9_pays_38
  unfold fX9_pays at hok
  obtain ⟨H, hH⟩ : ∃ H, H = s.heap := ⟨_, rfl⟩
  obtain ⟨locs, hlc⟩ : ∃ x : List Loc, x = [] := ⟨_, rfl⟩
  have hP : va_P D vwCl (wX9_pays cy aM qM vM vM_st vM_trial vM_r) H := by rw [hH]; exact hP
  have hS : va_S A s.heap H locs := by rw [hH, hlc]; exact hS
  rw [show W p l e _ s m _ below meth c s.heap [] = W p l e _ s m _ below meth c H locs from by rw [hH, hlc]]
  refine lv_aload_n hx hb dX9_pays_0 rfl (lv_at hl 0 rfl) ?_
  obtain ⟨vM_1, hc1, hok⟩ := k_bind hok
  refine kCv (wc := (wX9_good cy aM qM vM)) (wc2 := (wX9_good cy aM qM vM_1)) (wr := [(qM 17, rI cy 9 vM_st), (qM 22, rI cy 9 vM_trial), (qM 15, rI cy 224 vM_r)]) (ws2 := (wX9_pays cy aM qM vM_1 vM_st vM_trial vM_r)) (kRunV (As := []) (rest := []) ⟨hx, hb, hml, hown, ht0⟩ (kX9_good l D cy _ aM qM vM vM_1 hc1 _ rfl) (cwV 0 ht0 (gV wd870 wd871 wd872 wd744 wd873) rfl rfl rfl (by decide +kernel) ⟨Nat.le_of_ble_eq_true rfl, Nat.le_of_ble_eq_true rfl⟩) hK hN hP hD [0] rfl (by decide) 0 8 rfl rfl rfl hl.1 rfl (Nat.le_of_ble_eq_true rfl) dX9_pays_1 ⟨Nat.zero_le _, Nat.zero_le _⟩) hP hD hS hA [0] [1, 2, 3] rfl rfl (by decide) (by decide) [3, 0, 1, 2] (by decide) rfl rfl (fun H locs hP hD hS => ?_)
  refine lv_aload_n hx hb dX9_pays_4 rfl (lv_at hl 0 rfl) ?_
  refine lv_aload_n hx hb dX9_pays_5 rfl (lv_at hl 0 rfl) ?_
  refine va_get (D := D) (ci := 8) (v := .int (vM_1 14)) (C := RX9) (T := TX9) (N := 29) hx hb ht0 niX9 hown hK hP 0 rfl rfl 14 (by decide) (ht0 _ wd855) (fun _ h9 => h9) rfl dX9_pays_6 ?_
  refine lv_iload_n hx hb dX9_pays_9 rfl (lv_at hl 1 rfl) ?_
  refine lv_bipush (v := 60) hx hb dX9_pays_10 (by decide) ?_
  obtain ⟨r12, hc12, hok⟩ := k_bind hok
  refine kCi (wc := (wX9_why cy aM)) (wc2 := (wX9_why cy aM)) (wr := [(aM, oX9 vM_1 qM), (qM 17, rI cy 9 vM_st), (qM 22, rI cy 9 vM_trial), (qM 15, rI cy 224 vM_r)]) (ws2 := (wX9_pays cy aM qM vM_1 vM_st vM_trial vM_r)) (kRunV (As := [.int (vM_1 14), .int x1, .int 60]) (rest := []) ⟨hx, hb, hml, hown, ht0⟩ (kX9_why l D cy _ aM (vM_1 14) x1 (60 : Int32) r12 hc12 _ rfl) (cwV 3 ht0 (gV wd944 wd945 wd946 wd744 wd947) rfl rfl rfl (by decide +kernel) ⟨Nat.le_of_ble_eq_true rfl, Nat.le_of_ble_eq_true rfl⟩) hK hN hP hD [] rfl (by decide) 0 8 rfl rfl rfl hl.1 rfl (Nat.le_of_ble_eq_true rfl) dX9_pays_12 ⟨Nat.zero_le _, Nat.zero_le _⟩) hP hD hS hA [] [0, 1, 2, 3] rfl rfl (by decide) (by decide) [0, 1, 2, 3] (by decide) rfl rfl (fun H locs hP hD hS => ?_)
  refine lv_istore_n (lv' := [(2, .int r12), (0, .ref aM), (1, .int x1)]) hx hb dX9_pays_15 rfl hl (by decide) rfl (fun ls hl => ?_)
  refine lv_iload_n hx hb dX9_pays_16 rfl (lv_at hl 0 rfl) ?_
  refine lv_if_eq (tgt := 28) hx hb dX9_pays_17 (by decide) (fun c17 => ?_) (fun c17 => ?_)
  · have hok := k_pos c17 hok
    refine lv_aload_n hx hb dX9_pays_28 rfl (lv_at hl 1 rfl) ?_
    refine lv_aload_n hx hb dX9_pays_29 rfl (lv_at hl 1 rfl) ?_
    refine lv_iconst (v := 0) hx hb dX9_pays_30 (by decide) ?_
    refine lv_iload_n hx hb dX9_pays_31 rfl (lv_at hl 2 rfl) ?_
    obtain ⟨⟨r32, vM_trial_32⟩, hc32, hok⟩ := k_bind hok
    try dsimp only at hok
    refine kCi (wc := (wX9_keptBy cy aM qM vM_1 vM_st vM_trial vM_r)) (wc2 := (wX9_keptBy cy aM qM vM_1 vM_st vM_trial_32 vM_r)) (wr := []) (ws2 := (wX9_pays cy aM qM vM_1 vM_st vM_trial_32 vM_r)) (kRunV (As := [.int 0, .int x1]) (rest := [.ref aM]) ⟨hx, hb, hml, hown, ht0⟩ (kX9_keptBy l D cy _ aM qM vM_1 vM_st vM_trial vM_r (0 : Int32) x1 r32 vM_trial_32 hc32 _ rfl) (cwV 2 ht0 (gV wd974 wd975 wd976 wd744 wd977) rfl rfl rfl (by decide +kernel) ⟨Nat.le_of_ble_eq_true rfl, Nat.le_of_ble_eq_true rfl⟩) hK hN hP hD [0, 1, 2, 3] rfl (by decide) 0 8 rfl rfl rfl hl.1 rfl (Nat.le_of_ble_eq_true rfl) dX9_pays_32 ⟨Nat.zero_le _, Nat.zero_le _⟩) hP hD hS hA [0, 1, 2, 3] [] rfl rfl (by decide) (by decide) [0, 1, 2, 3] (by decide) rfl rfl (fun H locs hP hD hS => ?_)
    obtain ⟨r35, hc35, hok⟩ := k_bind hok
    refine kCi (wc := (wX9_payOf cy aM qM vM_1 vM_r)) (wc2 := (wX9_payOf cy aM qM vM_1 vM_r)) (wr := [(qM 17, rI cy 9 vM_st), (qM 22, rI cy 9 vM_trial_32)]) (ws2 := (wX9_pays cy aM qM vM_1 vM_st vM_trial_32 vM_r)) (kRunV (As := [.int r32]) (rest := []) ⟨hx, hb, hml, hown, ht0⟩ (kX9_payOf l D cy _ aM qM vM_1 vM_r r32 r35 hc35 _ rfl) (cwV 1 ht0 (gV wd978 wd979 wd980 wd744 wd981) rfl rfl rfl (by decide +kernel) ⟨Nat.le_of_ble_eq_true rfl, Nat.le_of_ble_eq_true rfl⟩) hK hN hP hD [0, 3] rfl (by decide) 0 8 rfl rfl rfl hl.1 rfl (Nat.le_of_ble_eq_true rfl) dX9_pays_35 ⟨Nat.zero_le _, Nat.zero_le _⟩) hP hD hS hA [0, 3] [1, 2] rfl rfl (by decide) (by decide) [2, 0, 1, 3] (by decide) rfl rfl (fun H locs hP hD hS => ?_)
    exact J38 r35 vM_trial_32 vM_1 H locs ls hP hD hS (lv_sub hl [] rfl) hok
  · have hok := k_neg c17 hok
    refine lv_aload_n hx hb dX9_pays_20 rfl (lv_at hl 1 rfl) ?_
    refine lv_iload_n hx hb dX9_pays_21 rfl (lv_at hl 0 rfl) ?_
    obtain ⟨⟨r22, vM_22⟩, hc22, hok⟩ := k_bind hok
    try dsimp only at hok
    refine kCi (wc := (wX9_no cy aM qM vM_1)) (wc2 := (wX9_no cy aM qM vM_22)) (wr := [(qM 17, rI cy 9 vM_st), (qM 22, rI cy 9 vM_trial), (qM 15, rI cy 224 vM_r)]) (ws2 := (wX9_pays cy aM qM vM_22 vM_st vM_trial vM_r)) (kRunV (As := [.int r12]) (rest := []) ⟨hx, hb, hml, hown, ht0⟩ (kX9_no l D cy _ aM qM vM_1 r12 r22 vM_22 hc22 _ rfl) (cwV 1 ht0 (gV wd862 wd863 wd864 wd744 wd865) rfl rfl rfl (by decide +kernel) ⟨Nat.le_of_ble_eq_true rfl, Nat.le_of_ble_eq_true rfl⟩) hK hN hP hD [0] rfl (by decide) 0 8 rfl rfl rfl hl.1 rfl (Nat.le_of_ble_eq_true rfl) dX9_pays_22 ⟨Nat.zero_le _, Nat.zero_le _⟩) hP hD hS hA [0] [1, 2, 3] rfl rfl (by decide) (by decide) [3, 0, 1, 2] (by decide) rfl rfl (fun H locs hP hD hS => ?_)
    refine lv_goto (tgt := 38) hx hb dX9_pays_25 (by decide) ?_
    exact J38 r22 vM_trial vM_22 H locs ls hP hD hS (lv_sub hl [] rfl) hok
def wsX9_best : List Cond := .code yX9_best cX9_best 3 (some .int) :: W0
abbrev wX9_best (cy : Nat → ClassId) (aM : Nat) (qM : Nat → Nat) (vM : Nat → Int32) (vM_st : Nat → Int32) (vM_trial : Nat → Int32) (vM_r : Nat → Int32) : va_W := [(aM, oX9 vM qM), (qM 17, rI cy 9 vM_st), (qM 22, rI cy 9 vM_trial), (qM 15, rI cy 224 vM_r)]
set_option maxHeartbeats 4000000 in
set_option maxRecDepth 100000 in
theorem kX9_best (l : Launch) (D : va_G) (cy : Nat → ClassId) (sz : Nat) (aM : Nat) (qM : Nat → Nat) (vM : Nat → Int32) (vM_st : Nat → Int32) (vM_trial : Nat → Int32) (vM_r : Nat → Int32) (x1 : Int32) (zr : Int32) (z_vM : Nat → Int32) (z_vM_trial : Nat → Int32) (hok : fX9_best vM vM_st vM_trial vM_r x1 = some (zr, z_vM, z_vM_trial)) (A : Nat → Prop) (hAe : va_A (wX9_best cy aM qM vM vM_st vM_trial vM_r) sz = A) : Met l yX9_best wsX9_best ({ frames := 7, cells := 0, slots := 0, locals := 164 } : Room) (kPre D cy [.ref aM, .int x1] (wX9_best cy aM qM vM vM_st vM_trial vM_r) sz) (kQi D cy zr A (wX9_best cy aM qM z_vM vM_st z_vM_trial vM_r)) 0 0 A := by
  refine Met.ofW (cc := cX9_best) (maxL := 3) (ret := (some .int)) (by decide) rfl ?_
  intro p e s m args below meth c s₁ B hml hv
  obtain ⟨rfl, hsz, hP, hK, hD0, hN⟩ := hv
  have hx := B.exec
  have hb := B.bytes
  have hr := B.returns
  have ht0 : ∀ w ∈ W0, w.before _ s = true := fun w h => atoms_spec (ws := wsX9_best) B.pre w (List.mem_cons_of_mem _ h)
  have hown : s.vm.findClass RX9 = some m.cls := findClass_of_methodNamed B.named
  have hlocks := B.notSynchronized
  subst hsz
  have hD : va_D A (wX9_best cy aM qM vM vM_st vM_trial vM_r) := by rw [← hAe]; exact hD0.self
  have hA : ∀ q : Nat, s.heap.size ≤ q → A q := fun q h => by rw [← hAe]; exact Or.inr h
  have hS : va_S A s.heap s.heap [] := va_S.rf
  have hl := lv_entry ([.ref aM, .int x1]) (n := 3) (Nat.le_of_ble_eq_true rfl)
  rw [lg_entry_eq]
  generalize (lg_sl ([.ref aM, .int x1]) ++ List.replicate (3 - (lg_sl ([.ref aM, .int x1])).length) Slot.unset).toArray = ls at hl ⊢
  have hl : lv_has ls 3 [(0, .ref aM), (1, .int x1)] := hl
  generalize hQe : MQ below (kQi D cy zr A (wX9_best cy aM qM z_vM vM_st z_vM_trial vM_r)) ([.ref aM, .int x1] : List Value).toArray s 0 0 A = Q
  have J33 : ∀ (t0_33 : Int32) (vM_trial_33 : Nat → Int32) (vM_33 : Nat → Int32), ∀ (H : Heap) (locs : List Loc) (ls : Array Slot), va_P D vwCl (wX9_best cy aM qM vM_33 vM_st vM_trial_33 vM_r) H → va_D A (wX9_best cy aM qM vM_33 vM_st vM_trial_33 vM_r) → va_S A s.heap H locs → lv_has ls 3 [] → fX9_best_J33 t0_33 vM_trial_33 vM_33 = some (zr, z_vM, z_vM_trial) → W p l e ({ frames := 7, cells := 0, slots := 0, locals := 164 } : Room) s m ([.ref aM, .int x1] : List Value).toArray below meth c H locs 0 0 Q (F0 m 33 ls [.int t0_33]) := by
    intro t0_33 vM_trial_33 vM_33 H locs ls hP hD hS hl hok
    unfold fX9_best_J33 at hok
    cases hok
    subst hQe; exact W.iret hx hb hr (fun t ht hW => ⟨⟨_, (), rfl, rfl, by rw [ht]; exact hP, va_K.moved hW.alike hK, hD⟩, hS.F ht⟩) hS.2.2 dX9_best_33
  unfold fX9_best at hok
  obtain ⟨H, hH⟩ : ∃ H, H = s.heap := ⟨_, rfl⟩
  obtain ⟨locs, hlc⟩ : ∃ x : List Loc, x = [] := ⟨_, rfl⟩
  have hP : va_P D vwCl (wX9_best cy aM qM vM vM_st vM_trial vM_r) H := by rw [hH]; exact hP
  have hS : va_S A s.heap H locs := by rw [hH, hlc]; exact hS
  rw [show W p l e _ s m _ below meth c s.heap [] = W p l e _ s m _ below meth c H locs from by rw [hH, hlc]]
  refine lv_aload_n hx hb dX9_best_0 rfl (lv_at hl 0 rfl) ?_
  obtain ⟨vM_1, hc1, hok⟩ := k_bind hok
  refine kCv (wc := (wX9_good cy aM qM vM)) (wc2 := (wX9_good cy aM qM vM_1)) (wr := [(qM 17, rI cy 9 vM_st), (qM 22, rI cy 9 vM_trial), (qM 15, rI cy 224 vM_r)]) (ws2 := (wX9_best cy aM qM vM_1 vM_st vM_trial vM_r)) (kRunV (As := []) (rest := []) ⟨hx, hb, hml, hown, ht0⟩ (kX9_good l D cy _ aM qM vM vM_1 hc1 _ rfl) (cwV 0 ht0 (gV wd870 wd871 wd872 wd744 wd873) rfl rfl rfl (by decide +kernel) ⟨Nat.le_of_ble_eq_true rfl, Nat.le_of_ble_eq_true rfl⟩) hK hN hP hD [0] rfl (by decide) 0 8 rfl rfl rfl hl.1 rfl (Nat.le_of_ble_eq_true rfl) dX9_best_1 ⟨Nat.zero_le _, Nat.zero_le _⟩) hP hD hS hA [0] [1, 2, 3] rfl rfl (by decide) (by decide) [3, 0, 1, 2] (by decide) rfl rfl (fun H locs hP hD hS => ?_)
  refine lv_aload_n hx hb dX9_best_4 rfl (lv_at hl 0 rfl) ?_
  refine lv_aload_n hx hb dX9_best_5 rfl (lv_at hl 0 rfl) ?_
  refine va_get (D := D) (ci := 8) (v := .int (vM_1 14)) (C := RX9) (T := TX9) (N := 29) hx hb ht0 niX9 hown hK hP 0 rfl rfl 14 (by decide) (ht0 _ wd855) (fun _ h9 => h9) rfl dX9_best_6 ?_
  refine lv_iload_n hx hb dX9_best_9 rfl (lv_at hl 1 rfl) ?_
  refine lv_bipush (v := 60) hx hb dX9_best_10 (by decide) ?_
  obtain ⟨r12, hc12, hok⟩ := k_bind hok
  refine kCi (wc := (wX9_why cy aM)) (wc2 := (wX9_why cy aM)) (wr := [(aM, oX9 vM_1 qM), (qM 17, rI cy 9 vM_st), (qM 22, rI cy 9 vM_trial), (qM 15, rI cy 224 vM_r)]) (ws2 := (wX9_best cy aM qM vM_1 vM_st vM_trial vM_r)) (kRunV (As := [.int (vM_1 14), .int x1, .int 60]) (rest := []) ⟨hx, hb, hml, hown, ht0⟩ (kX9_why l D cy _ aM (vM_1 14) x1 (60 : Int32) r12 hc12 _ rfl) (cwV 3 ht0 (gV wd944 wd945 wd946 wd744 wd947) rfl rfl rfl (by decide +kernel) ⟨Nat.le_of_ble_eq_true rfl, Nat.le_of_ble_eq_true rfl⟩) hK hN hP hD [] rfl (by decide) 0 8 rfl rfl rfl hl.1 rfl (Nat.le_of_ble_eq_true rfl) dX9_best_12 ⟨Nat.zero_le _, Nat.zero_le _⟩) hP hD hS hA [] [0, 1, 2, 3] rfl rfl (by decide) (by decide) [0, 1, 2, 3] (by decide) rfl rfl (fun H locs hP hD hS => ?_)
  refine lv_istore_n (lv' := [(2, .int r12), (0, .ref aM), (1, .int x1)]) hx hb dX9_best_15 rfl hl (by decide) rfl (fun ls hl => ?_)
  refine lv_iload_n hx hb dX9_best_16 rfl (lv_at hl 0 rfl) ?_
  refine lv_if_eq (tgt := 28) hx hb dX9_best_17 (by decide) (fun c17 => ?_) (fun c17 => ?_)
  · have hok := k_pos c17 hok
    refine lv_aload_n hx hb dX9_best_28 rfl (lv_at hl 1 rfl) ?_
    refine lv_iload_n hx hb dX9_best_29 rfl (lv_at hl 2 rfl) ?_
    obtain ⟨⟨r30, vM_trial_30⟩, hc30, hok⟩ := k_bind hok
    try dsimp only at hok
    refine kCi (wc := (wX9_bestOf cy aM qM vM_1 vM_st vM_trial vM_r)) (wc2 := (wX9_bestOf cy aM qM vM_1 vM_st vM_trial_30 vM_r)) (wr := []) (ws2 := (wX9_best cy aM qM vM_1 vM_st vM_trial_30 vM_r)) (kRunV (As := [.int x1]) (rest := []) ⟨hx, hb, hml, hown, ht0⟩ (kX9_bestOf l D cy _ aM qM vM_1 vM_st vM_trial vM_r x1 r30 vM_trial_30 hc30 _ rfl) (cwV 1 ht0 (gV wd982 wd983 wd984 wd744 wd985) rfl rfl rfl (by decide +kernel) ⟨Nat.le_of_ble_eq_true rfl, Nat.le_of_ble_eq_true rfl⟩) hK hN hP hD [0, 1, 2, 3] rfl (by decide) 0 8 rfl rfl rfl hl.1 rfl (Nat.le_of_ble_eq_true rfl) dX9_best_30 ⟨Nat.zero_le _, Nat.zero_le _⟩) hP hD hS hA [0, 1, 2, 3] [] rfl rfl (by decide) (by decide) [0, 1, 2, 3] (by decide) rfl rfl (fun H locs hP hD hS => ?_)
    exact J33 r30 vM_trial_30 vM_1 H locs ls hP hD hS (lv_sub hl [] rfl) hok
  · have hok := k_neg c17 hok
    refine lv_aload_n hx hb dX9_best_20 rfl (lv_at hl 1 rfl) ?_
    refine lv_iload_n hx hb dX9_best_21 rfl (lv_at hl 0 rfl) ?_
    obtain ⟨⟨r22, vM_22⟩, hc22, hok⟩ := k_bind hok
    try dsimp only at hok
    refine kCi (wc := (wX9_no cy aM qM vM_1)) (wc2 := (wX9_no cy aM qM vM_22)) (wr := [(qM 17, rI cy 9 vM_st), (qM 22, rI cy 9 vM_trial), (qM 15, rI cy 224 vM_r)]) (ws2 := (wX9_best cy aM qM vM_22 vM_st vM_trial vM_r)) (kRunV (As := [.int r12]) (rest := []) ⟨hx, hb, hml, hown, ht0⟩ (kX9_no l D cy _ aM qM vM_1 r12 r22 vM_22 hc22 _ rfl) (cwV 1 ht0 (gV wd862 wd863 wd864 wd744 wd865) rfl rfl rfl (by decide +kernel) ⟨Nat.le_of_ble_eq_true rfl, Nat.le_of_ble_eq_true rfl⟩) hK hN hP hD [0] rfl (by decide) 0 8 rfl rfl rfl hl.1 rfl (Nat.le_of_ble_eq_true rfl) dX9_best_22 ⟨Nat.zero_le _, Nat.zero_le _⟩) hP hD hS hA [0] [1, 2, 3] rfl rfl (by decide) (by decide) [3, 0, 1, 2] (by decide) rfl rfl (fun H locs hP hD hS => ?_)
    refine lv_goto (tgt := 33) hx hb dX9_best_25 (by decide) ?_
    exact J33 r22 vM_trial vM_22 H locs ls hP hD hS (lv_sub hl [] rfl) hok
def wsX9_bestPays : List Cond := .code yX9_bestPays cX9_bestPays 3 (some .int) :: W0
abbrev wX9_bestPays (cy : Nat → ClassId) (aM : Nat) (qM : Nat → Nat) (vM : Nat → Int32) (vM_st : Nat → Int32) (vM_trial : Nat → Int32) (vM_r : Nat → Int32) : va_W := [(aM, oX9 vM qM), (qM 17, rI cy 9 vM_st), (qM 22, rI cy 9 vM_trial), (qM 15, rI cy 224 vM_r)]
set_option maxHeartbeats 4000000 in
set_option maxRecDepth 100000 in
theorem kX9_bestPays (l : Launch) (D : va_G) (cy : Nat → ClassId) (sz : Nat) (aM : Nat) (qM : Nat → Nat) (vM : Nat → Int32) (vM_st : Nat → Int32) (vM_trial : Nat → Int32) (vM_r : Nat → Int32) (x1 : Int32) (zr : Int32) (z_vM : Nat → Int32) (z_vM_trial : Nat → Int32) (hok : fX9_bestPays vM vM_st vM_trial vM_r x1 = some (zr, z_vM, z_vM_trial)) (A : Nat → Prop) (hAe : va_A (wX9_bestPays cy aM qM vM vM_st vM_trial vM_r) sz = A) : Met l yX9_bestPays wsX9_bestPays ({ frames := 7, cells := 0, slots := 0, locals := 164 } : Room) (kPre D cy [.ref aM, .int x1] (wX9_bestPays cy aM qM vM vM_st vM_trial vM_r) sz) (kQi D cy zr A (wX9_bestPays cy aM qM z_vM vM_st z_vM_trial vM_r)) 0 0 A := by
  refine Met.ofW (cc := cX9_bestPays) (maxL := 3) (ret := (some .int)) (by decide) rfl ?_
  intro p e s m args below meth c s₁ B hml hv
  obtain ⟨rfl, hsz, hP, hK, hD0, hN⟩ := hv
  have hx := B.exec
  have hb := B.bytes
  have hr := B.returns
  have ht0 : ∀ w ∈ W0, w.before _ s = true := fun w h => atoms_spec (ws := wsX9_bestPays) B.pre w (List.mem_cons_of_mem _ h)
  have hown : s.vm.findClass RX9 = some m.cls := findClass_of_methodNamed B.named
  have hlocks := B.notSynchronized
  subst hsz
  have hD : va_D A (wX9_bestPays cy aM qM vM vM_st vM_trial vM_r) := by rw [← hAe]; exact hD0.self
  have hA : ∀ q : Nat, s.heap.size ≤ q → A q := fun q h => by rw [← hAe]; exact Or.inr h
  have hS : va_S A s.heap s.heap [] := va_S.rf
  have hl := lv_entry ([.ref aM, .int x1]) (n := 3) (Nat.le_of_ble_eq_true rfl)
  rw [lg_entry_eq]
  generalize (lg_sl ([.ref aM, .int x1]) ++ List.replicate (3 - (lg_sl ([.ref aM, .int x1])).length) Slot.unset).toArray = ls at hl ⊢
  have hl : lv_has ls 3 [(0, .ref aM), (1, .int x1)] := hl
  generalize hQe : MQ below (kQi D cy zr A (wX9_bestPays cy aM qM z_vM vM_st z_vM_trial vM_r)) ([.ref aM, .int x1] : List Value).toArray s 0 0 A = Q
  have J42 : ∀ (t0_42 : Int32) (vM_trial_42 : Nat → Int32) (vM_42 : Nat → Int32), ∀ (H : Heap) (locs : List Loc) (ls : Array Slot), va_P D vwCl (wX9_bestPays cy aM qM vM_42 vM_st vM_trial_42 vM_r) H → va_D A (wX9_bestPays cy aM qM vM_42 vM_st vM_trial_42 vM_r) → va_S A s.heap H locs → lv_has ls 3 [] → fX9_bestPays_J42 t0_42 vM_trial_42 vM_42 = some (zr, z_vM, z_vM_trial) → W p l e ({ frames := 7, cells := 0, slots := 0, locals := 164 } : Room) s m ([.ref aM, .int x1] : List Value).toArray below meth c H locs 0 0 Q (F0 m 42 ls [.int t0_42]) := by
    intro t0_42 vM_trial_42 vM_42 H locs ls hP hD hS hl hok
    unfold fX9_bestPays_J42 at hok
    cases hok
    subst hQe; exact W.iret hx hb hr (fun t ht hW => ⟨⟨_, (), rfl, rfl, by rw [ht]; exact hP, va_K.moved hW.alike hK, hD⟩, hS.F ht⟩) hS.2.2 dX9_bestPays_42
  unfold fX9_bestPays at hok
  obtain ⟨H, hH⟩ : ∃ H, H = s.heap := ⟨_, rfl⟩
  obtain ⟨locs, hlc⟩ : ∃ x : List Loc, x = [] := ⟨_, rfl⟩
  have hP : va_P D vwCl (wX9_bestPays cy aM qM vM vM_st vM_trial vM_r) H := by rw [hH]; exact hP
  have hS : va_S A s.heap H locs := by rw [hH, hlc]; exact hS
  rw [show W p l e _ s m _ below meth c s.heap [] = W p l e _ s m _ below meth c H locs from by rw [hH, hlc]]
  refine lv_aload_n hx hb dX9_bestPays_0 rfl (lv_at hl 0 rfl) ?_
  obtain ⟨vM_1, hc1, hok⟩ := k_bind hok
  refine kCv (wc := (wX9_good cy aM qM vM)) (wc2 := (wX9_good cy aM qM vM_1)) (wr := [(qM 17, rI cy 9 vM_st), (qM 22, rI cy 9 vM_trial), (qM 15, rI cy 224 vM_r)]) (ws2 := (wX9_bestPays cy aM qM vM_1 vM_st vM_trial vM_r)) (kRunV (As := []) (rest := []) ⟨hx, hb, hml, hown, ht0⟩ (kX9_good l D cy _ aM qM vM vM_1 hc1 _ rfl) (cwV 0 ht0 (gV wd870 wd871 wd872 wd744 wd873) rfl rfl rfl (by decide +kernel) ⟨Nat.le_of_ble_eq_true rfl, Nat.le_of_ble_eq_true rfl⟩) hK hN hP hD [0] rfl (by decide) 0 8 rfl rfl rfl hl.1 rfl (Nat.le_of_ble_eq_true rfl) dX9_bestPays_1 ⟨Nat.zero_le _, Nat.zero_le _⟩) hP hD hS hA [0] [1, 2, 3] rfl rfl (by decide) (by decide) [3, 0, 1, 2] (by decide) rfl rfl (fun H locs hP hD hS => ?_)
  refine lv_aload_n hx hb dX9_bestPays_4 rfl (lv_at hl 0 rfl) ?_
  refine lv_aload_n hx hb dX9_bestPays_5 rfl (lv_at hl 0 rfl) ?_
  refine va_get (D := D) (ci := 8) (v := .int (vM_1 14)) (C := RX9) (T := TX9) (N := 29) hx hb ht0 niX9 hown hK hP 0 rfl rfl 14 (by decide) (ht0 _ wd855) (fun _ h9 => h9) rfl dX9_bestPays_6 ?_
  refine lv_iload_n hx hb dX9_bestPays_9 rfl (lv_at hl 1 rfl) ?_
  refine lv_bipush (v := 60) hx hb dX9_bestPays_10 (by decide) ?_
  obtain ⟨r12, hc12, hok⟩ := k_bind hok
  refine kCi (wc := (wX9_why cy aM)) (wc2 := (wX9_why cy aM)) (wr := [(aM, oX9 vM_1 qM), (qM 17, rI cy 9 vM_st), (qM 22, rI cy 9 vM_trial), (qM 15, rI cy 224 vM_r)]) (ws2 := (wX9_bestPays cy aM qM vM_1 vM_st vM_trial vM_r)) (kRunV (As := [.int (vM_1 14), .int x1, .int 60]) (rest := []) ⟨hx, hb, hml, hown, ht0⟩ (kX9_why l D cy _ aM (vM_1 14) x1 (60 : Int32) r12 hc12 _ rfl) (cwV 3 ht0 (gV wd944 wd945 wd946 wd744 wd947) rfl rfl rfl (by decide +kernel) ⟨Nat.le_of_ble_eq_true rfl, Nat.le_of_ble_eq_true rfl⟩) hK hN hP hD [] rfl (by decide) 0 8 rfl rfl rfl hl.1 rfl (Nat.le_of_ble_eq_true rfl) dX9_bestPays_12 ⟨Nat.zero_le _, Nat.zero_le _⟩) hP hD hS hA [] [0, 1, 2, 3] rfl rfl (by decide) (by decide) [0, 1, 2, 3] (by decide) rfl rfl (fun H locs hP hD hS => ?_)
  refine lv_istore_n (lv' := [(2, .int r12), (0, .ref aM), (1, .int x1)]) hx hb dX9_bestPays_15 rfl hl (by decide) rfl (fun ls hl => ?_)
  refine lv_iload_n hx hb dX9_bestPays_16 rfl (lv_at hl 0 rfl) ?_
  refine lv_if_eq (tgt := 28) hx hb dX9_bestPays_17 (by decide) (fun c17 => ?_) (fun c17 => ?_)
  · have hok := k_pos c17 hok
    refine lv_aload_n hx hb dX9_bestPays_28 rfl (lv_at hl 1 rfl) ?_
    refine lv_aload_n hx hb dX9_bestPays_29 rfl (lv_at hl 1 rfl) ?_
    refine lv_aload_n hx hb dX9_bestPays_30 rfl (lv_at hl 1 rfl) ?_
    refine lv_iload_n hx hb dX9_bestPays_31 rfl (lv_at hl 2 rfl) ?_
    obtain ⟨⟨r32, vM_trial_32⟩, hc32, hok⟩ := k_bind hok
    try dsimp only at hok
    refine kCi (wc := (wX9_bestOf cy aM qM vM_1 vM_st vM_trial vM_r)) (wc2 := (wX9_bestOf cy aM qM vM_1 vM_st vM_trial_32 vM_r)) (wr := []) (ws2 := (wX9_bestPays cy aM qM vM_1 vM_st vM_trial_32 vM_r)) (kRunV (As := [.int x1]) (rest := [.ref aM, .ref aM]) ⟨hx, hb, hml, hown, ht0⟩ (kX9_bestOf l D cy _ aM qM vM_1 vM_st vM_trial vM_r x1 r32 vM_trial_32 hc32 _ rfl) (cwV 1 ht0 (gV wd982 wd983 wd984 wd744 wd985) rfl rfl rfl (by decide +kernel) ⟨Nat.le_of_ble_eq_true rfl, Nat.le_of_ble_eq_true rfl⟩) hK hN hP hD [0, 1, 2, 3] rfl (by decide) 0 8 rfl rfl rfl hl.1 rfl (Nat.le_of_ble_eq_true rfl) dX9_bestPays_32 ⟨Nat.zero_le _, Nat.zero_le _⟩) hP hD hS hA [0, 1, 2, 3] [] rfl rfl (by decide) (by decide) [0, 1, 2, 3] (by decide) rfl rfl (fun H locs hP hD hS => ?_)
    refine lv_iload_n hx hb dX9_bestPays_35 rfl (lv_at hl 2 rfl) ?_
    obtain ⟨⟨r36, vM_trial_36⟩, hc36, hok⟩ := k_bind hok
    try dsimp only at hok
    refine kCi (wc := (wX9_keptBy cy aM qM vM_1 vM_st vM_trial_32 vM_r)) (wc2 := (wX9_keptBy cy aM qM vM_1 vM_st vM_trial_36 vM_r)) (wr := []) (ws2 := (wX9_bestPays cy aM qM vM_1 vM_st vM_trial_36 vM_r)) (kRunV (As := [.int r32, .int x1]) (rest := [.ref aM]) ⟨hx, hb, hml, hown, ht0⟩ (kX9_keptBy l D cy _ aM qM vM_1 vM_st vM_trial_32 vM_r r32 x1 r36 vM_trial_36 hc36 _ rfl) (cwV 2 ht0 (gV wd974 wd975 wd976 wd744 wd977) rfl rfl rfl (by decide +kernel) ⟨Nat.le_of_ble_eq_true rfl, Nat.le_of_ble_eq_true rfl⟩) hK hN hP hD [0, 1, 2, 3] rfl (by decide) 0 8 rfl rfl rfl hl.1 rfl (Nat.le_of_ble_eq_true rfl) dX9_bestPays_36 ⟨Nat.zero_le _, Nat.zero_le _⟩) hP hD hS hA [0, 1, 2, 3] [] rfl rfl (by decide) (by decide) [0, 1, 2, 3] (by decide) rfl rfl (fun H locs hP hD hS => ?_)
    obtain ⟨r39, hc39, hok⟩ := k_bind hok
    refine kCi (wc := (wX9_payOf cy aM qM vM_1 vM_r)) (wc2 := (wX9_payOf cy aM qM vM_1 vM_r)) (wr := [(qM 17, rI cy 9 vM_st), (qM 22, rI cy 9 vM_trial_36)]) (ws2 := (wX9_bestPays cy aM qM vM_1 vM_st vM_trial_36 vM_r)) (kRunV (As := [.int r36]) (rest := []) ⟨hx, hb, hml, hown, ht0⟩ (kX9_payOf l D cy _ aM qM vM_1 vM_r r36 r39 hc39 _ rfl) (cwV 1 ht0 (gV wd978 wd979 wd980 wd744 wd981) rfl rfl rfl (by decide +kernel) ⟨Nat.le_of_ble_eq_true rfl, Nat.le_of_ble_eq_true rfl⟩) hK hN hP hD [0, 3] rfl (by decide) 0 8 rfl rfl rfl hl.1 rfl (Nat.le_of_ble_eq_true rfl) dX9_bestPays_39 ⟨Nat.zero_le _, Nat.zero_le _⟩) hP hD hS hA [0, 3] [1, 2] rfl rfl (by decide) (by decide) [2, 0, 1, 3] (by decide) rfl rfl (fun H locs hP hD hS => ?_)
    exact J42 r39 vM_trial_36 vM_1 H locs ls hP hD hS (lv_sub hl [] rfl) hok
  · have hok := k_neg c17 hok
    refine lv_aload_n hx hb dX9_bestPays_20 rfl (lv_at hl 1 rfl) ?_
    refine lv_iload_n hx hb dX9_bestPays_21 rfl (lv_at hl 0 rfl) ?_
    obtain ⟨⟨r22, vM_22⟩, hc22, hok⟩ := k_bind hok
    try dsimp only at hok
    refine kCi (wc := (wX9_no cy aM qM vM_1)) (wc2 := (wX9_no cy aM qM vM_22)) (wr := [(qM 17, rI cy 9 vM_st), (qM 22, rI cy 9 vM_trial), (qM 15, rI cy 224 vM_r)]) (ws2 := (wX9_bestPays cy aM qM vM_22 vM_st vM_trial vM_r)) (kRunV (As := [.int r12]) (rest := []) ⟨hx, hb, hml, hown, ht0⟩ (kX9_no l D cy _ aM qM vM_1 r12 r22 vM_22 hc22 _ rfl) (cwV 1 ht0 (gV wd862 wd863 wd864 wd744 wd865) rfl rfl rfl (by decide +kernel) ⟨Nat.le_of_ble_eq_true rfl, Nat.le_of_ble_eq_true rfl⟩) hK hN hP hD [0] rfl (by decide) 0 8 rfl rfl rfl hl.1 rfl (Nat.le_of_ble_eq_true rfl) dX9_bestPays_22 ⟨Nat.zero_le _, Nat.zero_le _⟩) hP hD hS hA [0] [1, 2, 3] rfl rfl (by decide) (by decide) [3, 0, 1, 2] (by decide) rfl rfl (fun H locs hP hD hS => ?_)
    refine lv_goto (tgt := 42) hx hb dX9_bestPays_25 (by decide) ?_
    exact J42 r22 vM_trial vM_22 H locs ls hP hD hS (lv_sub hl [] rfl) hok
def wsX9_kept : List Cond := .code yX9_kept cX9_kept 1 (some .int) :: W0
abbrev wX9_kept (cy : Nat → ClassId) (aM : Nat) (qM : Nat → Nat) (vM : Nat → Int32) (vM_st : Nat → Int32) (vM_trial : Nat → Int32) (vM_r : Nat → Int32) : va_W := [(aM, oX9 vM qM), (qM 17, rI cy 9 vM_st), (qM 22, rI cy 9 vM_trial), (qM 15, rI cy 224 vM_r)]
set_option maxHeartbeats 4000000 in
set_option maxRecDepth 100000 in
theorem kX9_kept (l : Launch) (D : va_G) (cy : Nat → ClassId) (sz : Nat) (aM : Nat) (qM : Nat → Nat) (vM : Nat → Int32) (vM_st : Nat → Int32) (vM_trial : Nat → Int32) (vM_r : Nat → Int32) (zr : Int32) (z_vM : Nat → Int32) (z_vM_trial : Nat → Int32) (hok : fX9_kept vM vM_st vM_trial vM_r = some (zr, z_vM, z_vM_trial)) (A : Nat → Prop) (hAe : va_A (wX9_kept cy aM qM vM vM_st vM_trial vM_r) sz = A) : Met l yX9_kept wsX9_kept ({ frames := 6, cells := 0, slots := 0, locals := 139 } : Room) (kPre D cy [.ref aM] (wX9_kept cy aM qM vM vM_st vM_trial vM_r) sz) (kQi D cy zr A (wX9_kept cy aM qM z_vM vM_st z_vM_trial vM_r)) 0 0 A := by
  refine Met.ofW (cc := cX9_kept) (maxL := 1) (ret := (some .int)) (by decide) rfl ?_
  intro p e s m args below meth c s₁ B hml hv
  obtain ⟨rfl, hsz, hP, hK, hD0, hN⟩ := hv
  have hx := B.exec
  have hb := B.bytes
  have hr := B.returns
  have ht0 : ∀ w ∈ W0, w.before _ s = true := fun w h => atoms_spec (ws := wsX9_kept) B.pre w (List.mem_cons_of_mem _ h)
  have hown : s.vm.findClass RX9 = some m.cls := findClass_of_methodNamed B.named
  have hlocks := B.notSynchronized
  subst hsz
  have hD : va_D A (wX9_kept cy aM qM vM vM_st vM_trial vM_r) := by rw [← hAe]; exact hD0.self
  have hA : ∀ q : Nat, s.heap.size ≤ q → A q := fun q h => by rw [← hAe]; exact Or.inr h
  have hS : va_S A s.heap s.heap [] := va_S.rf
  have hl := lv_entry ([.ref aM]) (n := 1) (Nat.le_of_ble_eq_true rfl)
  rw [lg_entry_eq]
  generalize (lg_sl ([.ref aM]) ++ List.replicate (1 - (lg_sl ([.ref aM])).length) Slot.unset).toArray = ls at hl ⊢
  have hl : lv_has ls 1 [(0, .ref aM)] := hl
  generalize hQe : MQ below (kQi D cy zr A (wX9_kept cy aM qM z_vM vM_st z_vM_trial vM_r)) ([.ref aM] : List Value).toArray s 0 0 A = Q
  have J26 : ∀ (t0_26 : Int32) (vM_trial_26 : Nat → Int32) (vM_26 : Nat → Int32), ∀ (H : Heap) (locs : List Loc) (ls : Array Slot), va_P D vwCl (wX9_kept cy aM qM vM_26 vM_st vM_trial_26 vM_r) H → va_D A (wX9_kept cy aM qM vM_26 vM_st vM_trial_26 vM_r) → va_S A s.heap H locs → lv_has ls 1 [] → fX9_kept_J26 t0_26 vM_trial_26 vM_26 = some (zr, z_vM, z_vM_trial) → W p l e ({ frames := 6, cells := 0, slots := 0, locals := 139 } : Room) s m ([.ref aM] : List Value).toArray below meth c H locs 0 0 Q (F0 m 26 ls [.int t0_26]) := by
    intro t0_26 vM_trial_26 vM_26 H locs ls hP hD hS hl hok
    unfold fX9_kept_J26 at hok
    cases hok
    subst hQe; exact W.iret hx hb hr (fun t ht hW => ⟨⟨_, (), rfl, rfl, by rw [ht]; exact hP, va_K.moved hW.alike hK, hD⟩, hS.F ht⟩) hS.2.2 dX9_kept_26
  unfold fX9_kept at hok
  obtain ⟨H, hH⟩ : ∃ H, H = s.heap := ⟨_, rfl⟩
  obtain ⟨locs, hlc⟩ : ∃ x : List Loc, x = [] := ⟨_, rfl⟩
  have hP : va_P D vwCl (wX9_kept cy aM qM vM vM_st vM_trial vM_r) H := by rw [hH]; exact hP
  have hS : va_S A s.heap H locs := by rw [hH, hlc]; exact hS
  rw [show W p l e _ s m _ below meth c s.heap [] = W p l e _ s m _ below meth c H locs from by rw [hH, hlc]]
  refine lv_aload_n hx hb dX9_kept_0 rfl (lv_at hl 0 rfl) ?_
  obtain ⟨vM_1, hc1, hok⟩ := k_bind hok
  refine kCv (wc := (wX9_good cy aM qM vM)) (wc2 := (wX9_good cy aM qM vM_1)) (wr := [(qM 17, rI cy 9 vM_st), (qM 22, rI cy 9 vM_trial), (qM 15, rI cy 224 vM_r)]) (ws2 := (wX9_kept cy aM qM vM_1 vM_st vM_trial vM_r)) (kRunV (As := []) (rest := []) ⟨hx, hb, hml, hown, ht0⟩ (kX9_good l D cy _ aM qM vM vM_1 hc1 _ rfl) (cwV 0 ht0 (gV wd870 wd871 wd872 wd744 wd873) rfl rfl rfl (by decide +kernel) ⟨Nat.le_of_ble_eq_true rfl, Nat.le_of_ble_eq_true rfl⟩) hK hN hP hD [0] rfl (by decide) 0 8 rfl rfl rfl hl.1 rfl (Nat.le_of_ble_eq_true rfl) dX9_kept_1 ⟨Nat.zero_le _, Nat.zero_le _⟩) hP hD hS hA [0] [1, 2, 3] rfl rfl (by decide) (by decide) [3, 0, 1, 2] (by decide) rfl rfl (fun H locs hP hD hS => ?_)
  refine lv_aload_n hx hb dX9_kept_4 rfl (lv_at hl 0 rfl) ?_
  refine va_get (D := D) (ci := 8) (v := .int (vM_1 14)) (C := RX9) (T := TX9) (N := 29) hx hb ht0 niX9 hown hK hP 0 rfl rfl 14 (by decide) (ht0 _ wd855) (fun _ h9 => h9) rfl dX9_kept_5 ?_
  refine lv_if_eq (tgt := 21) hx hb dX9_kept_8 (by decide) (fun c8 => ?_) (fun c8 => ?_)
  · have hok := k_pos c8 hok
    refine lv_aload_n hx hb dX9_kept_21 rfl (lv_at hl 0 rfl) ?_
    refine lv_iconst (v := 1) hx hb dX9_kept_22 (by decide) ?_
    obtain ⟨⟨r23, vM_23⟩, hc23, hok⟩ := k_bind hok
    try dsimp only at hok
    refine kCi (wc := (wX9_no cy aM qM vM_1)) (wc2 := (wX9_no cy aM qM vM_23)) (wr := [(qM 17, rI cy 9 vM_st), (qM 22, rI cy 9 vM_trial), (qM 15, rI cy 224 vM_r)]) (ws2 := (wX9_kept cy aM qM vM_23 vM_st vM_trial vM_r)) (kRunV (As := [.int 1]) (rest := []) ⟨hx, hb, hml, hown, ht0⟩ (kX9_no l D cy _ aM qM vM_1 (1 : Int32) r23 vM_23 hc23 _ rfl) (cwV 1 ht0 (gV wd862 wd863 wd864 wd744 wd865) rfl rfl rfl (by decide +kernel) ⟨Nat.le_of_ble_eq_true rfl, Nat.le_of_ble_eq_true rfl⟩) hK hN hP hD [0] rfl (by decide) 0 8 rfl rfl rfl hl.1 rfl (Nat.le_of_ble_eq_true rfl) dX9_kept_23 ⟨Nat.zero_le _, Nat.zero_le _⟩) hP hD hS hA [0] [1, 2, 3] rfl rfl (by decide) (by decide) [3, 0, 1, 2] (by decide) rfl rfl (fun H locs hP hD hS => ?_)
    exact J26 r23 vM_trial vM_23 H locs ls hP hD hS (lv_sub hl [] rfl) hok
  · have hok := k_neg c8 hok
    refine lv_aload_n hx hb dX9_kept_11 rfl (lv_at hl 0 rfl) ?_
    refine lv_iconst (v := 0) hx hb dX9_kept_12 (by decide) ?_
    refine lv_bipush (v := 60) hx hb dX9_kept_13 (by decide) ?_
    obtain ⟨⟨r15, vM_trial_15⟩, hc15, hok⟩ := k_bind hok
    try dsimp only at hok
    refine kCi (wc := (wX9_keptBy cy aM qM vM_1 vM_st vM_trial vM_r)) (wc2 := (wX9_keptBy cy aM qM vM_1 vM_st vM_trial_15 vM_r)) (wr := []) (ws2 := (wX9_kept cy aM qM vM_1 vM_st vM_trial_15 vM_r)) (kRunV (As := [.int 0, .int 60]) (rest := []) ⟨hx, hb, hml, hown, ht0⟩ (kX9_keptBy l D cy _ aM qM vM_1 vM_st vM_trial vM_r (0 : Int32) (60 : Int32) r15 vM_trial_15 hc15 _ rfl) (cwV 2 ht0 (gV wd974 wd975 wd976 wd744 wd977) rfl rfl rfl (by decide +kernel) ⟨Nat.le_of_ble_eq_true rfl, Nat.le_of_ble_eq_true rfl⟩) hK hN hP hD [0, 1, 2, 3] rfl (by decide) 0 8 rfl rfl rfl hl.1 rfl (Nat.le_of_ble_eq_true rfl) dX9_kept_15 ⟨Nat.zero_le _, Nat.zero_le _⟩) hP hD hS hA [0, 1, 2, 3] [] rfl rfl (by decide) (by decide) [0, 1, 2, 3] (by decide) rfl rfl (fun H locs hP hD hS => ?_)
    refine lv_goto (tgt := 26) hx hb dX9_kept_18 (by decide) ?_
    exact J26 r15 vM_trial_15 vM_1 H locs ls hP hD hS (lv_sub hl [] rfl) hok
def wsX9_isRule : List Cond := .code yX9_isRule cX9_isRule 6 (some .boolean) :: W0
abbrev wX9_isRule (cy : Nat → ClassId) (aM : Nat) (qM : Nat → Nat) (vM : Nat → Int32) (vM_r : Nat → Int32) : va_W := [(aM, oX9 vM qM), (qM 15, rI cy 224 vM_r)]
set_option maxHeartbeats 4000000 in
set_option maxRecDepth 100000 in
theorem kX9_isRule (l : Launch) (D : va_G) (cy : Nat → ClassId) (sz : Nat) (aM : Nat) (qM : Nat → Nat) (vM : Nat → Int32) (vM_r : Nat → Int32) (x1 : Int32) (x2 : Int32) (x3 : Int32) (zr : Int32) (hok : fX9_isRule vM vM_r x1 x2 x3 = some zr) (A : Nat → Prop) (hAe : va_A (wX9_isRule cy aM qM vM vM_r) sz = A) : Met l yX9_isRule wsX9_isRule ({ frames := 0, cells := 0, slots := 0, locals := 0 } : Room) (kPre D cy [.ref aM, .int x1, .int x2, .int x3] (wX9_isRule cy aM qM vM vM_r) sz) (kQi D cy zr A (wX9_isRule cy aM qM vM vM_r)) 0 0 A := by
  refine Met.ofW (cc := cX9_isRule) (maxL := 6) (ret := (some .boolean)) (by decide) rfl ?_
  intro p e s m args below meth c s₁ B hml hv
  obtain ⟨rfl, hsz, hP, hK, hD0, hN⟩ := hv
  have hx := B.exec
  have hb := B.bytes
  have hr := B.returns
  have ht0 : ∀ w ∈ W0, w.before _ s = true := fun w h => atoms_spec (ws := wsX9_isRule) B.pre w (List.mem_cons_of_mem _ h)
  have hown : s.vm.findClass RX9 = some m.cls := findClass_of_methodNamed B.named
  have hlocks := B.notSynchronized
  subst hsz
  have hD : va_D A (wX9_isRule cy aM qM vM vM_r) := by rw [← hAe]; exact hD0.self
  have hA : ∀ q : Nat, s.heap.size ≤ q → A q := fun q h => by rw [← hAe]; exact Or.inr h
  have hS : va_S A s.heap s.heap [] := va_S.rf
  have hl := lv_entry ([.ref aM, .int x1, .int x2, .int x3]) (n := 6) (Nat.le_of_ble_eq_true rfl)
  rw [lg_entry_eq]
  generalize (lg_sl ([.ref aM, .int x1, .int x2, .int x3]) ++ List.replicate (6 - (lg_sl ([.ref aM, .int x1, .int x2, .int x3])).length) Slot.unset).toArray = ls at hl ⊢
  have hl : lv_has ls 6 [(0, .ref aM), (1, .int x1), (2, .int x2), (3, .int x3)] := hl
  generalize hQe : MQ below (kQi D cy zr A (wX9_isRule cy aM qM vM vM_r)) ([.ref aM, .int x1, .int x2, .int x3] : List Value).toArray s 0 0 A = Q
  have L6 : ∀ (fuel : Nat) (y4_6 : Int32) (y5_6 : Int32), ∀ (H : Heap) (locs : List Loc) (ls : Array Slot), va_P D vwCl (wX9_isRule cy aM qM vM vM_r) H → va_D A (wX9_isRule cy aM qM vM vM_r) → va_S A s.heap H locs → lv_has ls 6 [(0, .ref aM), (1, .int x1), (2, .int x2), (3, .int x3), (4, .int y4_6), (5, .int y5_6)] → lp (fX9_isRule_B6 vM_r x1 x2 x3) fuel (y4_6, y5_6) = some zr → W p l e ({ frames := 0, cells := 0, slots := 0, locals := 0 } : Room) s m ([.ref aM, .int x1, .int x2, .int x3] : List Value).toArray below meth c H locs 0 0 Q (F0 m 6 ls []) := by
    intro fuel
    induction fuel with
    | zero => intro y4_6 y5_6 H locs ls hP hD hS hl hok; exact (lp_0 hok).elim
    | succ fuel ih6 =>
      intro y4_6 y5_6 H locs ls hP hD hS hl hok
      obtain ⟨y6, hok, hL6, hR6⟩ := lp_step hok
      have J94 : ∀ (t0_94 : Int32), ∀ (H : Heap) (locs : List Loc) (ls : Array Slot), va_P D vwCl (wX9_isRule cy aM qM vM vM_r) H → va_D A (wX9_isRule cy aM qM vM vM_r) → va_S A s.heap H locs → lv_has ls 6 [(0, .ref aM), (1, .int x1), (2, .int x2), (3, .int x3), (5, .int y5_6)] → fX9_isRule_J94 y5_6 t0_94 = some y6 → W p l e ({ frames := 0, cells := 0, slots := 0, locals := 0 } : Room) s m ([.ref aM, .int x1, .int x2, .int x3] : List Value).toArray below meth c H locs 0 0 Q (F0 m 94 ls [.int t0_94]) := by
        intro t0_94 H locs ls hP hD hS hl hok
        unfold fX9_isRule_J94 at hok
        refine lv_istore (lv' := [(4, .int t0_94), (0, .ref aM), (1, .int x1), (2, .int x2), (3, .int x3), (5, .int y5_6)]) hx hb dX9_isRule_94 hl (by decide) rfl (fun ls hl => ?_)
        refine lv_iinc (v := (y5_6 + 1)) (lv' := [(5, .int (y5_6 + 1)), (4, .int t0_94), (0, .ref aM), (1, .int x1), (2, .int x2), (3, .int x3)]) hx hb dX9_isRule_96 hl (k := 5) rfl (by first | rfl | decide) (by decide) rfl (fun ls hl => ?_)
        refine lv_goto (tgt := 6) hx hb dX9_isRule_99 (by decide) ?_
        exact ih6 t0_94 (y5_6 + 1) H locs ls hP hD hS (lv_sub hl [2, 3, 4, 5, 1, 0] rfl) (hR6 _ (Option.some.inj hok).symm)
      have J93 : ∀ (H : Heap) (locs : List Loc) (ls : Array Slot), va_P D vwCl (wX9_isRule cy aM qM vM vM_r) H → va_D A (wX9_isRule cy aM qM vM vM_r) → va_S A s.heap H locs → lv_has ls 6 [(0, .ref aM), (1, .int x1), (2, .int x2), (3, .int x3), (5, .int y5_6)] → fX9_isRule_J93 y5_6 = some y6 → W p l e ({ frames := 0, cells := 0, slots := 0, locals := 0 } : Room) s m ([.ref aM, .int x1, .int x2, .int x3] : List Value).toArray below meth c H locs 0 0 Q (F0 m 93 ls []) := by
        intro  H locs ls hP hD hS hl hok
        unfold fX9_isRule_J93 at hok
        refine lv_iconst (v := 0) hx hb dX9_isRule_93 (by decide) ?_
        exact J94 (0 : Int32) H locs ls hP hD hS (lv_sub hl [0, 1, 2, 3, 4] rfl) hok
      have J86 : ∀ (t0_86 : Int32) (t1_86 : Int32), ∀ (H : Heap) (locs : List Loc) (ls : Array Slot), va_P D vwCl (wX9_isRule cy aM qM vM vM_r) H → va_D A (wX9_isRule cy aM qM vM vM_r) → va_S A s.heap H locs → lv_has ls 6 [(0, .ref aM), (1, .int x1), (2, .int x2), (3, .int x3), (5, .int y5_6)] → fX9_isRule_J86 y5_6 t0_86 t1_86 = some y6 → W p l e ({ frames := 0, cells := 0, slots := 0, locals := 0 } : Room) s m ([.ref aM, .int x1, .int x2, .int x3] : List Value).toArray below meth c H locs 0 0 Q (F0 m 86 ls [.int t0_86, .int t1_86]) := by
        intro t0_86 t1_86 H locs ls hP hD hS hl hok
        unfold fX9_isRule_J86 at hok
        refine lv_icmp_ne (tgt := 93) hx hb dX9_isRule_86 (by decide) (fun c86 => ?_) (fun c86 => ?_)
        · have hok := k_neg c86 hok
          exact J93  H locs ls hP hD hS (lv_sub hl [0, 1, 2, 3, 4] rfl) hok
        · have hok := k_pos c86 hok
          refine lv_iconst (v := 1) hx hb dX9_isRule_89 (by decide) ?_
          refine lv_goto (tgt := 94) hx hb dX9_isRule_90 (by decide) ?_
          exact J94 (1 : Int32) H locs ls hP hD hS (lv_sub hl [0, 1, 2, 3, 4] rfl) hok
      have J63 : ∀ (t0_63 : Int32), ∀ (H : Heap) (locs : List Loc) (ls : Array Slot), va_P D vwCl (wX9_isRule cy aM qM vM vM_r) H → va_D A (wX9_isRule cy aM qM vM vM_r) → va_S A s.heap H locs → lv_has ls 6 [(0, .ref aM), (1, .int x1), (2, .int x2), (3, .int x3), (5, .int y5_6)] → fX9_isRule_J63 vM_r y5_6 t0_63 = some y6 → W p l e ({ frames := 0, cells := 0, slots := 0, locals := 0 } : Room) s m ([.ref aM, .int x1, .int x2, .int x3] : List Value).toArray below meth c H locs 0 0 Q (F0 m 63 ls [.int t0_63]) := by
        intro t0_63 H locs ls hP hD hS hl hok
        unfold fX9_isRule_J63 at hok
        refine lv_aload_n hx hb dX9_isRule_63 rfl (lv_at hl 0 rfl) ?_
        refine va_get (D := D) (ci := 8) (v := .ref (qM 15)) (C := RX9) (T := TX9) (N := 29) hx hb ht0 niX9 hown hK hP 0 rfl rfl 15 (by decide) (ht0 _ wd854) (fun _ h9 => h9) rfl dX9_isRule_64 ?_
        refine lv_bipush (v := 107) hx hb dX9_isRule_67 (by decide) ?_
        refine lv_iconst (v := 3) hx hb dX9_isRule_69 (by decide) ?_
        refine lv_iload hx hb dX9_isRule_70 (lv_at hl 4 rfl) ?_
        refine lv_imul hx hb dX9_isRule_72 ?_
        refine lv_iadd hx hb dX9_isRule_73 ?_
        refine lv_iconst (v := 2) hx hb dX9_isRule_74 (by decide) ?_
        refine lv_iadd hx hb dX9_isRule_75 ?_
        obtain ⟨g76, hok⟩ := gd_some hok
        refine va_iald hx hb hK hP 1 0 rfl rfl (okI_in g76) dX9_isRule_76 ?_
        refine lv_iconst (v := 1) hx hb dX9_isRule_77 (by decide) ?_
        refine lv_icmp_ne (tgt := 85) hx hb dX9_isRule_78 (by decide) (fun c78 => ?_) (fun c78 => ?_)
        · have hok := k_neg c78 hok
          refine lv_iconst (v := 0) hx hb dX9_isRule_85 (by decide) ?_
          exact J86 (0 : Int32) t0_63 H locs ls hP hD hS (lv_sub hl [0, 1, 2, 3, 4] rfl) hok
        · have hok := k_pos c78 hok
          refine lv_iconst (v := 1) hx hb dX9_isRule_81 (by decide) ?_
          refine lv_goto (tgt := 86) hx hb dX9_isRule_82 (by decide) ?_
          exact J86 (1 : Int32) t0_63 H locs ls hP hD hS (lv_sub hl [0, 1, 2, 3, 4] rfl) hok
      unfold fX9_isRule_B6 at hok
      try dsimp only at hok
      refine lv_iload hx hb dX9_isRule_6 (lv_at hl 5 rfl) ?_
      refine lv_aload_n hx hb dX9_isRule_8 rfl (lv_at hl 0 rfl) ?_
      refine va_get (D := D) (ci := 8) (v := .ref (qM 15)) (C := RX9) (T := TX9) (N := 29) hx hb ht0 niX9 hown hK hP 0 rfl rfl 15 (by decide) (ht0 _ wd854) (fun _ h9 => h9) rfl dX9_isRule_9 ?_
      refine lv_bipush (v := 7) hx hb dX9_isRule_12 (by decide) ?_
      obtain ⟨g14, hok⟩ := gd_some hok
      refine va_iald hx hb hK hP 1 0 rfl rfl (okI_in g14) dX9_isRule_14 ?_
      refine lv_icmp_ge (tgt := 102) hx hb dX9_isRule_15 (by decide) (fun c15 => ?_) (fun c15 => ?_)
      · have hok := k_pos c15 hok
        obtain ⟨e6, hok, he6⟩ := ex_some hok
        have hok := hok.trans (congrArg some (hL6 _ he6))
        refine lv_iload hx hb dX9_isRule_102 (lv_at hl 4 rfl) ?_
        obtain ⟨g104, hok⟩ := gd_some hok
        cases hok
        subst hQe; exact W.zret hx hb hr (isB_nar g104) (fun t ht hW => ⟨⟨_, (), rfl, rfl, by rw [ht]; exact hP, va_K.moved hW.alike hK, hD⟩, hS.F ht⟩) hS.2.2 dX9_isRule_104
      · have hok := k_neg c15 hok
        refine lv_iload hx hb dX9_isRule_18 (lv_at hl 4 rfl) ?_
        refine lv_if_eq (tgt := 93) hx hb dX9_isRule_20 (by decide) (fun c20 => ?_) (fun c20 => ?_)
        · have hok := k_pos c20 hok
          exact J93  H locs ls hP hD hS (lv_sub hl [0, 1, 2, 3, 5] rfl) hok
        · have hok := k_neg c20 hok
          refine lv_iload_n hx hb dX9_isRule_23 rfl (lv_at hl 3 rfl) ?_
          refine lv_iload_n hx hb dX9_isRule_24 rfl (lv_at hl 2 rfl) ?_
          refine lv_aload_n hx hb dX9_isRule_25 rfl (lv_at hl 0 rfl) ?_
          refine va_get (D := D) (ci := 8) (v := .ref (qM 15)) (C := RX9) (T := TX9) (N := 29) hx hb ht0 niX9 hown hK hP 0 rfl rfl 15 (by decide) (ht0 _ wd854) (fun _ h9 => h9) rfl dX9_isRule_26 ?_
          refine lv_bipush (v := 107) hx hb dX9_isRule_29 (by decide) ?_
          refine lv_iconst (v := 3) hx hb dX9_isRule_31 (by decide) ?_
          refine lv_iload hx hb dX9_isRule_32 (lv_at hl 5 rfl) ?_
          refine lv_imul hx hb dX9_isRule_34 ?_
          refine lv_iadd hx hb dX9_isRule_35 ?_
          obtain ⟨g36, hok⟩ := gd_some hok
          refine va_iald hx hb hK hP 1 0 rfl rfl (okI_in g36) dX9_isRule_36 ?_
          refine lv_imul hx hb dX9_isRule_37 ?_
          refine lv_iadd hx hb dX9_isRule_38 ?_
          refine lv_iload_n hx hb dX9_isRule_39 rfl (lv_at hl 1 rfl) ?_
          obtain ⟨g40, hok⟩ := gd_some hok
          refine lv_irem hx hb dX9_isRule_40 (nzI_ne g40) ?_
          refine lv_aload_n hx hb dX9_isRule_41 rfl (lv_at hl 0 rfl) ?_
          refine va_get (D := D) (ci := 8) (v := .ref (qM 15)) (C := RX9) (T := TX9) (N := 29) hx hb ht0 niX9 hown hK hP 0 rfl rfl 15 (by decide) (ht0 _ wd854) (fun _ h9 => h9) rfl dX9_isRule_42 ?_
          refine lv_bipush (v := 107) hx hb dX9_isRule_45 (by decide) ?_
          refine lv_iconst (v := 3) hx hb dX9_isRule_47 (by decide) ?_
          refine lv_iload hx hb dX9_isRule_48 (lv_at hl 5 rfl) ?_
          refine lv_imul hx hb dX9_isRule_50 ?_
          refine lv_iadd hx hb dX9_isRule_51 ?_
          refine lv_iconst (v := 1) hx hb dX9_isRule_52 (by decide) ?_
          refine lv_iadd hx hb dX9_isRule_53 ?_
          obtain ⟨g54, hok⟩ := gd_some hok
          refine va_iald hx hb hK hP 1 0 rfl rfl (okI_in g54) dX9_isRule_54 ?_
          refine lv_icmp_ne (tgt := 62) hx hb dX9_isRule_55 (by decide) (fun c55 => ?_) (fun c55 => ?_)
          · have hok := k_neg c55 hok
            refine lv_iconst (v := 0) hx hb dX9_isRule_62 (by decide) ?_
            exact J63 (0 : Int32) H locs ls hP hD hS (lv_sub hl [0, 1, 2, 3, 5] rfl) hok
          · have hok := k_pos c55 hok
            refine lv_iconst (v := 1) hx hb dX9_isRule_58 (by decide) ?_
            refine lv_goto (tgt := 63) hx hb dX9_isRule_59 (by decide) ?_
            exact J63 (1 : Int32) H locs ls hP hD hS (lv_sub hl [0, 1, 2, 3, 5] rfl) hok
  unfold fX9_isRule at hok
  obtain ⟨H, hH⟩ : ∃ H, H = s.heap := ⟨_, rfl⟩
  obtain ⟨locs, hlc⟩ : ∃ x : List Loc, x = [] := ⟨_, rfl⟩
  have hP : va_P D vwCl (wX9_isRule cy aM qM vM vM_r) H := by rw [hH]; exact hP
  have hS : va_S A s.heap H locs := by rw [hH, hlc]; exact hS
  rw [show W p l e _ s m _ below meth c s.heap [] = W p l e _ s m _ below meth c H locs from by rw [hH, hlc]]
  refine lv_iconst (v := 1) hx hb dX9_isRule_0 (by decide) ?_
  refine lv_istore (lv' := [(4, .int 1), (0, .ref aM), (1, .int x1), (2, .int x2), (3, .int x3)]) hx hb dX9_isRule_1 hl (by decide) rfl (fun ls hl => ?_)
  refine lv_iconst (v := 0) hx hb dX9_isRule_3 (by decide) ?_
  refine lv_istore (lv' := [(5, .int 0), (4, .int 1), (0, .ref aM), (1, .int x1), (2, .int x2), (3, .int x3)]) hx hb dX9_isRule_4 hl (by decide) rfl (fun ls hl => ?_)
  exact L6 5000 (1 : Int32) (0 : Int32) H locs ls hP hD hS (lv_sub hl [2, 3, 4, 5, 1, 0] rfl) hok
def wsX9_rulesBy : List Cond := .code yX9_rulesBy cX9_rulesBy 8 (some .int) :: W0
abbrev wX9_rulesBy (cy : Nat → ClassId) (aM : Nat) (qM : Nat → Nat) (vM : Nat → Int32) (vM_r : Nat → Int32) : va_W := [(aM, oX9 vM qM), (qM 15, rI cy 224 vM_r)]
set_option maxHeartbeats 4000000 in
set_option maxRecDepth 100000 in
theorem kX9_rulesBy (l : Launch) (D : va_G) (cy : Nat → ClassId) (sz : Nat) (aM : Nat) (qM : Nat → Nat) (vM : Nat → Int32) (vM_r : Nat → Int32) (x1 : Int32) (x2 : Int32) (x3 : Int32) (zr : Int32) (hok : fX9_rulesBy vM vM_r x1 x2 x3 = some zr) (A : Nat → Prop) (hAe : va_A (wX9_rulesBy cy aM qM vM vM_r) sz = A) : Met l yX9_rulesBy wsX9_rulesBy ({ frames := 1, cells := 0, slots := 0, locals := 25 } : Room) (kPre D cy [.ref aM, .int x1, .int x2, .int x3] (wX9_rulesBy cy aM qM vM vM_r) sz) (kQi D cy zr A (wX9_rulesBy cy aM qM vM vM_r)) 0 0 A := by
  refine Met.ofW (cc := cX9_rulesBy) (maxL := 8) (ret := (some .int)) (by decide) rfl ?_
  intro p e s m args below meth c s₁ B hml hv
  obtain ⟨rfl, hsz, hP, hK, hD0, hN⟩ := hv
  have hx := B.exec
  have hb := B.bytes
  have hr := B.returns
  have ht0 : ∀ w ∈ W0, w.before _ s = true := fun w h => atoms_spec (ws := wsX9_rulesBy) B.pre w (List.mem_cons_of_mem _ h)
  have hown : s.vm.findClass RX9 = some m.cls := findClass_of_methodNamed B.named
  have hlocks := B.notSynchronized
  subst hsz
  have hD : va_D A (wX9_rulesBy cy aM qM vM vM_r) := by rw [← hAe]; exact hD0.self
  have hA : ∀ q : Nat, s.heap.size ≤ q → A q := fun q h => by rw [← hAe]; exact Or.inr h
  have hS : va_S A s.heap s.heap [] := va_S.rf
  have hl := lv_entry ([.ref aM, .int x1, .int x2, .int x3]) (n := 8) (Nat.le_of_ble_eq_true rfl)
  rw [lg_entry_eq]
  generalize (lg_sl ([.ref aM, .int x1, .int x2, .int x3]) ++ List.replicate (8 - (lg_sl ([.ref aM, .int x1, .int x2, .int x3])).length) Slot.unset).toArray = ls at hl ⊢
  have hl : lv_has ls 8 [(0, .ref aM), (1, .int x1), (2, .int x2), (3, .int x3)] := hl
  generalize hQe : MQ below (kQi D cy zr A (wX9_rulesBy cy aM qM vM vM_r)) ([.ref aM, .int x1, .int x2, .int x3] : List Value).toArray s 0 0 A = Q
  have L6 : ∀ (fuel : Nat) (y4_6 : Int32) (y5_6 : Int32), ∀ (H : Heap) (locs : List Loc) (ls : Array Slot), va_P D vwCl (wX9_rulesBy cy aM qM vM vM_r) H → va_D A (wX9_rulesBy cy aM qM vM vM_r) → va_S A s.heap H locs → lv_has ls 8 [(0, .ref aM), (1, .int x1), (2, .int x2), (3, .int x3), (4, .int y4_6), (5, .int y5_6)] → lp (fX9_rulesBy_B6 vM vM_r x1 x2 x3) fuel (y4_6, y5_6) = some zr → W p l e ({ frames := 1, cells := 0, slots := 0, locals := 25 } : Room) s m ([.ref aM, .int x1, .int x2, .int x3] : List Value).toArray below meth c H locs 0 0 Q (F0 m 6 ls []) := by
    intro fuel
    induction fuel with
    | zero => intro y4_6 y5_6 H locs ls hP hD hS hl hok; exact (lp_0 hok).elim
    | succ fuel ih6 =>
      intro y4_6 y5_6 H locs ls hP hD hS hl hok
      obtain ⟨y6, hok, hL6, hR6⟩ := lp_step hok
      have L16 : ∀ (fuel : Nat) (y4_16 : Int32) (y6_16 : Int32), ∀ (H : Heap) (locs : List Loc) (ls : Array Slot), va_P D vwCl (wX9_rulesBy cy aM qM vM vM_r) H → va_D A (wX9_rulesBy cy aM qM vM vM_r) → va_S A s.heap H locs → lv_has ls 8 [(0, .ref aM), (1, .int x1), (2, .int x2), (3, .int x3), (4, .int y4_16), (5, .int y5_6), (6, .int y6_16)] → lp (fX9_rulesBy_B16 vM vM_r x1 x2 x3 y5_6) fuel (y4_16, y6_16) = some y6 → W p l e ({ frames := 1, cells := 0, slots := 0, locals := 25 } : Room) s m ([.ref aM, .int x1, .int x2, .int x3] : List Value).toArray below meth c H locs 0 0 Q (F0 m 16 ls []) := by
        intro fuel
        induction fuel with
        | zero => intro y4_16 y6_16 H locs ls hP hD hS hl hok; exact (lp_0 hok).elim
        | succ fuel ih16 =>
          intro y4_16 y6_16 H locs ls hP hD hS hl hok
          obtain ⟨y16, hok, hL16, hR16⟩ := lp_step hok
          have L26 : ∀ (fuel : Nat) (y4_26 : Int32) (y7_26 : Int32), ∀ (H : Heap) (locs : List Loc) (ls : Array Slot), va_P D vwCl (wX9_rulesBy cy aM qM vM vM_r) H → va_D A (wX9_rulesBy cy aM qM vM vM_r) → va_S A s.heap H locs → lv_has ls 8 [(0, .ref aM), (1, .int x1), (2, .int x2), (3, .int x3), (4, .int y4_26), (5, .int y5_6), (6, .int y6_16), (7, .int y7_26)] → lp (fX9_rulesBy_B26 vM vM_r x1 x2 x3 y5_6 y6_16) fuel (y4_26, y7_26) = some y16 → W p l e ({ frames := 1, cells := 0, slots := 0, locals := 25 } : Room) s m ([.ref aM, .int x1, .int x2, .int x3] : List Value).toArray below meth c H locs 0 0 Q (F0 m 26 ls []) := by
            intro fuel
            induction fuel with
            | zero => intro y4_26 y7_26 H locs ls hP hD hS hl hok; exact (lp_0 hok).elim
            | succ fuel ih26 =>
              intro y4_26 y7_26 H locs ls hP hD hS hl hok
              obtain ⟨y26, hok, hL26, hR26⟩ := lp_step hok
              have J71 : ∀ (t0_71 : Int32), ∀ (H : Heap) (locs : List Loc) (ls : Array Slot), va_P D vwCl (wX9_rulesBy cy aM qM vM vM_r) H → va_D A (wX9_rulesBy cy aM qM vM vM_r) → va_S A s.heap H locs → lv_has ls 8 [(0, .ref aM), (1, .int x1), (2, .int x2), (3, .int x3), (5, .int y5_6), (6, .int y6_16), (7, .int y7_26)] → fX9_rulesBy_J71 y4_26 y7_26 t0_71 = some y26 → W p l e ({ frames := 1, cells := 0, slots := 0, locals := 25 } : Room) s m ([.ref aM, .int x1, .int x2, .int x3] : List Value).toArray below meth c H locs 0 0 Q (F0 m 71 ls [.int t0_71, .int y4_26]) := by
                intro t0_71 H locs ls hP hD hS hl hok
                unfold fX9_rulesBy_J71 at hok
                refine lv_iadd hx hb dX9_rulesBy_71 ?_
                refine lv_istore (lv' := [(4, .int (y4_26 + t0_71)), (0, .ref aM), (1, .int x1), (2, .int x2), (3, .int x3), (5, .int y5_6), (6, .int y6_16), (7, .int y7_26)]) hx hb dX9_rulesBy_72 hl (by decide) rfl (fun ls hl => ?_)
                refine lv_iinc (v := (y7_26 + 1)) (lv' := [(7, .int (y7_26 + 1)), (4, .int (y4_26 + t0_71)), (0, .ref aM), (1, .int x1), (2, .int x2), (3, .int x3), (5, .int y5_6), (6, .int y6_16)]) hx hb dX9_rulesBy_74 hl (k := 7) rfl (by first | rfl | decide) (by decide) rfl (fun ls hl => ?_)
                refine lv_goto (tgt := 26) hx hb dX9_rulesBy_77 (by decide) ?_
                exact ih26 (y4_26 + t0_71) (y7_26 + 1) H locs ls hP hD hS (lv_sub hl [2, 3, 4, 5, 1, 6, 7, 0] rfl) (hR26 _ (Option.some.inj hok).symm)
              have J70 : ∀ (H : Heap) (locs : List Loc) (ls : Array Slot), va_P D vwCl (wX9_rulesBy cy aM qM vM vM_r) H → va_D A (wX9_rulesBy cy aM qM vM vM_r) → va_S A s.heap H locs → lv_has ls 8 [(0, .ref aM), (1, .int x1), (2, .int x2), (3, .int x3), (5, .int y5_6), (6, .int y6_16), (7, .int y7_26)] → fX9_rulesBy_J70 y4_26 y7_26 = some y26 → W p l e ({ frames := 1, cells := 0, slots := 0, locals := 25 } : Room) s m ([.ref aM, .int x1, .int x2, .int x3] : List Value).toArray below meth c H locs 0 0 Q (F0 m 70 ls [.int y4_26]) := by
                intro  H locs ls hP hD hS hl hok
                unfold fX9_rulesBy_J70 at hok
                refine lv_iconst (v := 0) hx hb dX9_rulesBy_70 (by decide) ?_
                exact J71 (0 : Int32) H locs ls hP hD hS (lv_sub hl [0, 1, 2, 3, 4, 5, 6] rfl) hok
              have J66 : ∀ (H : Heap) (locs : List Loc) (ls : Array Slot), va_P D vwCl (wX9_rulesBy cy aM qM vM vM_r) H → va_D A (wX9_rulesBy cy aM qM vM vM_r) → va_S A s.heap H locs → lv_has ls 8 [(0, .ref aM), (1, .int x1), (2, .int x2), (3, .int x3), (5, .int y5_6), (6, .int y6_16), (7, .int y7_26)] → fX9_rulesBy_J66 y4_26 y7_26 = some y26 → W p l e ({ frames := 1, cells := 0, slots := 0, locals := 25 } : Room) s m ([.ref aM, .int x1, .int x2, .int x3] : List Value).toArray below meth c H locs 0 0 Q (F0 m 66 ls [.int y4_26]) := by
                intro  H locs ls hP hD hS hl hok
                unfold fX9_rulesBy_J66 at hok
                refine lv_iconst (v := 1) hx hb dX9_rulesBy_66 (by decide) ?_
                refine lv_goto (tgt := 71) hx hb dX9_rulesBy_67 (by decide) ?_
                exact J71 (1 : Int32) H locs ls hP hD hS (lv_sub hl [0, 1, 2, 3, 4, 5, 6] rfl) hok
              unfold fX9_rulesBy_B26 at hok
              try dsimp only at hok
              refine lv_iload hx hb dX9_rulesBy_26 (lv_at hl 7 rfl) ?_
              refine lv_iload hx hb dX9_rulesBy_28 (lv_at hl 5 rfl) ?_
              refine lv_icmp_ge (tgt := 80) hx hb dX9_rulesBy_30 (by decide) (fun c30 => ?_) (fun c30 => ?_)
              · have hok := k_pos c30 hok
                obtain ⟨e26, hok, he26⟩ := ex_some hok
                have hok := hok.trans (congrArg some (hL26 _ he26))
                refine lv_iinc (v := (y6_16 + 1)) (lv' := [(6, .int (y6_16 + 1)), (0, .ref aM), (1, .int x1), (2, .int x2), (3, .int x3), (4, .int y4_26), (5, .int y5_6), (7, .int y7_26)]) hx hb dX9_rulesBy_80 hl (k := 6) rfl (by first | rfl | decide) (by decide) rfl (fun ls hl => ?_)
                refine lv_goto (tgt := 16) hx hb dX9_rulesBy_83 (by decide) ?_
                exact ih16 y4_26 (y6_16 + 1) H locs ls hP hD hS (lv_sub hl [1, 2, 3, 4, 5, 6, 0] rfl) (hR16 _ (Option.some.inj hok).symm)
              · have hok := k_neg c30 hok
                refine lv_iload hx hb dX9_rulesBy_33 (lv_at hl 4 rfl) ?_
                refine lv_aload_n hx hb dX9_rulesBy_35 rfl (lv_at hl 0 rfl) ?_
                refine lv_iload hx hb dX9_rulesBy_36 (lv_at hl 5 rfl) ?_
                refine lv_iload hx hb dX9_rulesBy_38 (lv_at hl 6 rfl) ?_
                refine lv_iload hx hb dX9_rulesBy_40 (lv_at hl 7 rfl) ?_
                obtain ⟨r42, hc42, hok⟩ := k_bind hok
                refine kCi (wc := (wX9_isRule cy aM qM vM vM_r)) (wc2 := (wX9_isRule cy aM qM vM vM_r)) (wr := []) (ws2 := (wX9_rulesBy cy aM qM vM vM_r)) (kRunV (As := [.int y5_6, .int y6_16, .int y7_26]) (rest := [.int y4_26]) ⟨hx, hb, hml, hown, ht0⟩ (kX9_isRule l D cy _ aM qM vM vM_r y5_6 y6_16 y7_26 r42 hc42 _ rfl) (cwV 3 ht0 (gV wd986 wd987 wd988 wd744 wd989) rfl rfl rfl (by decide +kernel) ⟨Nat.le_of_ble_eq_true rfl, Nat.le_of_ble_eq_true rfl⟩) hK hN hP hD [0, 1] rfl (by decide) 0 8 rfl rfl rfl hl.1 rfl (Nat.le_of_ble_eq_true rfl) dX9_rulesBy_42 ⟨Nat.zero_le _, Nat.zero_le _⟩) hP hD hS hA [0, 1] [] rfl rfl (by decide) (by decide) [0, 1] (by decide) rfl rfl (fun H locs hP hD hS => ?_)
                refine lv_if_eq (tgt := 70) hx hb dX9_rulesBy_45 (by decide) (fun c45 => ?_) (fun c45 => ?_)
                · have hok := k_pos c45 hok
                  exact J70  H locs ls hP hD hS (lv_sub hl [0, 1, 2, 3, 5, 6, 7] rfl) hok
                · have hok := k_neg c45 hok
                  refine lv_iload_n hx hb dX9_rulesBy_48 rfl (lv_at hl 1 rfl) ?_
                  refine lv_if_ne (tgt := 66) hx hb dX9_rulesBy_49 (by decide) (fun c49 => ?_) (fun c49 => ?_)
                  · have hok := k_neg c49 hok
                    exact J66  H locs ls hP hD hS (lv_sub hl [0, 1, 2, 3, 5, 6, 7] rfl) hok
                  · have hok := k_pos c49 hok
                    refine lv_iload hx hb dX9_rulesBy_52 (lv_at hl 7 rfl) ?_
                    refine lv_iload hx hb dX9_rulesBy_54 (lv_at hl 6 rfl) ?_
                    refine lv_iload_n hx hb dX9_rulesBy_56 rfl (lv_at hl 2 rfl) ?_
                    refine lv_imul hx hb dX9_rulesBy_57 ?_
                    refine lv_iadd hx hb dX9_rulesBy_58 ?_
                    refine lv_iload hx hb dX9_rulesBy_59 (lv_at hl 5 rfl) ?_
                    obtain ⟨g61, hok⟩ := gd_some hok
                    refine lv_irem hx hb dX9_rulesBy_61 (nzI_ne g61) ?_
                    refine lv_iload_n hx hb dX9_rulesBy_62 rfl (lv_at hl 3 rfl) ?_
                    refine lv_icmp_ne (tgt := 70) hx hb dX9_rulesBy_63 (by decide) (fun c63 => ?_) (fun c63 => ?_)
                    · have hok := k_neg c63 hok
                      exact J70  H locs ls hP hD hS (lv_sub hl [0, 1, 2, 3, 5, 6, 7] rfl) hok
                    · have hok := k_pos c63 hok
                      exact J66  H locs ls hP hD hS (lv_sub hl [0, 1, 2, 3, 5, 6, 7] rfl) hok
          unfold fX9_rulesBy_B16 at hok
          try dsimp only at hok
          refine lv_iload hx hb dX9_rulesBy_16 (lv_at hl 6 rfl) ?_
          refine lv_iload hx hb dX9_rulesBy_18 (lv_at hl 5 rfl) ?_
          refine lv_icmp_ge (tgt := 86) hx hb dX9_rulesBy_20 (by decide) (fun c20 => ?_) (fun c20 => ?_)
          · have hok := k_pos c20 hok
            obtain ⟨e16, hok, he16⟩ := ex_some hok
            have hok := hok.trans (congrArg some (hL16 _ he16))
            refine lv_iinc (v := (y5_6 + 1)) (lv' := [(5, .int (y5_6 + 1)), (0, .ref aM), (1, .int x1), (2, .int x2), (3, .int x3), (4, .int y4_16), (6, .int y6_16)]) hx hb dX9_rulesBy_86 hl (k := 5) rfl (by first | rfl | decide) (by decide) rfl (fun ls hl => ?_)
            refine lv_goto (tgt := 6) hx hb dX9_rulesBy_89 (by decide) ?_
            exact ih6 y4_16 (y5_6 + 1) H locs ls hP hD hS (lv_sub hl [1, 2, 3, 4, 5, 0] rfl) (hR6 _ (Option.some.inj hok).symm)
          · have hok := k_neg c20 hok
            refine lv_iconst (v := 0) hx hb dX9_rulesBy_23 (by decide) ?_
            refine lv_istore (lv' := [(7, .int 0), (0, .ref aM), (1, .int x1), (2, .int x2), (3, .int x3), (4, .int y4_16), (5, .int y5_6), (6, .int y6_16)]) hx hb dX9_rulesBy_24 hl (by decide) rfl (fun ls hl => ?_)
            exact L26 5000 y4_16 (0 : Int32) H locs ls hP hD hS (lv_sub hl [1, 2, 3, 4, 5, 6, 7, 0] rfl) hok
      unfold fX9_rulesBy_B6 at hok
      try dsimp only at hok
      refine lv_iload hx hb dX9_rulesBy_6 (lv_at hl 5 rfl) ?_
      refine lv_bipush (v := 12) hx hb dX9_rulesBy_8 (by decide) ?_
      refine lv_icmp_gt (tgt := 92) hx hb dX9_rulesBy_10 (by decide) (fun c10 => ?_) (fun c10 => ?_)
      · have hok := k_pos c10 hok
        obtain ⟨e6, hok, he6⟩ := ex_some hok
        have hok := hok.trans (congrArg some (hL6 _ he6))
        refine lv_iload hx hb dX9_rulesBy_92 (lv_at hl 4 rfl) ?_
        cases hok
        subst hQe; exact W.iret hx hb hr (fun t ht hW => ⟨⟨_, (), rfl, rfl, by rw [ht]; exact hP, va_K.moved hW.alike hK, hD⟩, hS.F ht⟩) hS.2.2 dX9_rulesBy_94
      · have hok := k_neg c10 hok
        refine lv_iconst (v := 1) hx hb dX9_rulesBy_13 (by decide) ?_
        refine lv_istore (lv' := [(6, .int 1), (0, .ref aM), (1, .int x1), (2, .int x2), (3, .int x3), (4, .int y4_6), (5, .int y5_6)]) hx hb dX9_rulesBy_14 hl (by decide) rfl (fun ls hl => ?_)
        exact L16 5000 y4_6 (1 : Int32) H locs ls hP hD hS (lv_sub hl [1, 2, 3, 4, 5, 6, 0] rfl) hok
  unfold fX9_rulesBy at hok
  obtain ⟨H, hH⟩ : ∃ H, H = s.heap := ⟨_, rfl⟩
  obtain ⟨locs, hlc⟩ : ∃ x : List Loc, x = [] := ⟨_, rfl⟩
  have hP : va_P D vwCl (wX9_rulesBy cy aM qM vM vM_r) H := by rw [hH]; exact hP
  have hS : va_S A s.heap H locs := by rw [hH, hlc]; exact hS
  rw [show W p l e _ s m _ below meth c s.heap [] = W p l e _ s m _ below meth c H locs from by rw [hH, hlc]]
  refine lv_iconst (v := 0) hx hb dX9_rulesBy_0 (by decide) ?_
  refine lv_istore (lv' := [(4, .int 0), (0, .ref aM), (1, .int x1), (2, .int x2), (3, .int x3)]) hx hb dX9_rulesBy_1 hl (by decide) rfl (fun ls hl => ?_)
  refine lv_iconst (v := 2) hx hb dX9_rulesBy_3 (by decide) ?_
  refine lv_istore (lv' := [(5, .int 2), (4, .int 0), (0, .ref aM), (1, .int x1), (2, .int x2), (3, .int x3)]) hx hb dX9_rulesBy_4 hl (by decide) rfl (fun ls hl => ?_)
  exact L6 5000 (0 : Int32) (2 : Int32) H locs ls hP hD hS (lv_sub hl [2, 3, 4, 5, 1, 0] rfl) hok
def wsX9_rules : List Cond := .code yX9_rules cX9_rules 1 (some .int) :: W0
abbrev wX9_rules (cy : Nat → ClassId) (aM : Nat) (qM : Nat → Nat) (vM : Nat → Int32) (vM_r : Nat → Int32) : va_W := [(aM, oX9 vM qM), (qM 15, rI cy 224 vM_r)]
set_option maxHeartbeats 4000000 in
set_option maxRecDepth 100000 in
theorem kX9_rules (l : Launch) (D : va_G) (cy : Nat → ClassId) (sz : Nat) (aM : Nat) (qM : Nat → Nat) (vM : Nat → Int32) (vM_r : Nat → Int32) (zr : Int32) (z_vM : Nat → Int32) (hok : fX9_rules vM vM_r = some (zr, z_vM)) (A : Nat → Prop) (hAe : va_A (wX9_rules cy aM qM vM vM_r) sz = A) : Met l yX9_rules wsX9_rules ({ frames := 2, cells := 0, slots := 0, locals := 52 } : Room) (kPre D cy [.ref aM] (wX9_rules cy aM qM vM vM_r) sz) (kQi D cy zr A (wX9_rules cy aM qM z_vM vM_r)) 0 0 A := by
  refine Met.ofW (cc := cX9_rules) (maxL := 1) (ret := (some .int)) (by decide) rfl ?_
  intro p e s m args below meth c s₁ B hml hv
  obtain ⟨rfl, hsz, hP, hK, hD0, hN⟩ := hv
  have hx := B.exec
  have hb := B.bytes
  have hr := B.returns
  have ht0 : ∀ w ∈ W0, w.before _ s = true := fun w h => atoms_spec (ws := wsX9_rules) B.pre w (List.mem_cons_of_mem _ h)
  have hown : s.vm.findClass RX9 = some m.cls := findClass_of_methodNamed B.named
  have hlocks := B.notSynchronized
  subst hsz
  have hD : va_D A (wX9_rules cy aM qM vM vM_r) := by rw [← hAe]; exact hD0.self
  have hA : ∀ q : Nat, s.heap.size ≤ q → A q := fun q h => by rw [← hAe]; exact Or.inr h
  have hS : va_S A s.heap s.heap [] := va_S.rf
  have hl := lv_entry ([.ref aM]) (n := 1) (Nat.le_of_ble_eq_true rfl)
  rw [lg_entry_eq]
  generalize (lg_sl ([.ref aM]) ++ List.replicate (1 - (lg_sl ([.ref aM])).length) Slot.unset).toArray = ls at hl ⊢
  have hl : lv_has ls 1 [(0, .ref aM)] := hl
  generalize hQe : MQ below (kQi D cy zr A (wX9_rules cy aM qM z_vM vM_r)) ([.ref aM] : List Value).toArray s 0 0 A = Q
  have J26 : ∀ (t0_26 : Int32) (vM_26 : Nat → Int32), ∀ (H : Heap) (locs : List Loc) (ls : Array Slot), va_P D vwCl (wX9_rules cy aM qM vM_26 vM_r) H → va_D A (wX9_rules cy aM qM vM_26 vM_r) → va_S A s.heap H locs → lv_has ls 1 [] → fX9_rules_J26 t0_26 vM_26 = some (zr, z_vM) → W p l e ({ frames := 2, cells := 0, slots := 0, locals := 52 } : Room) s m ([.ref aM] : List Value).toArray below meth c H locs 0 0 Q (F0 m 26 ls [.int t0_26]) := by
    intro t0_26 vM_26 H locs ls hP hD hS hl hok
    unfold fX9_rules_J26 at hok
    cases hok
    subst hQe; exact W.iret hx hb hr (fun t ht hW => ⟨⟨_, (), rfl, rfl, by rw [ht]; exact hP, va_K.moved hW.alike hK, hD⟩, hS.F ht⟩) hS.2.2 dX9_rules_26
  unfold fX9_rules at hok
  obtain ⟨H, hH⟩ : ∃ H, H = s.heap := ⟨_, rfl⟩
  obtain ⟨locs, hlc⟩ : ∃ x : List Loc, x = [] := ⟨_, rfl⟩
  have hP : va_P D vwCl (wX9_rules cy aM qM vM vM_r) H := by rw [hH]; exact hP
  have hS : va_S A s.heap H locs := by rw [hH, hlc]; exact hS
  rw [show W p l e _ s m _ below meth c s.heap [] = W p l e _ s m _ below meth c H locs from by rw [hH, hlc]]
  refine lv_aload_n hx hb dX9_rules_0 rfl (lv_at hl 0 rfl) ?_
  obtain ⟨vM_1, hc1, hok⟩ := k_bind hok
  refine kCv (wc := (wX9_good cy aM qM vM)) (wc2 := (wX9_good cy aM qM vM_1)) (wr := [(qM 15, rI cy 224 vM_r)]) (ws2 := (wX9_rules cy aM qM vM_1 vM_r)) (kRunV (As := []) (rest := []) ⟨hx, hb, hml, hown, ht0⟩ (kX9_good l D cy _ aM qM vM vM_1 hc1 _ rfl) (cwV 0 ht0 (gV wd870 wd871 wd872 wd744 wd873) rfl rfl rfl (by decide +kernel) ⟨Nat.le_of_ble_eq_true rfl, Nat.le_of_ble_eq_true rfl⟩) hK hN hP hD [0] rfl (by decide) 0 8 rfl rfl rfl hl.1 rfl (Nat.le_of_ble_eq_true rfl) dX9_rules_1 ⟨Nat.zero_le _, Nat.zero_le _⟩) hP hD hS hA [0] [1] rfl rfl (by decide) (by decide) [1, 0] (by decide) rfl rfl (fun H locs hP hD hS => ?_)
  refine lv_aload_n hx hb dX9_rules_4 rfl (lv_at hl 0 rfl) ?_
  refine va_get (D := D) (ci := 8) (v := .int (vM_1 14)) (C := RX9) (T := TX9) (N := 29) hx hb ht0 niX9 hown hK hP 0 rfl rfl 14 (by decide) (ht0 _ wd855) (fun _ h9 => h9) rfl dX9_rules_5 ?_
  refine lv_if_eq (tgt := 21) hx hb dX9_rules_8 (by decide) (fun c8 => ?_) (fun c8 => ?_)
  · have hok := k_pos c8 hok
    refine lv_aload_n hx hb dX9_rules_21 rfl (lv_at hl 0 rfl) ?_
    refine lv_iconst (v := 1) hx hb dX9_rules_22 (by decide) ?_
    obtain ⟨⟨r23, vM_23⟩, hc23, hok⟩ := k_bind hok
    try dsimp only at hok
    refine kCi (wc := (wX9_no cy aM qM vM_1)) (wc2 := (wX9_no cy aM qM vM_23)) (wr := [(qM 15, rI cy 224 vM_r)]) (ws2 := (wX9_rules cy aM qM vM_23 vM_r)) (kRunV (As := [.int 1]) (rest := []) ⟨hx, hb, hml, hown, ht0⟩ (kX9_no l D cy _ aM qM vM_1 (1 : Int32) r23 vM_23 hc23 _ rfl) (cwV 1 ht0 (gV wd862 wd863 wd864 wd744 wd865) rfl rfl rfl (by decide +kernel) ⟨Nat.le_of_ble_eq_true rfl, Nat.le_of_ble_eq_true rfl⟩) hK hN hP hD [0] rfl (by decide) 0 8 rfl rfl rfl hl.1 rfl (Nat.le_of_ble_eq_true rfl) dX9_rules_23 ⟨Nat.zero_le _, Nat.zero_le _⟩) hP hD hS hA [0] [1] rfl rfl (by decide) (by decide) [1, 0] (by decide) rfl rfl (fun H locs hP hD hS => ?_)
    exact J26 r23 vM_23 H locs ls hP hD hS (lv_sub hl [] rfl) hok
  · have hok := k_neg c8 hok
    refine lv_aload_n hx hb dX9_rules_11 rfl (lv_at hl 0 rfl) ?_
    refine lv_iconst (v := 1) hx hb dX9_rules_12 (by decide) ?_
    refine lv_iconst (v := 0) hx hb dX9_rules_13 (by decide) ?_
    refine lv_iconst (v := 0) hx hb dX9_rules_14 (by decide) ?_
    obtain ⟨r15, hc15, hok⟩ := k_bind hok
    refine kCi (wc := (wX9_rulesBy cy aM qM vM_1 vM_r)) (wc2 := (wX9_rulesBy cy aM qM vM_1 vM_r)) (wr := []) (ws2 := (wX9_rules cy aM qM vM_1 vM_r)) (kRunV (As := [.int 1, .int 0, .int 0]) (rest := []) ⟨hx, hb, hml, hown, ht0⟩ (kX9_rulesBy l D cy _ aM qM vM_1 vM_r (1 : Int32) (0 : Int32) (0 : Int32) r15 hc15 _ rfl) (cwV 3 ht0 (gV wd990 wd991 wd992 wd744 wd993) rfl rfl rfl (by decide +kernel) ⟨Nat.le_of_ble_eq_true rfl, Nat.le_of_ble_eq_true rfl⟩) hK hN hP hD [0, 1] rfl (by decide) 0 8 rfl rfl rfl hl.1 rfl (Nat.le_of_ble_eq_true rfl) dX9_rules_15 ⟨Nat.zero_le _, Nat.zero_le _⟩) hP hD hS hA [0, 1] [] rfl rfl (by decide) (by decide) [0, 1] (by decide) rfl rfl (fun H locs hP hD hS => ?_)
    refine lv_goto (tgt := 26) hx hb dX9_rules_18 (by decide) ?_
    exact J26 r15 vM_1 H locs ls hP hD hS (lv_sub hl [] rfl) hok
def wsX9_ruleAt : List Cond := .code yX9_ruleAt cX9_ruleAt 6 (some .int) :: W0
abbrev wX9_ruleAt (cy : Nat → ClassId) (aM : Nat) (qM : Nat → Nat) (vM : Nat → Int32) (vM_r : Nat → Int32) : va_W := [(aM, oX9 vM qM), (qM 15, rI cy 224 vM_r)]
set_option maxHeartbeats 4000000 in
set_option maxRecDepth 100000 in
theorem kX9_ruleAt (l : Launch) (D : va_G) (cy : Nat → ClassId) (sz : Nat) (aM : Nat) (qM : Nat → Nat) (vM : Nat → Int32) (vM_r : Nat → Int32) (x1 : Int32) (zr : Int32) (z_vM : Nat → Int32) (hok : fX9_ruleAt vM vM_r x1 = some (zr, z_vM)) (A : Nat → Prop) (hAe : va_A (wX9_ruleAt cy aM qM vM vM_r) sz = A) : Met l yX9_ruleAt wsX9_ruleAt ({ frames := 1, cells := 0, slots := 0, locals := 25 } : Room) (kPre D cy [.ref aM, .int x1] (wX9_ruleAt cy aM qM vM vM_r) sz) (kQi D cy zr A (wX9_ruleAt cy aM qM z_vM vM_r)) 0 0 A := by
  refine Met.ofW (cc := cX9_ruleAt) (maxL := 6) (ret := (some .int)) (by decide) rfl ?_
  intro p e s m args below meth c s₁ B hml hv
  obtain ⟨rfl, hsz, hP, hK, hD0, hN⟩ := hv
  have hx := B.exec
  have hb := B.bytes
  have hr := B.returns
  have ht0 : ∀ w ∈ W0, w.before _ s = true := fun w h => atoms_spec (ws := wsX9_ruleAt) B.pre w (List.mem_cons_of_mem _ h)
  have hown : s.vm.findClass RX9 = some m.cls := findClass_of_methodNamed B.named
  have hlocks := B.notSynchronized
  subst hsz
  have hD : va_D A (wX9_ruleAt cy aM qM vM vM_r) := by rw [← hAe]; exact hD0.self
  have hA : ∀ q : Nat, s.heap.size ≤ q → A q := fun q h => by rw [← hAe]; exact Or.inr h
  have hS : va_S A s.heap s.heap [] := va_S.rf
  have hl := lv_entry ([.ref aM, .int x1]) (n := 6) (Nat.le_of_ble_eq_true rfl)
  rw [lg_entry_eq]
  generalize (lg_sl ([.ref aM, .int x1]) ++ List.replicate (6 - (lg_sl ([.ref aM, .int x1])).length) Slot.unset).toArray = ls at hl ⊢
  have hl : lv_has ls 6 [(0, .ref aM), (1, .int x1)] := hl
  generalize hQe : MQ below (kQi D cy zr A (wX9_ruleAt cy aM qM z_vM vM_r)) ([.ref aM, .int x1] : List Value).toArray s 0 0 A = Q
  have L21 : ∀ (fuel : Nat) (y2_21 : Int32) (y3_21 : Int32) (vM_21 : Nat → Int32), ∀ (H : Heap) (locs : List Loc) (ls : Array Slot), va_P D vwCl (wX9_ruleAt cy aM qM vM_21 vM_r) H → va_D A (wX9_ruleAt cy aM qM vM_21 vM_r) → va_S A s.heap H locs → lv_has ls 6 [(0, .ref aM), (1, .int x1), (2, .int y2_21), (3, .int y3_21)] → lp (fX9_ruleAt_B21 vM_r x1) fuel (y2_21, y3_21, vM_21) = some (zr, z_vM) → W p l e ({ frames := 1, cells := 0, slots := 0, locals := 25 } : Room) s m ([.ref aM, .int x1] : List Value).toArray below meth c H locs 0 0 Q (F0 m 21 ls []) := by
    intro fuel
    induction fuel with
    | zero => intro y2_21 y3_21 vM_21 H locs ls hP hD hS hl hok; exact (lp_0 hok).elim
    | succ fuel ih21 =>
      intro y2_21 y3_21 vM_21 H locs ls hP hD hS hl hok
      obtain ⟨y21, hok, hL21, hR21⟩ := lp_step hok
      have L30 : ∀ (fuel : Nat) (y2_30 : Int32) (y4_30 : Int32), ∀ (H : Heap) (locs : List Loc) (ls : Array Slot), va_P D vwCl (wX9_ruleAt cy aM qM vM_21 vM_r) H → va_D A (wX9_ruleAt cy aM qM vM_21 vM_r) → va_S A s.heap H locs → lv_has ls 6 [(0, .ref aM), (1, .int x1), (2, .int y2_30), (3, .int y3_21), (4, .int y4_30)] → lp (fX9_ruleAt_B30 vM_r x1 y3_21 vM_21) fuel (y2_30, y4_30) = some y21 → W p l e ({ frames := 1, cells := 0, slots := 0, locals := 25 } : Room) s m ([.ref aM, .int x1] : List Value).toArray below meth c H locs 0 0 Q (F0 m 30 ls []) := by
        intro fuel
        induction fuel with
        | zero => intro y2_30 y4_30 H locs ls hP hD hS hl hok; exact (lp_0 hok).elim
        | succ fuel ih30 =>
          intro y2_30 y4_30 H locs ls hP hD hS hl hok
          obtain ⟨y30, hok, hL30, hR30⟩ := lp_step hok
          have L39 : ∀ (fuel : Nat) (y2_39 : Int32) (y5_39 : Int32), ∀ (H : Heap) (locs : List Loc) (ls : Array Slot), va_P D vwCl (wX9_ruleAt cy aM qM vM_21 vM_r) H → va_D A (wX9_ruleAt cy aM qM vM_21 vM_r) → va_S A s.heap H locs → lv_has ls 6 [(0, .ref aM), (1, .int x1), (2, .int y2_39), (3, .int y3_21), (4, .int y4_30), (5, .int y5_39)] → lp (fX9_ruleAt_B39 vM_r x1 y3_21 vM_21 y4_30) fuel (y2_39, y5_39) = some y30 → W p l e ({ frames := 1, cells := 0, slots := 0, locals := 25 } : Room) s m ([.ref aM, .int x1] : List Value).toArray below meth c H locs 0 0 Q (F0 m 39 ls []) := by
            intro fuel
            induction fuel with
            | zero => intro y2_39 y5_39 H locs ls hP hD hS hl hok; exact (lp_0 hok).elim
            | succ fuel ih39 =>
              intro y2_39 y5_39 H locs ls hP hD hS hl hok
              obtain ⟨y39, hok, hL39, hR39⟩ := lp_step hok
              have J83 : ∀ (y2_83 : Int32), ∀ (H : Heap) (locs : List Loc) (ls : Array Slot), va_P D vwCl (wX9_ruleAt cy aM qM vM_21 vM_r) H → va_D A (wX9_ruleAt cy aM qM vM_21 vM_r) → va_S A s.heap H locs → lv_has ls 6 [(0, .ref aM), (1, .int x1), (2, .int y2_83), (3, .int y3_21), (4, .int y4_30), (5, .int y5_39)] → fX9_ruleAt_J83 y5_39 y2_83 = some y39 → W p l e ({ frames := 1, cells := 0, slots := 0, locals := 25 } : Room) s m ([.ref aM, .int x1] : List Value).toArray below meth c H locs 0 0 Q (F0 m 83 ls []) := by
                intro y2_83 H locs ls hP hD hS hl hok
                unfold fX9_ruleAt_J83 at hok
                refine lv_iinc (v := (y5_39 + 1)) (lv' := [(5, .int (y5_39 + 1)), (0, .ref aM), (1, .int x1), (2, .int y2_83), (3, .int y3_21), (4, .int y4_30)]) hx hb dX9_ruleAt_83 hl (k := 5) rfl (by first | rfl | decide) (by decide) rfl (fun ls hl => ?_)
                refine lv_goto (tgt := 39) hx hb dX9_ruleAt_86 (by decide) ?_
                exact ih39 y2_83 (y5_39 + 1) H locs ls hP hD hS (lv_sub hl [1, 2, 3, 4, 5, 0] rfl) (hR39 _ (Option.some.inj hok).symm)
              unfold fX9_ruleAt_B39 at hok
              try dsimp only at hok
              refine lv_iload hx hb dX9_ruleAt_39 (lv_at hl 5 rfl) ?_
              refine lv_iload_n hx hb dX9_ruleAt_41 rfl (lv_at hl 3 rfl) ?_
              refine lv_icmp_ge (tgt := 89) hx hb dX9_ruleAt_42 (by decide) (fun c42 => ?_) (fun c42 => ?_)
              · have hok := k_pos c42 hok
                obtain ⟨e39, hok, he39⟩ := ex_some hok
                have hok := hok.trans (congrArg some (hL39 _ he39))
                refine lv_iinc (v := (y4_30 + 1)) (lv' := [(4, .int (y4_30 + 1)), (0, .ref aM), (1, .int x1), (2, .int y2_39), (3, .int y3_21), (5, .int y5_39)]) hx hb dX9_ruleAt_89 hl (k := 4) rfl (by first | rfl | decide) (by decide) rfl (fun ls hl => ?_)
                refine lv_goto (tgt := 30) hx hb dX9_ruleAt_92 (by decide) ?_
                exact ih30 y2_39 (y4_30 + 1) H locs ls hP hD hS (lv_sub hl [1, 2, 3, 4, 0] rfl) (hR30 _ (Option.some.inj hok).symm)
              · have hok := k_neg c42 hok
                refine lv_aload_n hx hb dX9_ruleAt_45 rfl (lv_at hl 0 rfl) ?_
                refine lv_iload_n hx hb dX9_ruleAt_46 rfl (lv_at hl 3 rfl) ?_
                refine lv_iload hx hb dX9_ruleAt_47 (lv_at hl 4 rfl) ?_
                refine lv_iload hx hb dX9_ruleAt_49 (lv_at hl 5 rfl) ?_
                obtain ⟨r51, hc51, hok⟩ := k_bind hok
                refine kCi (wc := (wX9_isRule cy aM qM vM_21 vM_r)) (wc2 := (wX9_isRule cy aM qM vM_21 vM_r)) (wr := []) (ws2 := (wX9_ruleAt cy aM qM vM_21 vM_r)) (kRunV (As := [.int y3_21, .int y4_30, .int y5_39]) (rest := []) ⟨hx, hb, hml, hown, ht0⟩ (kX9_isRule l D cy _ aM qM vM_21 vM_r y3_21 y4_30 y5_39 r51 hc51 _ rfl) (cwV 3 ht0 (gV wd986 wd987 wd988 wd744 wd989) rfl rfl rfl (by decide +kernel) ⟨Nat.le_of_ble_eq_true rfl, Nat.le_of_ble_eq_true rfl⟩) hK hN hP hD [0, 1] rfl (by decide) 0 8 rfl rfl rfl hl.1 rfl (Nat.le_of_ble_eq_true rfl) dX9_ruleAt_51 ⟨Nat.zero_le _, Nat.zero_le _⟩) hP hD hS hA [0, 1] [] rfl rfl (by decide) (by decide) [0, 1] (by decide) rfl rfl (fun H locs hP hD hS => ?_)
                refine lv_if_ne (tgt := 60) hx hb dX9_ruleAt_54 (by decide) (fun c54 => ?_) (fun c54 => ?_)
                · have hok := k_neg c54 hok
                  refine lv_iload_n hx hb dX9_ruleAt_60 rfl (lv_at hl 2 rfl) ?_
                  refine lv_iload_n hx hb dX9_ruleAt_61 rfl (lv_at hl 1 rfl) ?_
                  refine lv_icmp_ne (tgt := 80) hx hb dX9_ruleAt_62 (by decide) (fun c62 => ?_) (fun c62 => ?_)
                  · have hok := k_neg c62 hok
                    refine lv_iinc (v := (y2_39 + 1)) (lv' := [(2, .int (y2_39 + 1)), (0, .ref aM), (1, .int x1), (3, .int y3_21), (4, .int y4_30), (5, .int y5_39)]) hx hb dX9_ruleAt_80 hl (k := 2) rfl (by first | rfl | decide) (by decide) rfl (fun ls hl => ?_)
                    exact J83 (y2_39 + 1) H locs ls hP hD hS (lv_sub hl [1, 2, 0, 3, 4, 5] rfl) hok
                  · have hok := k_pos c62 hok
                    obtain ⟨e39, hok, he39⟩ := ex_some hok
                    have hok := hok.trans (congrArg some (hL39 _ he39))
                    obtain ⟨e30, hok, he30⟩ := ex_some hok
                    have hok := hok.trans (congrArg some (hL30 _ he30))
                    obtain ⟨e21, hok, he21⟩ := ex_some hok
                    have hok := hok.trans (congrArg some (hL21 _ he21))
                    refine lv_sipush (v := 10000) hx hb dX9_ruleAt_65 (by decide) ?_
                    refine lv_iload_n hx hb dX9_ruleAt_68 rfl (lv_at hl 3 rfl) ?_
                    refine lv_imul hx hb dX9_ruleAt_69 ?_
                    refine lv_bipush (v := 100) hx hb dX9_ruleAt_70 (by decide) ?_
                    refine lv_iload hx hb dX9_ruleAt_72 (lv_at hl 4 rfl) ?_
                    refine lv_imul hx hb dX9_ruleAt_74 ?_
                    refine lv_iadd hx hb dX9_ruleAt_75 ?_
                    refine lv_iload hx hb dX9_ruleAt_76 (lv_at hl 5 rfl) ?_
                    refine lv_iadd hx hb dX9_ruleAt_78 ?_
                    cases hok
                    subst hQe; exact W.iret hx hb hr (fun t ht hW => ⟨⟨_, (), rfl, rfl, by rw [ht]; exact hP, va_K.moved hW.alike hK, hD⟩, hS.F ht⟩) hS.2.2 dX9_ruleAt_79
                · have hok := k_pos c54 hok
                  refine lv_goto (tgt := 83) hx hb dX9_ruleAt_57 (by decide) ?_
                  exact J83 y2_39 H locs ls hP hD hS (lv_sub hl [0, 1, 2, 3, 4, 5] rfl) hok
          unfold fX9_ruleAt_B30 at hok
          try dsimp only at hok
          refine lv_iload hx hb dX9_ruleAt_30 (lv_at hl 4 rfl) ?_
          refine lv_iload_n hx hb dX9_ruleAt_32 rfl (lv_at hl 3 rfl) ?_
          refine lv_icmp_ge (tgt := 95) hx hb dX9_ruleAt_33 (by decide) (fun c33 => ?_) (fun c33 => ?_)
          · have hok := k_pos c33 hok
            obtain ⟨e30, hok, he30⟩ := ex_some hok
            have hok := hok.trans (congrArg some (hL30 _ he30))
            refine lv_iinc (v := (y3_21 + 1)) (lv' := [(3, .int (y3_21 + 1)), (0, .ref aM), (1, .int x1), (2, .int y2_30), (4, .int y4_30)]) hx hb dX9_ruleAt_95 hl (k := 3) rfl (by first | rfl | decide) (by decide) rfl (fun ls hl => ?_)
            refine lv_goto (tgt := 21) hx hb dX9_ruleAt_98 (by decide) ?_
            exact ih21 y2_30 (y3_21 + 1) vM_21 H locs ls hP hD hS (lv_sub hl [1, 2, 3, 0] rfl) (hR21 _ (Option.some.inj hok).symm)
          · have hok := k_neg c33 hok
            refine lv_iconst (v := 0) hx hb dX9_ruleAt_36 (by decide) ?_
            refine lv_istore (lv' := [(5, .int 0), (0, .ref aM), (1, .int x1), (2, .int y2_30), (3, .int y3_21), (4, .int y4_30)]) hx hb dX9_ruleAt_37 hl (by decide) rfl (fun ls hl => ?_)
            exact L39 5000 y2_30 (0 : Int32) H locs ls hP hD hS (lv_sub hl [1, 2, 3, 4, 5, 0] rfl) hok
      unfold fX9_ruleAt_B21 at hok
      try dsimp only at hok
      refine lv_iload_n hx hb dX9_ruleAt_21 rfl (lv_at hl 3 rfl) ?_
      refine lv_bipush (v := 12) hx hb dX9_ruleAt_22 (by decide) ?_
      refine lv_icmp_gt (tgt := 101) hx hb dX9_ruleAt_24 (by decide) (fun c24 => ?_) (fun c24 => ?_)
      · have hok := k_pos c24 hok
        obtain ⟨e21, hok, he21⟩ := ex_some hok
        have hok := hok.trans (congrArg some (hL21 _ he21))
        refine lv_aload_n hx hb dX9_ruleAt_101 rfl (lv_at hl 0 rfl) ?_
        refine lv_iconst (v := 1) hx hb dX9_ruleAt_102 (by decide) ?_
        obtain ⟨⟨r103, vM_103⟩, hc103, hok⟩ := k_bind hok
        try dsimp only at hok
        refine kCi (wc := (wX9_no cy aM qM vM_21)) (wc2 := (wX9_no cy aM qM vM_103)) (wr := [(qM 15, rI cy 224 vM_r)]) (ws2 := (wX9_ruleAt cy aM qM vM_103 vM_r)) (kRunV (As := [.int 1]) (rest := []) ⟨hx, hb, hml, hown, ht0⟩ (kX9_no l D cy _ aM qM vM_21 (1 : Int32) r103 vM_103 hc103 _ rfl) (cwV 1 ht0 (gV wd862 wd863 wd864 wd744 wd865) rfl rfl rfl (by decide +kernel) ⟨Nat.le_of_ble_eq_true rfl, Nat.le_of_ble_eq_true rfl⟩) hK hN hP hD [0] rfl (by decide) 0 8 rfl rfl rfl hl.1 rfl (Nat.le_of_ble_eq_true rfl) dX9_ruleAt_103 ⟨Nat.zero_le _, Nat.zero_le _⟩) hP hD hS hA [0] [1] rfl rfl (by decide) (by decide) [1, 0] (by decide) rfl rfl (fun H locs hP hD hS => ?_)
        cases hok
        subst hQe; exact W.iret hx hb hr (fun t ht hW => ⟨⟨_, (), rfl, rfl, by rw [ht]; exact hP, va_K.moved hW.alike hK, hD⟩, hS.F ht⟩) hS.2.2 dX9_ruleAt_106
      · have hok := k_neg c24 hok
        refine lv_iconst (v := 1) hx hb dX9_ruleAt_27 (by decide) ?_
        refine lv_istore (lv' := [(4, .int 1), (0, .ref aM), (1, .int x1), (2, .int y2_21), (3, .int y3_21)]) hx hb dX9_ruleAt_28 hl (by decide) rfl (fun ls hl => ?_)
        exact L30 5000 y2_21 (1 : Int32) H locs ls hP hD hS (lv_sub hl [1, 2, 3, 4, 0] rfl) hok
  unfold fX9_ruleAt at hok
  obtain ⟨H, hH⟩ : ∃ H, H = s.heap := ⟨_, rfl⟩
  obtain ⟨locs, hlc⟩ : ∃ x : List Loc, x = [] := ⟨_, rfl⟩
  have hP : va_P D vwCl (wX9_ruleAt cy aM qM vM vM_r) H := by rw [hH]; exact hP
  have hS : va_S A s.heap H locs := by rw [hH, hlc]; exact hS
  rw [show W p l e _ s m _ below meth c s.heap [] = W p l e _ s m _ below meth c H locs from by rw [hH, hlc]]
  refine lv_aload_n hx hb dX9_ruleAt_0 rfl (lv_at hl 0 rfl) ?_
  obtain ⟨vM_1, hc1, hok⟩ := k_bind hok
  refine kCv (wc := (wX9_good cy aM qM vM)) (wc2 := (wX9_good cy aM qM vM_1)) (wr := [(qM 15, rI cy 224 vM_r)]) (ws2 := (wX9_ruleAt cy aM qM vM_1 vM_r)) (kRunV (As := []) (rest := []) ⟨hx, hb, hml, hown, ht0⟩ (kX9_good l D cy _ aM qM vM vM_1 hc1 _ rfl) (cwV 0 ht0 (gV wd870 wd871 wd872 wd744 wd873) rfl rfl rfl (by decide +kernel) ⟨Nat.le_of_ble_eq_true rfl, Nat.le_of_ble_eq_true rfl⟩) hK hN hP hD [0] rfl (by decide) 0 8 rfl rfl rfl hl.1 rfl (Nat.le_of_ble_eq_true rfl) dX9_ruleAt_1 ⟨Nat.zero_le _, Nat.zero_le _⟩) hP hD hS hA [0] [1] rfl rfl (by decide) (by decide) [1, 0] (by decide) rfl rfl (fun H locs hP hD hS => ?_)
  refine lv_aload_n hx hb dX9_ruleAt_4 rfl (lv_at hl 0 rfl) ?_
  refine va_get (D := D) (ci := 8) (v := .int (vM_1 14)) (C := RX9) (T := TX9) (N := 29) hx hb ht0 niX9 hown hK hP 0 rfl rfl 14 (by decide) (ht0 _ wd855) (fun _ h9 => h9) rfl dX9_ruleAt_5 ?_
  refine lv_if_ne (tgt := 17) hx hb dX9_ruleAt_8 (by decide) (fun c8 => ?_) (fun c8 => ?_)
  · have hok := k_neg c8 hok
    refine lv_iconst (v := 0) hx hb dX9_ruleAt_17 (by decide) ?_
    refine lv_istore_n (lv' := [(2, .int 0), (0, .ref aM), (1, .int x1)]) hx hb dX9_ruleAt_18 rfl hl (by decide) rfl (fun ls hl => ?_)
    refine lv_iconst (v := 2) hx hb dX9_ruleAt_19 (by decide) ?_
    refine lv_istore_n (lv' := [(3, .int 2), (2, .int 0), (0, .ref aM), (1, .int x1)]) hx hb dX9_ruleAt_20 rfl hl (by decide) rfl (fun ls hl => ?_)
    exact L21 5000 (0 : Int32) (2 : Int32) vM_1 H locs ls hP hD hS (lv_sub hl [2, 3, 1, 0] rfl) hok
  · have hok := k_pos c8 hok
    refine lv_aload_n hx hb dX9_ruleAt_11 rfl (lv_at hl 0 rfl) ?_
    refine lv_iconst (v := 1) hx hb dX9_ruleAt_12 (by decide) ?_
    obtain ⟨⟨r13, vM_13⟩, hc13, hok⟩ := k_bind hok
    try dsimp only at hok
    refine kCi (wc := (wX9_no cy aM qM vM_1)) (wc2 := (wX9_no cy aM qM vM_13)) (wr := [(qM 15, rI cy 224 vM_r)]) (ws2 := (wX9_ruleAt cy aM qM vM_13 vM_r)) (kRunV (As := [.int 1]) (rest := []) ⟨hx, hb, hml, hown, ht0⟩ (kX9_no l D cy _ aM qM vM_1 (1 : Int32) r13 vM_13 hc13 _ rfl) (cwV 1 ht0 (gV wd862 wd863 wd864 wd744 wd865) rfl rfl rfl (by decide +kernel) ⟨Nat.le_of_ble_eq_true rfl, Nat.le_of_ble_eq_true rfl⟩) hK hN hP hD [0] rfl (by decide) 0 8 rfl rfl rfl hl.1 rfl (Nat.le_of_ble_eq_true rfl) dX9_ruleAt_13 ⟨Nat.zero_le _, Nat.zero_le _⟩) hP hD hS hA [0] [1] rfl rfl (by decide) (by decide) [1, 0] (by decide) rfl rfl (fun H locs hP hD hS => ?_)
    cases hok
    subst hQe; exact W.iret hx hb hr (fun t ht hW => ⟨⟨_, (), rfl, rfl, by rw [ht]; exact hP, va_K.moved hW.alike hK, hD⟩, hS.F ht⟩) hS.2.2 dX9_ruleAt_16
def wsX9_there : List Cond := .code yX9_there cX9_there 3 (some .int) :: W0
abbrev wX9_there (cy : Nat → ClassId) (aM : Nat) (qM : Nat → Nat) (vM : Nat → Int32) (vM_r : Nat → Int32) : va_W := [(aM, oX9 vM qM), (qM 15, rI cy 224 vM_r)]
set_option maxHeartbeats 4000000 in
set_option maxRecDepth 100000 in
theorem kX9_there (l : Launch) (D : va_G) (cy : Nat → ClassId) (sz : Nat) (aM : Nat) (qM : Nat → Nat) (vM : Nat → Int32) (vM_r : Nat → Int32) (x1 : Int32) (x2 : Int32) (zr : Int32) (z_vM : Nat → Int32) (hok : fX9_there vM vM_r x1 x2 = some (zr, z_vM)) (A : Nat → Prop) (hAe : va_A (wX9_there cy aM qM vM vM_r) sz = A) : Met l yX9_there wsX9_there ({ frames := 2, cells := 0, slots := 0, locals := 52 } : Room) (kPre D cy [.ref aM, .int x1, .int x2] (wX9_there cy aM qM vM vM_r) sz) (kQi D cy zr A (wX9_there cy aM qM z_vM vM_r)) 0 0 A := by
  refine Met.ofW (cc := cX9_there) (maxL := 3) (ret := (some .int)) (by decide) rfl ?_
  intro p e s m args below meth c s₁ B hml hv
  obtain ⟨rfl, hsz, hP, hK, hD0, hN⟩ := hv
  have hx := B.exec
  have hb := B.bytes
  have hr := B.returns
  have ht0 : ∀ w ∈ W0, w.before _ s = true := fun w h => atoms_spec (ws := wsX9_there) B.pre w (List.mem_cons_of_mem _ h)
  have hown : s.vm.findClass RX9 = some m.cls := findClass_of_methodNamed B.named
  have hlocks := B.notSynchronized
  subst hsz
  have hD : va_D A (wX9_there cy aM qM vM vM_r) := by rw [← hAe]; exact hD0.self
  have hA : ∀ q : Nat, s.heap.size ≤ q → A q := fun q h => by rw [← hAe]; exact Or.inr h
  have hS : va_S A s.heap s.heap [] := va_S.rf
  have hl := lv_entry ([.ref aM, .int x1, .int x2]) (n := 3) (Nat.le_of_ble_eq_true rfl)
  rw [lg_entry_eq]
  generalize (lg_sl ([.ref aM, .int x1, .int x2]) ++ List.replicate (3 - (lg_sl ([.ref aM, .int x1, .int x2])).length) Slot.unset).toArray = ls at hl ⊢
  have hl : lv_has ls 3 [(0, .ref aM), (1, .int x1), (2, .int x2)] := hl
  generalize hQe : MQ below (kQi D cy zr A (wX9_there cy aM qM z_vM vM_r)) ([.ref aM, .int x1, .int x2] : List Value).toArray s 0 0 A = Q
  have J52 : ∀ (t0_52 : Int32) (vM_52 : Nat → Int32), ∀ (H : Heap) (locs : List Loc) (ls : Array Slot), va_P D vwCl (wX9_there cy aM qM vM_52 vM_r) H → va_D A (wX9_there cy aM qM vM_52 vM_r) → va_S A s.heap H locs → lv_has ls 3 [] → fX9_there_J52 t0_52 vM_52 = some (zr, z_vM) → W p l e ({ frames := 2, cells := 0, slots := 0, locals := 52 } : Room) s m ([.ref aM, .int x1, .int x2] : List Value).toArray below meth c H locs 0 0 Q (F0 m 52 ls [.int t0_52]) := by
    intro t0_52 vM_52 H locs ls hP hD hS hl hok
    unfold fX9_there_J52 at hok
    cases hok
    subst hQe; exact W.iret hx hb hr (fun t ht hW => ⟨⟨_, (), rfl, rfl, by rw [ht]; exact hP, va_K.moved hW.alike hK, hD⟩, hS.F ht⟩) hS.2.2 dX9_there_52
  have J47 : ∀ (vM_47 : Nat → Int32), ∀ (H : Heap) (locs : List Loc) (ls : Array Slot), va_P D vwCl (wX9_there cy aM qM vM_47 vM_r) H → va_D A (wX9_there cy aM qM vM_47 vM_r) → va_S A s.heap H locs → lv_has ls 3 [(0, .ref aM)] → fX9_there_J47 vM_47 = some (zr, z_vM) → W p l e ({ frames := 2, cells := 0, slots := 0, locals := 52 } : Room) s m ([.ref aM, .int x1, .int x2] : List Value).toArray below meth c H locs 0 0 Q (F0 m 47 ls []) := by
    intro vM_47 H locs ls hP hD hS hl hok
    unfold fX9_there_J47 at hok
    refine lv_aload_n hx hb dX9_there_47 rfl (lv_at hl 0 rfl) ?_
    refine lv_iconst (v := 2) hx hb dX9_there_48 (by decide) ?_
    obtain ⟨⟨r49, vM_49⟩, hc49, hok⟩ := k_bind hok
    try dsimp only at hok
    refine kCi (wc := (wX9_no cy aM qM vM_47)) (wc2 := (wX9_no cy aM qM vM_49)) (wr := [(qM 15, rI cy 224 vM_r)]) (ws2 := (wX9_there cy aM qM vM_49 vM_r)) (kRunV (As := [.int 2]) (rest := []) ⟨hx, hb, hml, hown, ht0⟩ (kX9_no l D cy _ aM qM vM_47 (2 : Int32) r49 vM_49 hc49 _ rfl) (cwV 1 ht0 (gV wd862 wd863 wd864 wd744 wd865) rfl rfl rfl (by decide +kernel) ⟨Nat.le_of_ble_eq_true rfl, Nat.le_of_ble_eq_true rfl⟩) hK hN hP hD [0] rfl (by decide) 0 8 rfl rfl rfl hl.1 rfl (Nat.le_of_ble_eq_true rfl) dX9_there_49 ⟨Nat.zero_le _, Nat.zero_le _⟩) hP hD hS hA [0] [1] rfl rfl (by decide) (by decide) [1, 0] (by decide) rfl rfl (fun H locs hP hD hS => ?_)
    exact J52 r49 vM_49 H locs ls hP hD hS (lv_sub hl [] rfl) hok
  unfold fX9_there at hok
  obtain ⟨H, hH⟩ : ∃ H, H = s.heap := ⟨_, rfl⟩
  obtain ⟨locs, hlc⟩ : ∃ x : List Loc, x = [] := ⟨_, rfl⟩
  have hP : va_P D vwCl (wX9_there cy aM qM vM vM_r) H := by rw [hH]; exact hP
  have hS : va_S A s.heap H locs := by rw [hH, hlc]; exact hS
  rw [show W p l e _ s m _ below meth c s.heap [] = W p l e _ s m _ below meth c H locs from by rw [hH, hlc]]
  refine lv_aload_n hx hb dX9_there_0 rfl (lv_at hl 0 rfl) ?_
  obtain ⟨vM_1, hc1, hok⟩ := k_bind hok
  refine kCv (wc := (wX9_good cy aM qM vM)) (wc2 := (wX9_good cy aM qM vM_1)) (wr := [(qM 15, rI cy 224 vM_r)]) (ws2 := (wX9_there cy aM qM vM_1 vM_r)) (kRunV (As := []) (rest := []) ⟨hx, hb, hml, hown, ht0⟩ (kX9_good l D cy _ aM qM vM vM_1 hc1 _ rfl) (cwV 0 ht0 (gV wd870 wd871 wd872 wd744 wd873) rfl rfl rfl (by decide +kernel) ⟨Nat.le_of_ble_eq_true rfl, Nat.le_of_ble_eq_true rfl⟩) hK hN hP hD [0] rfl (by decide) 0 8 rfl rfl rfl hl.1 rfl (Nat.le_of_ble_eq_true rfl) dX9_there_1 ⟨Nat.zero_le _, Nat.zero_le _⟩) hP hD hS hA [0] [1] rfl rfl (by decide) (by decide) [1, 0] (by decide) rfl rfl (fun H locs hP hD hS => ?_)
  refine lv_aload_n hx hb dX9_there_4 rfl (lv_at hl 0 rfl) ?_
  refine va_get (D := D) (ci := 8) (v := .int (vM_1 14)) (C := RX9) (T := TX9) (N := 29) hx hb ht0 niX9 hown hK hP 0 rfl rfl 14 (by decide) (ht0 _ wd855) (fun _ h9 => h9) rfl dX9_there_5 ?_
  refine lv_if_ne (tgt := 17) hx hb dX9_there_8 (by decide) (fun c8 => ?_) (fun c8 => ?_)
  · have hok := k_neg c8 hok
    refine lv_iload_n hx hb dX9_there_17 rfl (lv_at hl 1 rfl) ?_
    refine lv_iconst (v := 0) hx hb dX9_there_18 (by decide) ?_
    refine lv_bipush (v := 99) hx hb dX9_there_19 (by decide) ?_
    obtain ⟨r21, hc21, hok⟩ := k_bind hok
    refine kCi (wc := (wX9_in cy )) (wc2 := (wX9_in cy )) (wr := [(aM, oX9 vM_1 qM), (qM 15, rI cy 224 vM_r)]) (ws2 := (wX9_there cy aM qM vM_1 vM_r)) (kRunS (As := [.int x1, .int 0, .int 99]) (rest := []) ⟨hx, hb, hml, hown, ht0⟩ (kX9_in l D cy _ x1 (0 : Int32) (99 : Int32) r21 hc21 _ rfl) (va_cwS 3 ht0 (gS wd787 wd788 wd744 wd789) rfl rfl rfl (by decide +kernel) ⟨Nat.le_of_ble_eq_true rfl, Nat.le_of_ble_eq_true rfl⟩) hK hN hP hD [] rfl (by decide) rfl hl.1 rfl (Nat.le_of_ble_eq_true rfl) dX9_there_21 ⟨Nat.zero_le _, Nat.zero_le _⟩) hP hD hS hA [] [0, 1] rfl rfl (by decide) (by decide) [0, 1] (by decide) rfl rfl (fun H locs hP hD hS => ?_)
    refine lv_if_eq (tgt := 47) hx hb dX9_there_24 (by decide) (fun c24 => ?_) (fun c24 => ?_)
    · have hok := k_pos c24 hok
      exact J47 vM_1 H locs ls hP hD hS (lv_sub hl [0] rfl) hok
    · have hok := k_neg c24 hok
      refine lv_iload_n hx hb dX9_there_27 rfl (lv_at hl 2 rfl) ?_
      refine lv_iconst (v := 0) hx hb dX9_there_28 (by decide) ?_
      refine lv_bipush (v := 11) hx hb dX9_there_29 (by decide) ?_
      obtain ⟨r31, hc31, hok⟩ := k_bind hok
      refine kCi (wc := (wX9_in cy )) (wc2 := (wX9_in cy )) (wr := [(aM, oX9 vM_1 qM), (qM 15, rI cy 224 vM_r)]) (ws2 := (wX9_there cy aM qM vM_1 vM_r)) (kRunS (As := [.int x2, .int 0, .int 11]) (rest := []) ⟨hx, hb, hml, hown, ht0⟩ (kX9_in l D cy _ x2 (0 : Int32) (11 : Int32) r31 hc31 _ rfl) (va_cwS 3 ht0 (gS wd787 wd788 wd744 wd789) rfl rfl rfl (by decide +kernel) ⟨Nat.le_of_ble_eq_true rfl, Nat.le_of_ble_eq_true rfl⟩) hK hN hP hD [] rfl (by decide) rfl hl.1 rfl (Nat.le_of_ble_eq_true rfl) dX9_there_31 ⟨Nat.zero_le _, Nat.zero_le _⟩) hP hD hS hA [] [0, 1] rfl rfl (by decide) (by decide) [0, 1] (by decide) rfl rfl (fun H locs hP hD hS => ?_)
      refine lv_if_eq (tgt := 47) hx hb dX9_there_34 (by decide) (fun c34 => ?_) (fun c34 => ?_)
      · have hok := k_pos c34 hok
        exact J47 vM_1 H locs ls hP hD hS (lv_sub hl [0] rfl) hok
      · have hok := k_neg c34 hok
        refine lv_aload_n hx hb dX9_there_37 rfl (lv_at hl 0 rfl) ?_
        refine lv_iconst (v := 0) hx hb dX9_there_38 (by decide) ?_
        refine lv_iload_n hx hb dX9_there_39 rfl (lv_at hl 1 rfl) ?_
        refine lv_iload_n hx hb dX9_there_40 rfl (lv_at hl 2 rfl) ?_
        obtain ⟨r41, hc41, hok⟩ := k_bind hok
        refine kCi (wc := (wX9_rulesBy cy aM qM vM_1 vM_r)) (wc2 := (wX9_rulesBy cy aM qM vM_1 vM_r)) (wr := []) (ws2 := (wX9_there cy aM qM vM_1 vM_r)) (kRunV (As := [.int 0, .int x1, .int x2]) (rest := []) ⟨hx, hb, hml, hown, ht0⟩ (kX9_rulesBy l D cy _ aM qM vM_1 vM_r (0 : Int32) x1 x2 r41 hc41 _ rfl) (cwV 3 ht0 (gV wd990 wd991 wd992 wd744 wd993) rfl rfl rfl (by decide +kernel) ⟨Nat.le_of_ble_eq_true rfl, Nat.le_of_ble_eq_true rfl⟩) hK hN hP hD [0, 1] rfl (by decide) 0 8 rfl rfl rfl hl.1 rfl (Nat.le_of_ble_eq_true rfl) dX9_there_41 ⟨Nat.zero_le _, Nat.zero_le _⟩) hP hD hS hA [0, 1] [] rfl rfl (by decide) (by decide) [0, 1] (by decide) rfl rfl (fun H locs hP hD hS => ?_)
        refine lv_goto (tgt := 52) hx hb dX9_there_44 (by decide) ?_
        exact J52 r41 vM_1 H locs ls hP hD hS (lv_sub hl [] rfl) hok
  · have hok := k_pos c8 hok
    refine lv_aload_n hx hb dX9_there_11 rfl (lv_at hl 0 rfl) ?_
    refine lv_iconst (v := 1) hx hb dX9_there_12 (by decide) ?_
    obtain ⟨⟨r13, vM_13⟩, hc13, hok⟩ := k_bind hok
    try dsimp only at hok
    refine kCi (wc := (wX9_no cy aM qM vM_1)) (wc2 := (wX9_no cy aM qM vM_13)) (wr := [(qM 15, rI cy 224 vM_r)]) (ws2 := (wX9_there cy aM qM vM_13 vM_r)) (kRunV (As := [.int 1]) (rest := []) ⟨hx, hb, hml, hown, ht0⟩ (kX9_no l D cy _ aM qM vM_1 (1 : Int32) r13 vM_13 hc13 _ rfl) (cwV 1 ht0 (gV wd862 wd863 wd864 wd744 wd865) rfl rfl rfl (by decide +kernel) ⟨Nat.le_of_ble_eq_true rfl, Nat.le_of_ble_eq_true rfl⟩) hK hN hP hD [0] rfl (by decide) 0 8 rfl rfl rfl hl.1 rfl (Nat.le_of_ble_eq_true rfl) dX9_there_13 ⟨Nat.zero_le _, Nat.zero_le _⟩) hP hD hS hA [0] [1] rfl rfl (by decide) (by decide) [1, 0] (by decide) rfl rfl (fun H locs hP hD hS => ?_)
    cases hok
    subst hQe; exact W.iret hx hb hr (fun t ht hW => ⟨⟨_, (), rfl, rfl, by rw [ht]; exact hP, va_K.moved hW.alike hK, hD⟩, hS.F ht⟩) hS.2.2 dX9_there_16
def wsX9_surely : List Cond := .code yX9_surely cX9_surely 4 (some .int) :: W0
abbrev wX9_surely (cy : Nat → ClassId) (aM : Nat) (qM : Nat → Nat) (vM : Nat → Int32) (vM_r : Nat → Int32) : va_W := [(aM, oX9 vM qM), (qM 15, rI cy 224 vM_r)]
set_option maxHeartbeats 4000000 in
set_option maxRecDepth 100000 in
theorem kX9_surely (l : Launch) (D : va_G) (cy : Nat → ClassId) (sz : Nat) (aM : Nat) (qM : Nat → Nat) (vM : Nat → Int32) (vM_r : Nat → Int32) (x1 : Int32) (zr : Int32) (z_vM : Nat → Int32) (hok : fX9_surely vM vM_r x1 = some (zr, z_vM)) (A : Nat → Prop) (hAe : va_A (wX9_surely cy aM qM vM vM_r) sz = A) : Met l yX9_surely wsX9_surely ({ frames := 2, cells := 0, slots := 0, locals := 52 } : Room) (kPre D cy [.ref aM, .int x1] (wX9_surely cy aM qM vM vM_r) sz) (kQi D cy zr A (wX9_surely cy aM qM z_vM vM_r)) 0 0 A := by
  refine Met.ofW (cc := cX9_surely) (maxL := 4) (ret := (some .int)) (by decide) rfl ?_
  intro p e s m args below meth c s₁ B hml hv
  obtain ⟨rfl, hsz, hP, hK, hD0, hN⟩ := hv
  have hx := B.exec
  have hb := B.bytes
  have hr := B.returns
  have ht0 : ∀ w ∈ W0, w.before _ s = true := fun w h => atoms_spec (ws := wsX9_surely) B.pre w (List.mem_cons_of_mem _ h)
  have hown : s.vm.findClass RX9 = some m.cls := findClass_of_methodNamed B.named
  have hlocks := B.notSynchronized
  subst hsz
  have hD : va_D A (wX9_surely cy aM qM vM vM_r) := by rw [← hAe]; exact hD0.self
  have hA : ∀ q : Nat, s.heap.size ≤ q → A q := fun q h => by rw [← hAe]; exact Or.inr h
  have hS : va_S A s.heap s.heap [] := va_S.rf
  have hl := lv_entry ([.ref aM, .int x1]) (n := 4) (Nat.le_of_ble_eq_true rfl)
  rw [lg_entry_eq]
  generalize (lg_sl ([.ref aM, .int x1]) ++ List.replicate (4 - (lg_sl ([.ref aM, .int x1])).length) Slot.unset).toArray = ls at hl ⊢
  have hl : lv_has ls 4 [(0, .ref aM), (1, .int x1)] := hl
  generalize hQe : MQ below (kQi D cy zr A (wX9_surely cy aM qM z_vM vM_r)) ([.ref aM, .int x1] : List Value).toArray s 0 0 A = Q
  have L43 : ∀ (fuel : Nat) (y2_43 : Int32) (y3_43 : Int32) (vM_43 : Nat → Int32), ∀ (H : Heap) (locs : List Loc) (ls : Array Slot), va_P D vwCl (wX9_surely cy aM qM vM_43 vM_r) H → va_D A (wX9_surely cy aM qM vM_43 vM_r) → va_S A s.heap H locs → lv_has ls 4 [(0, .ref aM), (2, .int y2_43), (3, .int y3_43)] → lp (fX9_surely_B43 vM_r) fuel (y2_43, y3_43, vM_43) = some (zr, z_vM) → W p l e ({ frames := 2, cells := 0, slots := 0, locals := 52 } : Room) s m ([.ref aM, .int x1] : List Value).toArray below meth c H locs 0 0 Q (F0 m 43 ls []) := by
    intro fuel
    induction fuel with
    | zero => intro y2_43 y3_43 vM_43 H locs ls hP hD hS hl hok; exact (lp_0 hok).elim
    | succ fuel ih43 =>
      intro y2_43 y3_43 vM_43 H locs ls hP hD hS hl hok
      obtain ⟨y43, hok, hL43, hR43⟩ := lp_step hok
      have J66 : ∀ (H : Heap) (locs : List Loc) (ls : Array Slot), va_P D vwCl (wX9_surely cy aM qM vM_43 vM_r) H → va_D A (wX9_surely cy aM qM vM_43 vM_r) → va_S A s.heap H locs → lv_has ls 4 [(0, .ref aM), (2, .int y2_43), (3, .int y3_43)] → fX9_surely_J66 y2_43 y3_43 vM_43 = some y43 → W p l e ({ frames := 2, cells := 0, slots := 0, locals := 52 } : Room) s m ([.ref aM, .int x1] : List Value).toArray below meth c H locs 0 0 Q (F0 m 66 ls []) := by
        intro  H locs ls hP hD hS hl hok
        unfold fX9_surely_J66 at hok
        refine lv_iinc (v := (y3_43 + 1)) (lv' := [(3, .int (y3_43 + 1)), (0, .ref aM), (2, .int y2_43)]) hx hb dX9_surely_66 hl (k := 2) rfl (by first | rfl | decide) (by decide) rfl (fun ls hl => ?_)
        refine lv_goto (tgt := 43) hx hb dX9_surely_69 (by decide) ?_
        exact ih43 y2_43 (y3_43 + 1) vM_43 H locs ls hP hD hS (lv_sub hl [1, 2, 0] rfl) (hR43 _ (Option.some.inj hok).symm)
      unfold fX9_surely_B43 at hok
      try dsimp only at hok
      refine lv_iload_n hx hb dX9_surely_43 rfl (lv_at hl 2 rfl) ?_
      refine lv_bipush (v := 100) hx hb dX9_surely_44 (by decide) ?_
      refine lv_icmp_ge (tgt := 72) hx hb dX9_surely_46 (by decide) (fun c46 => ?_) (fun c46 => ?_)
      · have hok := k_pos c46 hok
        obtain ⟨e43, hok, he43⟩ := ex_some hok
        have hok := hok.trans (congrArg some (hL43 _ he43))
        refine lv_bipush (v := -2) hx hb dX9_surely_72 (by decide) ?_
        cases hok
        subst hQe; exact W.iret hx hb hr (fun t ht hW => ⟨⟨_, (), rfl, rfl, by rw [ht]; exact hP, va_K.moved hW.alike hK, hD⟩, hS.F ht⟩) hS.2.2 dX9_surely_74
      · have hok := k_neg c46 hok
        refine lv_iload_n hx hb dX9_surely_49 rfl (lv_at hl 1 rfl) ?_
        refine lv_if_le (tgt := 66) hx hb dX9_surely_50 (by decide) (fun c50 => ?_) (fun c50 => ?_)
        · have hok := k_pos c50 hok
          exact J66  H locs ls hP hD hS (lv_sub hl [0, 1, 2] rfl) hok
        · have hok := k_neg c50 hok
          refine lv_aload_n hx hb dX9_surely_53 rfl (lv_at hl 0 rfl) ?_
          refine lv_iconst (v := 0) hx hb dX9_surely_54 (by decide) ?_
          refine lv_iload_n hx hb dX9_surely_55 rfl (lv_at hl 2 rfl) ?_
          refine lv_iconst (v := 0) hx hb dX9_surely_56 (by decide) ?_
          obtain ⟨r57, hc57, hok⟩ := k_bind hok
          refine kCi (wc := (wX9_rulesBy cy aM qM vM_43 vM_r)) (wc2 := (wX9_rulesBy cy aM qM vM_43 vM_r)) (wr := []) (ws2 := (wX9_surely cy aM qM vM_43 vM_r)) (kRunV (As := [.int 0, .int y3_43, .int 0]) (rest := []) ⟨hx, hb, hml, hown, ht0⟩ (kX9_rulesBy l D cy _ aM qM vM_43 vM_r (0 : Int32) y3_43 (0 : Int32) r57 hc57 _ rfl) (cwV 3 ht0 (gV wd990 wd991 wd992 wd744 wd993) rfl rfl rfl (by decide +kernel) ⟨Nat.le_of_ble_eq_true rfl, Nat.le_of_ble_eq_true rfl⟩) hK hN hP hD [0, 1] rfl (by decide) 0 8 rfl rfl rfl hl.1 rfl (Nat.le_of_ble_eq_true rfl) dX9_surely_57 ⟨Nat.zero_le _, Nat.zero_le _⟩) hP hD hS hA [0, 1] [] rfl rfl (by decide) (by decide) [0, 1] (by decide) rfl rfl (fun H locs hP hD hS => ?_)
          refine lv_iload_n hx hb dX9_surely_60 rfl (lv_at hl 1 rfl) ?_
          refine lv_icmp_ne (tgt := 66) hx hb dX9_surely_61 (by decide) (fun c61 => ?_) (fun c61 => ?_)
          · have hok := k_neg c61 hok
            exact J66  H locs ls hP hD hS (lv_sub hl [0, 1, 2] rfl) hok
          · have hok := k_pos c61 hok
            obtain ⟨e43, hok, he43⟩ := ex_some hok
            have hok := hok.trans (congrArg some (hL43 _ he43))
            refine lv_iload_n hx hb dX9_surely_64 rfl (lv_at hl 2 rfl) ?_
            cases hok
            subst hQe; exact W.iret hx hb hr (fun t ht hW => ⟨⟨_, (), rfl, rfl, by rw [ht]; exact hP, va_K.moved hW.alike hK, hD⟩, hS.F ht⟩) hS.2.2 dX9_surely_65
  unfold fX9_surely at hok
  obtain ⟨H, hH⟩ : ∃ H, H = s.heap := ⟨_, rfl⟩
  obtain ⟨locs, hlc⟩ : ∃ x : List Loc, x = [] := ⟨_, rfl⟩
  have hP : va_P D vwCl (wX9_surely cy aM qM vM vM_r) H := by rw [hH]; exact hP
  have hS : va_S A s.heap H locs := by rw [hH, hlc]; exact hS
  rw [show W p l e _ s m _ below meth c s.heap [] = W p l e _ s m _ below meth c H locs from by rw [hH, hlc]]
  refine lv_aload_n hx hb dX9_surely_0 rfl (lv_at hl 0 rfl) ?_
  obtain ⟨vM_1, hc1, hok⟩ := k_bind hok
  refine kCv (wc := (wX9_good cy aM qM vM)) (wc2 := (wX9_good cy aM qM vM_1)) (wr := [(qM 15, rI cy 224 vM_r)]) (ws2 := (wX9_surely cy aM qM vM_1 vM_r)) (kRunV (As := []) (rest := []) ⟨hx, hb, hml, hown, ht0⟩ (kX9_good l D cy _ aM qM vM vM_1 hc1 _ rfl) (cwV 0 ht0 (gV wd870 wd871 wd872 wd744 wd873) rfl rfl rfl (by decide +kernel) ⟨Nat.le_of_ble_eq_true rfl, Nat.le_of_ble_eq_true rfl⟩) hK hN hP hD [0] rfl (by decide) 0 8 rfl rfl rfl hl.1 rfl (Nat.le_of_ble_eq_true rfl) dX9_surely_1 ⟨Nat.zero_le _, Nat.zero_le _⟩) hP hD hS hA [0] [1] rfl rfl (by decide) (by decide) [1, 0] (by decide) rfl rfl (fun H locs hP hD hS => ?_)
  refine lv_aload_n hx hb dX9_surely_4 rfl (lv_at hl 0 rfl) ?_
  refine va_get (D := D) (ci := 8) (v := .int (vM_1 14)) (C := RX9) (T := TX9) (N := 29) hx hb ht0 niX9 hown hK hP 0 rfl rfl 14 (by decide) (ht0 _ wd855) (fun _ h9 => h9) rfl dX9_surely_5 ?_
  refine lv_if_ne (tgt := 17) hx hb dX9_surely_8 (by decide) (fun c8 => ?_) (fun c8 => ?_)
  · have hok := k_neg c8 hok
    refine lv_iload_n hx hb dX9_surely_17 rfl (lv_at hl 1 rfl) ?_
    refine lv_iconst (v := 0) hx hb dX9_surely_18 (by decide) ?_
    refine lv_bipush (v := 99) hx hb dX9_surely_19 (by decide) ?_
    obtain ⟨r21, hc21, hok⟩ := k_bind hok
    refine kCi (wc := (wX9_in cy )) (wc2 := (wX9_in cy )) (wr := [(aM, oX9 vM_1 qM), (qM 15, rI cy 224 vM_r)]) (ws2 := (wX9_surely cy aM qM vM_1 vM_r)) (kRunS (As := [.int x1, .int 0, .int 99]) (rest := []) ⟨hx, hb, hml, hown, ht0⟩ (kX9_in l D cy _ x1 (0 : Int32) (99 : Int32) r21 hc21 _ rfl) (va_cwS 3 ht0 (gS wd787 wd788 wd744 wd789) rfl rfl rfl (by decide +kernel) ⟨Nat.le_of_ble_eq_true rfl, Nat.le_of_ble_eq_true rfl⟩) hK hN hP hD [] rfl (by decide) rfl hl.1 rfl (Nat.le_of_ble_eq_true rfl) dX9_surely_21 ⟨Nat.zero_le _, Nat.zero_le _⟩) hP hD hS hA [] [0, 1] rfl rfl (by decide) (by decide) [0, 1] (by decide) rfl rfl (fun H locs hP hD hS => ?_)
    refine lv_if_ne (tgt := 33) hx hb dX9_surely_24 (by decide) (fun c24 => ?_) (fun c24 => ?_)
    · have hok := k_neg c24 hok
      refine lv_aload_n hx hb dX9_surely_33 rfl (lv_at hl 0 rfl) ?_
      refine lv_iconst (v := 1) hx hb dX9_surely_34 (by decide) ?_
      refine lv_iconst (v := 0) hx hb dX9_surely_35 (by decide) ?_
      refine lv_iconst (v := 0) hx hb dX9_surely_36 (by decide) ?_
      obtain ⟨r37, hc37, hok⟩ := k_bind hok
      refine kCi (wc := (wX9_rulesBy cy aM qM vM_1 vM_r)) (wc2 := (wX9_rulesBy cy aM qM vM_1 vM_r)) (wr := []) (ws2 := (wX9_surely cy aM qM vM_1 vM_r)) (kRunV (As := [.int 1, .int 0, .int 0]) (rest := []) ⟨hx, hb, hml, hown, ht0⟩ (kX9_rulesBy l D cy _ aM qM vM_1 vM_r (1 : Int32) (0 : Int32) (0 : Int32) r37 hc37 _ rfl) (cwV 3 ht0 (gV wd990 wd991 wd992 wd744 wd993) rfl rfl rfl (by decide +kernel) ⟨Nat.le_of_ble_eq_true rfl, Nat.le_of_ble_eq_true rfl⟩) hK hN hP hD [0, 1] rfl (by decide) 0 8 rfl rfl rfl hl.1 rfl (Nat.le_of_ble_eq_true rfl) dX9_surely_37 ⟨Nat.zero_le _, Nat.zero_le _⟩) hP hD hS hA [0, 1] [] rfl rfl (by decide) (by decide) [0, 1] (by decide) rfl rfl (fun H locs hP hD hS => ?_)
      refine lv_istore_n (lv' := [(2, .int r37), (0, .ref aM), (1, .int x1)]) hx hb dX9_surely_40 rfl hl (by decide) rfl (fun ls hl => ?_)
      refine lv_iload_n hx hb dX9_surely_41 rfl (lv_at hl 2 rfl) ?_
      refine lv_istore_n (lv' := [(3, .int x1), (2, .int r37), (0, .ref aM), (1, .int x1)]) hx hb dX9_surely_42 rfl hl (by decide) rfl (fun ls hl => ?_)
      exact L43 5000 r37 x1 vM_1 H locs ls hP hD hS (lv_sub hl [2, 1, 0] rfl) hok
    · have hok := k_pos c24 hok
      refine lv_aload_n hx hb dX9_surely_27 rfl (lv_at hl 0 rfl) ?_
      refine lv_iconst (v := 2) hx hb dX9_surely_28 (by decide) ?_
      obtain ⟨⟨r29, vM_29⟩, hc29, hok⟩ := k_bind hok
      try dsimp only at hok
      refine kCi (wc := (wX9_no cy aM qM vM_1)) (wc2 := (wX9_no cy aM qM vM_29)) (wr := [(qM 15, rI cy 224 vM_r)]) (ws2 := (wX9_surely cy aM qM vM_29 vM_r)) (kRunV (As := [.int 2]) (rest := []) ⟨hx, hb, hml, hown, ht0⟩ (kX9_no l D cy _ aM qM vM_1 (2 : Int32) r29 vM_29 hc29 _ rfl) (cwV 1 ht0 (gV wd862 wd863 wd864 wd744 wd865) rfl rfl rfl (by decide +kernel) ⟨Nat.le_of_ble_eq_true rfl, Nat.le_of_ble_eq_true rfl⟩) hK hN hP hD [0] rfl (by decide) 0 8 rfl rfl rfl hl.1 rfl (Nat.le_of_ble_eq_true rfl) dX9_surely_29 ⟨Nat.zero_le _, Nat.zero_le _⟩) hP hD hS hA [0] [1] rfl rfl (by decide) (by decide) [1, 0] (by decide) rfl rfl (fun H locs hP hD hS => ?_)
      cases hok
      subst hQe; exact W.iret hx hb hr (fun t ht hW => ⟨⟨_, (), rfl, rfl, by rw [ht]; exact hP, va_K.moved hW.alike hK, hD⟩, hS.F ht⟩) hS.2.2 dX9_surely_32
  · have hok := k_pos c8 hok
    refine lv_aload_n hx hb dX9_surely_11 rfl (lv_at hl 0 rfl) ?_
    refine lv_iconst (v := 1) hx hb dX9_surely_12 (by decide) ?_
    obtain ⟨⟨r13, vM_13⟩, hc13, hok⟩ := k_bind hok
    try dsimp only at hok
    refine kCi (wc := (wX9_no cy aM qM vM_1)) (wc2 := (wX9_no cy aM qM vM_13)) (wr := [(qM 15, rI cy 224 vM_r)]) (ws2 := (wX9_surely cy aM qM vM_13 vM_r)) (kRunV (As := [.int 1]) (rest := []) ⟨hx, hb, hml, hown, ht0⟩ (kX9_no l D cy _ aM qM vM_1 (1 : Int32) r13 vM_13 hc13 _ rfl) (cwV 1 ht0 (gV wd862 wd863 wd864 wd744 wd865) rfl rfl rfl (by decide +kernel) ⟨Nat.le_of_ble_eq_true rfl, Nat.le_of_ble_eq_true rfl⟩) hK hN hP hD [0] rfl (by decide) 0 8 rfl rfl rfl hl.1 rfl (Nat.le_of_ble_eq_true rfl) dX9_surely_13 ⟨Nat.zero_le _, Nat.zero_le _⟩) hP hD hS hA [0] [1] rfl rfl (by decide) (by decide) [1, 0] (by decide) rfl rfl (fun H locs hP hD hS => ?_)
    cases hok
    subst hQe; exact W.iret hx hb hr (fun t ht hW => ⟨⟨_, (), rfl, rfl, by rw [ht]; exact hP, va_K.moved hW.alike hK, hD⟩, hS.F ht⟩) hS.2.2 dX9_surely_16
