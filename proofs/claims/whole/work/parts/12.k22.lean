def wsX9_kept : List Cond := .code yX9_kept cX9_kept 1 (some .int) :: W0
abbrev wX9_kept (cy : Nat → ClassId) (aM : Nat) (qM : Nat → Nat) (vM : Nat → Int32) (vM_st : Nat → Int32) (vM_trial : Nat → Int32) (vM_r : Nat → Int32) : va_W := [(aM, oX9 vM qM), (qM 17, rI cy 9 vM_st), (qM 22, rI cy 9 vM_trial), (qM 15, rI cy 224 vM_r)]
set_option maxHeartbeats 4000000 in
set_option maxRecDepth 100000 in
theorem kX9_kept (l : Launch) (D : va_G) (cy : Nat → ClassId) (sz : Nat) (aM : Nat) (qM : Nat → Nat) (vM : Nat → Int32) (vM_st : Nat → Int32) (vM_trial : Nat → Int32) (vM_r : Nat → Int32) (zr : Int32) (z_vM : Nat → Int32) (z_vM_trial : Nat → Int32) (hok : fX9_kept vM vM_st vM_trial vM_r = some (zr, z_vM, z_vM_trial)) (A : Nat → Prop) (hAe : va_A (wX9_kept cy aM qM vM vM_st vM_trial vM_r) sz = A) : Met l yX9_kept wsX9_kept ({ frames := 6, cells := 0, slots := 0, locals := 139 } : Room) (kPre D cy [.ref aM] (wX9_kept cy aM qM vM vM_st vM_trial vM_r) sz) (kQi D cy zr A (wX9_kept cy aM qM z_vM vM_st z_vM_trial vM_r)) 0 0 A := by
  refine Met.ofW (cc := cX9_kept) (maxL := 1) (ret := (some .int)) (by decide) rfl ?_
  intro p e s m args below meth c s₁ B hml hv
  obtain ⟨rfl, hsz, hP, hK, hD0, hN⟩ := hv
  have hx := B.exec
  have hb := B.bytes
  have hr := B.returns
  have ht0 : ∀ w ∈ W0, w.before _ s = true := fun w h => atoms_spec (ws := wsX9_kept) B.pre w (List.mem_cons_of_mem _ h)
  have hown : s.vm.findClass RX9 = some m.cls := findClass_of_methodNamed B.named
  have hlocks := B.notSynchronized
  subst hsz
  have hD : va_D A (wX9_kept cy aM qM vM vM_st vM_trial vM_r) := by rw [← hAe]; exact hD0.self
  have hA : ∀ q : Nat, s.heap.size ≤ q → A q := fun q h => by rw [← hAe]; exact Or.inr h
  have hS : va_S A s.heap s.heap [] := va_S.rf
  have hl := lv_entry ([.ref aM]) (n := 1) (Nat.le_of_ble_eq_true rfl)
  rw [lg_entry_eq]
  generalize (lg_sl ([.ref aM]) ++ List.replicate (1 - (lg_sl ([.ref aM])).length) Slot.unset).toArray = ls at hl ⊢
  have hl : lv_has ls 1 [(0, .ref aM)] := hl
  generalize hQe : MQ below (kQi D cy zr A (wX9_kept cy aM qM z_vM vM_st z_vM_trial vM_r)) ([.ref aM] : List Value).toArray s 0 0 A = Q
  have J26 : ∀ (t0_26 : Int32) (vM_trial_26 : Nat → Int32) (vM_26 : Nat → Int32), ∀ (H : Heap) (locs : List Loc) (ls : Array Slot), va_P D vwCl (wX9_kept cy aM qM vM_26 vM_st vM_trial_26 vM_r) H → va_D A (wX9_kept cy aM qM vM_26 vM_st vM_trial_26 vM_r) → va_S A s.heap H locs → lv_has ls 1 [] → fX9_kept_J26 t0_26 vM_trial_26 vM_26 = some (zr, z_vM, z_vM_trial) → W p l e ({ frames := 6, cells := 0, slots := 0, locals := 139 } : Room) s m ([.ref aM] : List Value).toArray below meth c H locs 0 0 Q (F0 m 26 ls [.int t0_26]) := by
    intro t0_26 vM_trial_26 vM_26 H locs ls hP hD hS hl hok
    unfold fX9_kept_J26 at hok
    cases hok
    subst hQe; exact W.iret hx hb hr (fun t ht hW => ⟨⟨_, (), rfl, rfl, by rw [ht]; exact hP, va_K.moved hW.alike hK, hD⟩, hS.F ht⟩) hS.2.2 dX9_kept_26
  unfold fX9_kept at hok
  obtain ⟨H, hH⟩ : ∃ H, H = s.heap := ⟨_, rfl⟩
  obtain ⟨locs, hlc⟩ : ∃ x : List Loc, x = [] := ⟨_, rfl⟩
  have hP : va_P D vwCl (wX9_kept cy aM qM vM vM_st vM_trial vM_r) H := by rw [hH]; exact hP
  have hS : va_S A s.heap H locs := by rw [hH, hlc]; exact hS
  rw [show W p l e _ s m _ below meth c s.heap [] = W p l e _ s m _ below meth c H locs from by rw [hH, hlc]]
  refine lv_aload_n hx hb dX9_kept_0 rfl (lv_at hl 0 rfl) ?_
  obtain ⟨vM_1, hc1, hok⟩ := k_bind hok
  refine kCv (wc := (wX9_good cy aM qM vM)) (wc2 := (wX9_good cy aM qM vM_1)) (wr := [(qM 17, rI cy 9 vM_st), (qM 22, rI cy 9 vM_trial), (qM 15, rI cy 224 vM_r)]) (ws2 := (wX9_kept cy aM qM vM_1 vM_st vM_trial vM_r)) (kRunV (As := []) (rest := []) ⟨hx, hb, hml, hown, ht0⟩ (kX9_good l D cy _ aM qM vM vM_1 hc1 _ rfl) (cwV 0 ht0 (gV wd870 wd871 wd872 wd744 wd873) rfl rfl rfl (by decide +kernel) ⟨Nat.le_of_ble_eq_true rfl, Nat.le_of_ble_eq_true rfl⟩) hK hN hP hD [0] rfl (by decide) 0 8 rfl rfl rfl hl.1 rfl (Nat.le_of_ble_eq_true rfl) dX9_kept_1 ⟨Nat.zero_le _, Nat.zero_le _⟩) hP hD hS hA [0] [1, 2, 3] rfl rfl (by decide) (by decide) [3, 0, 1, 2] (by decide) rfl rfl (fun H locs hP hD hS => ?_)
  refine lv_aload_n hx hb dX9_kept_4 rfl (lv_at hl 0 rfl) ?_
  refine va_get (D := D) (ci := 8) (v := .int (vM_1 14)) (C := RX9) (T := TX9) (N := 29) hx hb ht0 niX9 hown hK hP 0 rfl rfl 14 (by decide) (ht0 _ wd855) (fun _ h9 => h9) rfl dX9_kept_5 ?_
  refine lv_if_eq (tgt := 21) hx hb dX9_kept_8 (by decide) (fun c8 => ?_) (fun c8 => ?_)
  · have hok := k_pos c8 hok
    refine lv_aload_n hx hb dX9_kept_21 rfl (lv_at hl 0 rfl) ?_
    refine lv_iconst (v := 1) hx hb dX9_kept_22 (by decide) ?_
    obtain ⟨⟨r23, vM_23⟩, hc23, hok⟩ := k_bind hok
    try dsimp only at hok
    refine kCi (wc := (wX9_no cy aM qM vM_1)) (wc2 := (wX9_no cy aM qM vM_23)) (wr := [(qM 17, rI cy 9 vM_st), (qM 22, rI cy 9 vM_trial), (qM 15, rI cy 224 vM_r)]) (ws2 := (wX9_kept cy aM qM vM_23 vM_st vM_trial vM_r)) (kRunV (As := [.int 1]) (rest := []) ⟨hx, hb, hml, hown, ht0⟩ (kX9_no l D cy _ aM qM vM_1 (1 : Int32) r23 vM_23 hc23 _ rfl) (cwV 1 ht0 (gV wd862 wd863 wd864 wd744 wd865) rfl rfl rfl (by decide +kernel) ⟨Nat.le_of_ble_eq_true rfl, Nat.le_of_ble_eq_true rfl⟩) hK hN hP hD [0] rfl (by decide) 0 8 rfl rfl rfl hl.1 rfl (Nat.le_of_ble_eq_true rfl) dX9_kept_23 ⟨Nat.zero_le _, Nat.zero_le _⟩) hP hD hS hA [0] [1, 2, 3] rfl rfl (by decide) (by decide) [3, 0, 1, 2] (by decide) rfl rfl (fun H locs hP hD hS => ?_)
    exact J26 r23 vM_trial vM_23 H locs ls hP hD hS (lv_sub hl [] rfl) hok
  · have hok := k_neg c8 hok
    refine lv_aload_n hx hb dX9_kept_11 rfl (lv_at hl 0 rfl) ?_
    refine lv_iconst (v := 0) hx hb dX9_kept_12 (by decide) ?_
    refine lv_bipush (v := 60) hx hb dX9_kept_13 (by decide) ?_
    obtain ⟨⟨r15, vM_trial_15⟩, hc15, hok⟩ := k_bind hok
    try dsimp only at hok
    refine kCi (wc := (wX9_keptBy cy aM qM vM_1 vM_st vM_trial vM_r)) (wc2 := (wX9_keptBy cy aM qM vM_1 vM_st vM_trial_15 vM_r)) (wr := []) (ws2 := (wX9_kept cy aM qM vM_1 vM_st vM_trial_15 vM_r)) (kRunV (As := [.int 0, .int 60]) (rest := []) ⟨hx, hb, hml, hown, ht0⟩ (kX9_keptBy l D cy _ aM qM vM_1 vM_st vM_trial vM_r (0 : Int32) (60 : Int32) r15 vM_trial_15 hc15 _ rfl) (cwV 2 ht0 (gV wd974 wd975 wd976 wd744 wd977) rfl rfl rfl (by decide +kernel) ⟨Nat.le_of_ble_eq_true rfl, Nat.le_of_ble_eq_true rfl⟩) hK hN hP hD [0, 1, 2, 3] rfl (by decide) 0 8 rfl rfl rfl hl.1 rfl (Nat.le_of_ble_eq_true rfl) dX9_kept_15 ⟨Nat.zero_le _, Nat.zero_le _⟩) hP hD hS hA [0, 1, 2, 3] [] rfl rfl (by decide) (by decide) [0, 1, 2, 3] (by decide) rfl rfl (fun H locs hP hD hS => ?_)
    refine lv_goto (tgt := 26) hx hb dX9_kept_18 (by decide) ?_
    exact J26 r15 vM_trial_15 vM_1 H locs ls hP hD hS (lv_sub hl [] rfl) hok
def wsX9_isRule : List Cond := .code yX9_isRule cX9_isRule 6 (some .boolean) :: W0
abbrev wX9_isRule (cy : Nat → ClassId) (aM : Nat) (qM : Nat → Nat) (vM : Nat → Int32) (vM_r : Nat → Int32) : va_W := [(aM, oX9 vM qM), (qM 15, rI cy 224 vM_r)]
set_option maxHeartbeats 4000000 in
set_option maxRecDepth 100000 in
theorem kX9_isRule (l : Launch) (D : va_G) (cy : Nat → ClassId) (sz : Nat) (aM : Nat) (qM : Nat → Nat) (vM : Nat → Int32) (vM_r : Nat → Int32) (x1 : Int32) (x2 : Int32) (x3 : Int32) (zr : Int32) (hok : fX9_isRule vM vM_r x1 x2 x3 = some zr) (A : Nat → Prop) (hAe : va_A (wX9_isRule cy aM qM vM vM_r) sz = A) : Met l yX9_isRule wsX9_isRule ({ frames := 0, cells := 0, slots := 0, locals := 0 } : Room) (kPre D cy [.ref aM, .int x1, .int x2, .int x3] (wX9_isRule cy aM qM vM vM_r) sz) (kQi D cy zr A (wX9_isRule cy aM qM vM vM_r)) 0 0 A := by
  refine Met.ofW (cc := cX9_isRule) (maxL := 6) (ret := (some .boolean)) (by decide) rfl ?_
  intro p e s m args below meth c s₁ B hml hv
  obtain ⟨rfl, hsz, hP, hK, hD0, hN⟩ := hv
  have hx := B.exec
  have hb := B.bytes
  have hr := B.returns
  have ht0 : ∀ w ∈ W0, w.before _ s = true := fun w h => atoms_spec (ws := wsX9_isRule) B.pre w (List.mem_cons_of_mem _ h)
  have hown : s.vm.findClass RX9 = some m.cls := findClass_of_methodNamed B.named
  have hlocks := B.notSynchronized
  subst hsz
  have hD : va_D A (wX9_isRule cy aM qM vM vM_r) := by rw [← hAe]; exact hD0.self
  have hA : ∀ q : Nat, s.heap.size ≤ q → A q := fun q h => by rw [← hAe]; exact Or.inr h
  have hS : va_S A s.heap s.heap [] := va_S.rf
  have hl := lv_entry ([.ref aM, .int x1, .int x2, .int x3]) (n := 6) (Nat.le_of_ble_eq_true rfl)
  rw [lg_entry_eq]
  generalize (lg_sl ([.ref aM, .int x1, .int x2, .int x3]) ++ List.replicate (6 - (lg_sl ([.ref aM, .int x1, .int x2, .int x3])).length) Slot.unset).toArray = ls at hl ⊢
  have hl : lv_has ls 6 [(0, .ref aM), (1, .int x1), (2, .int x2), (3, .int x3)] := hl
  generalize hQe : MQ below (kQi D cy zr A (wX9_isRule cy aM qM vM vM_r)) ([.ref aM, .int x1, .int x2, .int x3] : List Value).toArray s 0 0 A = Q
  have L6 : ∀ (fuel : Nat) (y4_6 : Int32) (y5_6 : Int32), ∀ (H : Heap) (locs : List Loc) (ls : Array Slot), va_P D vwCl (wX9_isRule cy aM qM vM vM_r) H → va_D A (wX9_isRule cy aM qM vM vM_r) → va_S A s.heap H locs → lv_has ls 6 [(0, .ref aM), (1, .int x1), (2, .int x2), (3, .int x3), (4, .int y4_6), (5, .int y5_6)] → lp (fX9_isRule_B6 vM_r x1 x2 x3) fuel (y4_6, y5_6) = some zr → W p l e ({ frames := 0, cells := 0, slots := 0, locals := 0 } : Room) s m ([.ref aM, .int x1, .int x2, .int x3] : List Value).toArray below meth c H locs 0 0 Q (F0 m 6 ls []) := by
    intro fuel
    induction fuel with
    | zero => intro y4_6 y5_6 H locs ls hP hD hS hl hok; exact (lp_0 hok).elim
    | succ fuel ih6 =>
      intro y4_6 y5_6 H locs ls hP hD hS hl hok
      obtain ⟨y6, hok, hL6, hR6⟩ := lp_step hok
      have J94 : ∀ (t0_94 : Int32), ∀ (H : Heap) (locs : List Loc) (ls : Array Slot), va_P D vwCl (wX9_isRule cy aM qM vM vM_r) H → va_D A (wX9_isRule cy aM qM vM vM_r) → va_S A s.heap H locs → lv_has ls 6 [(0, .ref aM), (1, .int x1), (2, .int x2), (3, .int x3), (5, .int y5_6)] → fX9_isRule_J94 y5_6 t0_94 = some y6 → W p l e ({ frames := 0, cells := 0, slots := 0, locals := 0 } : Room) s m ([.ref aM, .int x1, .int x2, .int x3] : List Value).toArray below meth c H locs 0 0 Q (F0 m 94 ls [.int t0_94]) := by
        intro t0_94 H locs ls hP hD hS hl hok
        unfold fX9_isRule_J94 at hok
        refine lv_istore (lv' := [(4, .int t0_94), (0, .ref aM), (1, .int x1), (2, .int x2), (3, .int x3), (5, .int y5_6)]) hx hb dX9_isRule_94 hl (by decide) rfl (fun ls hl => ?_)
        refine lv_iinc (v := (y5_6 + 1)) (lv' := [(5, .int (y5_6 + 1)), (4, .int t0_94), (0, .ref aM), (1, .int x1), (2, .int x2), (3, .int x3)]) hx hb dX9_isRule_96 hl (k := 5) rfl (by first | rfl | decide) (by decide) rfl (fun ls hl => ?_)
        refine lv_goto (tgt := 6) hx hb dX9_isRule_99 (by decide) ?_
        exact ih6 t0_94 (y5_6 + 1) H locs ls hP hD hS (lv_sub hl [2, 3, 4, 5, 1, 0] rfl) (hR6 _ (Option.some.inj hok).symm)
      have J93 : ∀ (H : Heap) (locs : List Loc) (ls : Array Slot), va_P D vwCl (wX9_isRule cy aM qM vM vM_r) H → va_D A (wX9_isRule cy aM qM vM vM_r) → va_S A s.heap H locs → lv_has ls 6 [(0, .ref aM), (1, .int x1), (2, .int x2), (3, .int x3), (5, .int y5_6)] → fX9_isRule_J93 y5_6 = some y6 → W p l e ({ frames := 0, cells := 0, slots := 0, locals := 0 } : Room) s m ([.ref aM, .int x1, .int x2, .int x3] : List Value).toArray below meth c H locs 0 0 Q (F0 m 93 ls []) := by
        intro  H locs ls hP hD hS hl hok
        unfold fX9_isRule_J93 at hok
        refine lv_iconst (v := 0) hx hb dX9_isRule_93 (by decide) ?_
        exact J94 (0 : Int32) H locs ls hP hD hS (lv_sub hl [0, 1, 2, 3, 4] rfl) hok
      have J86 : ∀ (t0_86 : Int32) (t1_86 : Int32), ∀ (H : Heap) (locs : List Loc) (ls : Array Slot), va_P D vwCl (wX9_isRule cy aM qM vM vM_r) H → va_D A (wX9_isRule cy aM qM vM vM_r) → va_S A s.heap H locs → lv_has ls 6 [(0, .ref aM), (1, .int x1), (2, .int x2), (3, .int x3), (5, .int y5_6)] → fX9_isRule_J86 y5_6 t0_86 t1_86 = some y6 → W p l e ({ frames := 0, cells := 0, slots := 0, locals := 0 } : Room) s m ([.ref aM, .int x1, .int x2, .int x3] : List Value).toArray below meth c H locs 0 0 Q (F0 m 86 ls [.int t0_86, .int t1_86]) := by
        intro t0_86 t1_86 H locs ls hP hD hS hl hok
        unfold fX9_isRule_J86 at hok
        refine lv_icmp_ne (tgt := 93) hx hb dX9_isRule_86 (by decide) (fun c86 => ?_) (fun c86 => ?_)
        · have hok := k_neg c86 hok
          exact J93  H locs ls hP hD hS (lv_sub hl [0, 1, 2, 3, 4] rfl) hok
        · have hok := k_pos c86 hok
          refine lv_iconst (v := 1) hx hb dX9_isRule_89 (by decide) ?_
          refine lv_goto (tgt := 94) hx hb dX9_isRule_90 (by decide) ?_
          exact J94 (1 : Int32) H locs ls hP hD hS (lv_sub hl [0, 1, 2, 3, 4] rfl) hok
      have J63 : ∀ (t0_63 : Int32), ∀ (H : Heap) (locs : List Loc) (ls : Array Slot), va_P D vwCl (wX9_isRule cy aM qM vM vM_r) H → va_D A (wX9_isRule cy aM qM vM vM_r) → va_S A s.heap H locs → lv_has ls 6 [(0, .ref aM), (1, .int x1), (2, .int x2), (3, .int x3), (5, .int y5_6)] → fX9_isRule_J63 vM_r y5_6 t0_63 = some y6 → W p l e ({ frames := 0, cells := 0, slots := 0, locals := 0 } : Room) s m ([.ref aM, .int x1, .int x2, .int x3] : List Value).toArray below meth c H locs 0 0 Q (F0 m 63 ls [.int t0_63]) := by
        intro t0_63 H locs ls hP hD hS hl hok
        unfold fX9_isRule_J63 at hok
        refine lv_aload_n hx hb dX9_isRule_63 rfl (lv_at hl 0 rfl) ?_
        refine va_get (D := D) (ci := 8) (v := .ref (qM 15)) (C := RX9) (T := TX9) (N := 29) hx hb ht0 niX9 hown hK hP 0 rfl rfl 15 (by decide) (ht0 _ wd854) (fun _ h9 => h9) rfl dX9_isRule_64 ?_
        refine lv_bipush (v := 107) hx hb dX9_isRule_67 (by decide) ?_
        refine lv_iconst (v := 3) hx hb dX9_isRule_69 (by decide) ?_
        refine lv_iload hx hb dX9_isRule_70 (lv_at hl 4 rfl) ?_
        refine lv_imul hx hb dX9_isRule_72 ?_
        refine lv_iadd hx hb dX9_isRule_73 ?_
        refine lv_iconst (v := 2) hx hb dX9_isRule_74 (by decide) ?_
        refine lv_iadd hx hb dX9_isRule_75 ?_
        obtain ⟨g76, hok⟩ := gd_some hok
        refine va_iald hx hb hK hP 1 0 rfl rfl (okI_in g76) dX9_isRule_76 ?_
        refine lv_iconst (v := 1) hx hb dX9_isRule_77 (by decide) ?_
        refine lv_icmp_ne (tgt := 85) hx hb dX9_isRule_78 (by decide) (fun c78 => ?_) (fun c78 => ?_)
        · have hok := k_neg c78 hok
          refine lv_iconst (v := 0) hx hb dX9_isRule_85 (by decide) ?_
          exact J86 (0 : Int32) t0_63 H locs ls hP hD hS (lv_sub hl [0, 1, 2, 3, 4] rfl) hok
        · have hok := k_pos c78 hok
          refine lv_iconst (v := 1) hx hb dX9_isRule_81 (by decide) ?_
          refine lv_goto (tgt := 86) hx hb dX9_isRule_82 (by decide) ?_
          exact J86 (1 : Int32) t0_63 H locs ls hP hD hS (lv_sub hl [0, 1, 2, 3, 4] rfl) hok
      unfold fX9_isRule_B6 at hok
      try dsimp only at hok
      refine lv_iload hx hb dX9_isRule_6 (lv_at hl 5 rfl) ?_
      refine lv_aload_n hx hb dX9_isRule_8 rfl (lv_at hl 0 rfl) ?_
      refine va_get (D := D) (ci := 8) (v := .ref (qM 15)) (C := RX9) (T := TX9) (N := 29) hx hb ht0 niX9 hown hK hP 0 rfl rfl 15 (by decide) (ht0 _ wd854) (fun _ h9 => h9) rfl dX9_isRule_9 ?_
      refine lv_bipush (v := 7) hx hb dX9_isRule_12 (by decide) ?_
      obtain ⟨g14, hok⟩ := gd_some hok
      refine va_iald hx hb hK hP 1 0 rfl rfl (okI_in g14) dX9_isRule_14 ?_
      refine lv_icmp_ge (tgt := 102) hx hb dX9_isRule_15 (by decide) (fun c15 => ?_) (fun c15 => ?_)
      · have hok := k_pos c15 hok
        obtain ⟨e6, hok, he6⟩ := ex_some hok
        have hok := hok.trans (congrArg some (hL6 _ he6))
        refine lv_iload hx hb dX9_isRule_102 (lv_at hl 4 rfl) ?_
        obtain ⟨g104, hok⟩ := gd_some hok
        cases hok
        subst hQe; exact W.zret hx hb hr (isB_nar g104) (fun t ht hW => ⟨⟨_, (), rfl, rfl, by rw [ht]; exact hP, va_K.moved hW.alike hK, hD⟩, hS.F ht⟩) hS.2.2 dX9_isRule_104
      · have hok := k_neg c15 hok
        refine lv_iload hx hb dX9_isRule_18 (lv_at hl 4 rfl) ?_
        refine lv_if_eq (tgt := 93) hx hb dX9_isRule_20 (by decide) (fun c20 => ?_) (fun c20 => ?_)
        · have hok := k_pos c20 hok
          exact J93  H locs ls hP hD hS (lv_sub hl [0, 1, 2, 3, 5] rfl) hok
        · have hok := k_neg c20 hok
          refine lv_iload_n hx hb dX9_isRule_23 rfl (lv_at hl 3 rfl) ?_
          refine lv_iload_n hx hb dX9_isRule_24 rfl (lv_at hl 2 rfl) ?_
          refine lv_aload_n hx hb dX9_isRule_25 rfl (lv_at hl 0 rfl) ?_
          refine va_get (D := D) (ci := 8) (v := .ref (qM 15)) (C := RX9) (T := TX9) (N := 29) hx hb ht0 niX9 hown hK hP 0 rfl rfl 15 (by decide) (ht0 _ wd854) (fun _ h9 => h9) rfl dX9_isRule_26 ?_
          refine lv_bipush (v := 107) hx hb dX9_isRule_29 (by decide) ?_
          refine lv_iconst (v := 3) hx hb dX9_isRule_31 (by decide) ?_
          refine lv_iload hx hb dX9_isRule_32 (lv_at hl 5 rfl) ?_
          refine lv_imul hx hb dX9_isRule_34 ?_
          refine lv_iadd hx hb dX9_isRule_35 ?_
          obtain ⟨g36, hok⟩ := gd_some hok
          refine va_iald hx hb hK hP 1 0 rfl rfl (okI_in g36) dX9_isRule_36 ?_
          refine lv_imul hx hb dX9_isRule_37 ?_
          refine lv_iadd hx hb dX9_isRule_38 ?_
          refine lv_iload_n hx hb dX9_isRule_39 rfl (lv_at hl 1 rfl) ?_
          obtain ⟨g40, hok⟩ := gd_some hok
          refine lv_irem hx hb dX9_isRule_40 (nzI_ne g40) ?_
          refine lv_aload_n hx hb dX9_isRule_41 rfl (lv_at hl 0 rfl) ?_
          refine va_get (D := D) (ci := 8) (v := .ref (qM 15)) (C := RX9) (T := TX9) (N := 29) hx hb ht0 niX9 hown hK hP 0 rfl rfl 15 (by decide) (ht0 _ wd854) (fun _ h9 => h9) rfl dX9_isRule_42 ?_
          refine lv_bipush (v := 107) hx hb dX9_isRule_45 (by decide) ?_
          refine lv_iconst (v := 3) hx hb dX9_isRule_47 (by decide) ?_
          refine lv_iload hx hb dX9_isRule_48 (lv_at hl 5 rfl) ?_
          refine lv_imul hx hb dX9_isRule_50 ?_
          refine lv_iadd hx hb dX9_isRule_51 ?_
          refine lv_iconst (v := 1) hx hb dX9_isRule_52 (by decide) ?_
          refine lv_iadd hx hb dX9_isRule_53 ?_
          obtain ⟨g54, hok⟩ := gd_some hok
          refine va_iald hx hb hK hP 1 0 rfl rfl (okI_in g54) dX9_isRule_54 ?_
          refine lv_icmp_ne (tgt := 62) hx hb dX9_isRule_55 (by decide) (fun c55 => ?_) (fun c55 => ?_)
          · have hok := k_neg c55 hok
            refine lv_iconst (v := 0) hx hb dX9_isRule_62 (by decide) ?_
            exact J63 (0 : Int32) H locs ls hP hD hS (lv_sub hl [0, 1, 2, 3, 5] rfl) hok
          · have hok := k_pos c55 hok
            refine lv_iconst (v := 1) hx hb dX9_isRule_58 (by decide) ?_
            refine lv_goto (tgt := 63) hx hb dX9_isRule_59 (by decide) ?_
            exact J63 (1 : Int32) H locs ls hP hD hS (lv_sub hl [0, 1, 2, 3, 5] rfl) hok
  unfold fX9_isRule at hok
  obtain ⟨H, hH⟩ : ∃ H, H = s.heap := ⟨_, rfl⟩
  obtain ⟨locs, hlc⟩ : ∃ x : List Loc, x = [] := ⟨_, rfl⟩
  have hP : va_P D vwCl (wX9_isRule cy aM qM vM vM_r) H := by rw [hH]; exact hP
  have hS : va_S A s.heap H locs := by rw [hH, hlc]; exact hS
  rw [show W p l e _ s m _ below meth c s.heap [] = W p l e _ s m _ below meth c H locs from by rw [hH, hlc]]
  refine lv_iconst (v := 1) hx hb dX9_isRule_0 (by decide) ?_
  refine lv_istore (lv' := [(4, .int 1), (0, .ref aM), (1, .int x1), (2, .int x2), (3, .int x3)]) hx hb dX9_isRule_1 hl (by decide) rfl (fun ls hl => ?_)
  refine lv_iconst (v := 0) hx hb dX9_isRule_3 (by decide) ?_
  refine lv_istore (lv' := [(5, .int 0), (4, .int 1), (0, .ref aM), (1, .int x1), (2, .int x2), (3, .int x3)]) hx hb dX9_isRule_4 hl (by decide) rfl (fun ls hl => ?_)
  exact L6 5000 (1 : Int32) (0 : Int32) H locs ls hP hD hS (lv_sub hl [2, 3, 4, 5, 1, 0] rfl) hok
def wsX9_rulesBy : List Cond := .code yX9_rulesBy cX9_rulesBy 8 (some .int) :: W0
abbrev wX9_rulesBy (cy : Nat → ClassId) (aM : Nat) (qM : Nat → Nat) (vM : Nat → Int32) (vM_r : Nat → Int32) : va_W := [(aM, oX9 vM qM), (qM 15, rI cy 224 vM_r)]
set_option maxHeartbeats 4000000 in
set_option maxRecDepth 100000 in
theorem kX9_rulesBy (l : Launch) (D : va_G) (cy : Nat → ClassId) (sz : Nat) (aM : Nat) (qM : Nat → Nat) (vM : Nat → Int32) (vM_r : Nat → Int32) (x1 : Int32) (x2 : Int32) (x3 : Int32) (zr : Int32) (hok : fX9_rulesBy vM vM_r x1 x2 x3 = some zr) (A : Nat → Prop) (hAe : va_A (wX9_rulesBy cy aM qM vM vM_r) sz = A) : Met l yX9_rulesBy wsX9_rulesBy ({ frames := 1, cells := 0, slots := 0, locals := 25 } : Room) (kPre D cy [.ref aM, .int x1, .int x2, .int x3] (wX9_rulesBy cy aM qM vM vM_r) sz) (kQi D cy zr A (wX9_rulesBy cy aM qM vM vM_r)) 0 0 A := by
  refine Met.ofW (cc := cX9_rulesBy) (maxL := 8) (ret := (some .int)) (by decide) rfl ?_
  intro p e s m args below meth c s₁ B hml hv
  obtain ⟨rfl, hsz, hP, hK, hD0, hN⟩ := hv
  have hx := B.exec
  have hb := B.bytes
  have hr := B.returns
  have ht0 : ∀ w ∈ W0, w.before _ s = true := fun w h => atoms_spec (ws := wsX9_rulesBy) B.pre w (List.mem_cons_of_mem _ h)
  have hown : s.vm.findClass RX9 = some m.cls := findClass_of_methodNamed B.named
  have hlocks := B.notSynchronized
  subst hsz
  have hD : va_D A (wX9_rulesBy cy aM qM vM vM_r) := by rw [← hAe]; exact hD0.self
  have hA : ∀ q : Nat, s.heap.size ≤ q → A q := fun q h => by rw [← hAe]; exact Or.inr h
  have hS : va_S A s.heap s.heap [] := va_S.rf
  have hl := lv_entry ([.ref aM, .int x1, .int x2, .int x3]) (n := 8) (Nat.le_of_ble_eq_true rfl)
  rw [lg_entry_eq]
  generalize (lg_sl ([.ref aM, .int x1, .int x2, .int x3]) ++ List.replicate (8 - (lg_sl ([.ref aM, .int x1, .int x2, .int x3])).length) Slot.unset).toArray = ls at hl ⊢
  have hl : lv_has ls 8 [(0, .ref aM), (1, .int x1), (2, .int x2), (3, .int x3)] := hl
  generalize hQe : MQ below (kQi D cy zr A (wX9_rulesBy cy aM qM vM vM_r)) ([.ref aM, .int x1, .int x2, .int x3] : List Value).toArray s 0 0 A = Q
  have L6 : ∀ (fuel : Nat) (y4_6 : Int32) (y5_6 : Int32), ∀ (H : Heap) (locs : List Loc) (ls : Array Slot), va_P D vwCl (wX9_rulesBy cy aM qM vM vM_r) H → va_D A (wX9_rulesBy cy aM qM vM vM_r) → va_S A s.heap H locs → lv_has ls 8 [(0, .ref aM), (1, .int x1), (2, .int x2), (3, .int x3), (4, .int y4_6), (5, .int y5_6)] → lp (fX9_rulesBy_B6 vM vM_r x1 x2 x3) fuel (y4_6, y5_6) = some zr → W p l e ({ frames := 1, cells := 0, slots := 0, locals := 25 } : Room) s m ([.ref aM, .int x1, .int x2, .int x3] : List Value).toArray below meth c H locs 0 0 Q (F0 m 6 ls []) := by
    intro fuel
    induction fuel with
    | zero => intro y4_6 y5_6 H locs ls hP hD hS hl hok; exact (lp_0 hok).elim
    | succ fuel ih6 =>
      intro y4_6 y5_6 H locs ls hP hD hS hl hok
      obtain ⟨y6, hok, hL6, hR6⟩ := lp_step hok
      have L16 : ∀ (fuel : Nat) (y4_16 : Int32) (y6_16 : Int32), ∀ (H : Heap) (locs : List Loc) (ls : Array Slot), va_P D vwCl (wX9_rulesBy cy aM qM vM vM_r) H → va_D A (wX9_rulesBy cy aM qM vM vM_r) → va_S A s.heap H locs → lv_has ls 8 [(0, .ref aM), (1, .int x1), (2, .int x2), (3, .int x3), (4, .int y4_16), (5, .int y5_6), (6, .int y6_16)] → lp (fX9_rulesBy_B16 vM vM_r x1 x2 x3 y5_6) fuel (y4_16, y6_16) = some y6 → W p l e ({ frames := 1, cells := 0, slots := 0, locals := 25 } : Room) s m ([.ref aM, .int x1, .int x2, .int x3] : List Value).toArray below meth c H locs 0 0 Q (F0 m 16 ls []) := by
        intro fuel
        induction fuel with
        | zero => intro y4_16 y6_16 H locs ls hP hD hS hl hok; exact (lp_0 hok).elim
        | succ fuel ih16 =>
          intro y4_16 y6_16 H locs ls hP hD hS hl hok
          obtain ⟨y16, hok, hL16, hR16⟩ := lp_step hok
          have L26 : ∀ (fuel : Nat) (y4_26 : Int32) (y7_26 : Int32), ∀ (H : Heap) (locs : List Loc) (ls : Array Slot), va_P D vwCl (wX9_rulesBy cy aM qM vM vM_r) H → va_D A (wX9_rulesBy cy aM qM vM vM_r) → va_S A s.heap H locs → lv_has ls 8 [(0, .ref aM), (1, .int x1), (2, .int x2), (3, .int x3), (4, .int y4_26), (5, .int y5_6), (6, .int y6_16), (7, .int y7_26)] → lp (fX9_rulesBy_B26 vM vM_r x1 x2 x3 y5_6 y6_16) fuel (y4_26, y7_26) = some y16 → W p l e ({ frames := 1, cells := 0, slots := 0, locals := 25 } : Room) s m ([.ref aM, .int x1, .int x2, .int x3] : List Value).toArray below meth c H locs 0 0 Q (F0 m 26 ls []) := by
            intro fuel
            induction fuel with
            | zero => intro y4_26 y7_26 H locs ls hP hD hS hl hok; exact (lp_0 hok).elim
            | succ fuel ih26 =>
              intro y4_26 y7_26 H locs ls hP hD hS hl hok
              obtain ⟨y26, hok, hL26, hR26⟩ := lp_step hok
              have J71 : ∀ (t0_71 : Int32), ∀ (H : Heap) (locs : List Loc) (ls : Array Slot), va_P D vwCl (wX9_rulesBy cy aM qM vM vM_r) H → va_D A (wX9_rulesBy cy aM qM vM vM_r) → va_S A s.heap H locs → lv_has ls 8 [(0, .ref aM), (1, .int x1), (2, .int x2), (3, .int x3), (5, .int y5_6), (6, .int y6_16), (7, .int y7_26)] → fX9_rulesBy_J71 y4_26 y7_26 t0_71 = some y26 → W p l e ({ frames := 1, cells := 0, slots := 0, locals := 25 } : Room) s m ([.ref aM, .int x1, .int x2, .int x3] : List Value).toArray below meth c H locs 0 0 Q (F0 m 71 ls [.int t0_71, .int y4_26]) := by
                intro t0_71 H locs ls hP hD hS hl hok
                unfold fX9_rulesBy_J71 at hok
                refine lv_iadd hx hb dX9_rulesBy_71 ?_
                refine lv_istore (lv' := [(4, .int (y4_26 + t0_71)), (0, .ref aM), (1, .int x1), (2, .int x2), (3, .int x3), (5, .int y5_6), (6, .int y6_16), (7, .int y7_26)]) hx hb dX9_rulesBy_72 hl (by decide) rfl (fun ls hl => ?_)
                refine lv_iinc (v := (y7_26 + 1)) (lv' := [(7, .int (y7_26 + 1)), (4, .int (y4_26 + t0_71)), (0, .ref aM), (1, .int x1), (2, .int x2), (3, .int x3), (5, .int y5_6), (6, .int y6_16)]) hx hb dX9_rulesBy_74 hl (k := 7) rfl (by first | rfl | decide) (by decide) rfl (fun ls hl => ?_)
                refine lv_goto (tgt := 26) hx hb dX9_rulesBy_77 (by decide) ?_
                exact ih26 (y4_26 + t0_71) (y7_26 + 1) H locs ls hP hD hS (lv_sub hl [2, 3, 4, 5, 1, 6, 7, 0] rfl) (hR26 _ (Option.some.inj hok).symm)
              have J70 : ∀ (H : Heap) (locs : List Loc) (ls : Array Slot), va_P D vwCl (wX9_rulesBy cy aM qM vM vM_r) H → va_D A (wX9_rulesBy cy aM qM vM vM_r) → va_S A s.heap H locs → lv_has ls 8 [(0, .ref aM), (1, .int x1), (2, .int x2), (3, .int x3), (5, .int y5_6), (6, .int y6_16), (7, .int y7_26)] → fX9_rulesBy_J70 y4_26 y7_26 = some y26 → W p l e ({ frames := 1, cells := 0, slots := 0, locals := 25 } : Room) s m ([.ref aM, .int x1, .int x2, .int x3] : List Value).toArray below meth c H locs 0 0 Q (F0 m 70 ls [.int y4_26]) := by
                intro  H locs ls hP hD hS hl hok
                unfold fX9_rulesBy_J70 at hok
                refine lv_iconst (v := 0) hx hb dX9_rulesBy_70 (by decide) ?_
                exact J71 (0 : Int32) H locs ls hP hD hS (lv_sub hl [0, 1, 2, 3, 4, 5, 6] rfl) hok
              have J66 : ∀ (H : Heap) (locs : List Loc) (ls : Array Slot), va_P D vwCl (wX9_rulesBy cy aM qM vM vM_r) H → va_D A (wX9_rulesBy cy aM qM vM vM_r) → va_S A s.heap H locs → lv_has ls 8 [(0, .ref aM), (1, .int x1), (2, .int x2), (3, .int x3), (5, .int y5_6), (6, .int y6_16), (7, .int y7_26)] → fX9_rulesBy_J66 y4_26 y7_26 = some y26 → W p l e ({ frames := 1, cells := 0, slots := 0, locals := 25 } : Room) s m ([.ref aM, .int x1, .int x2, .int x3] : List Value).toArray below meth c H locs 0 0 Q (F0 m 66 ls [.int y4_26]) := by
                intro  H locs ls hP hD hS hl hok
                unfold fX9_rulesBy_J66 at hok
                refine lv_iconst (v := 1) hx hb dX9_rulesBy_66 (by decide) ?_
                refine lv_goto (tgt := 71) hx hb dX9_rulesBy_67 (by decide) ?_
                exact J71 (1 : Int32) H locs ls hP hD hS (lv_sub hl [0, 1, 2, 3, 4, 5, 6] rfl) hok
              unfold fX9_rulesBy_B26 at hok
              try dsimp only at hok
              refine lv_iload hx hb dX9_rulesBy_26 (lv_at hl 7 rfl) ?_
              refine lv_iload hx hb dX9_rulesBy_28 (lv_at hl 5 rfl) ?_
              refine lv_icmp_ge (tgt := 80) hx hb dX9_rulesBy_30 (by decide) (fun c30 => ?_) (fun c30 => ?_)
              · have hok := k_pos c30 hok
                obtain ⟨e26, hok, he26⟩ := ex_some hok
                have hok := hok.trans (congrArg some (hL26 _ he26))
                refine lv_iinc (v := (y6_16 + 1)) (lv' := [(6, .int (y6_16 + 1)), (0, .ref aM), (1, .int x1), (2, .int x2), (3, .int x3), (4, .int y4_26), (5, .int y5_6), (7, .int y7_26)]) hx hb dX9_rulesBy_80 hl (k := 6) rfl (by first | rfl | decide) (by decide) rfl (fun ls hl => ?_)
                refine lv_goto (tgt := 16) hx hb dX9_rulesBy_83 (by decide) ?_
                exact ih16 y4_26 (y6_16 + 1) H locs ls hP hD hS (lv_sub hl [1, 2, 3, 4, 5, 6, 0] rfl) (hR16 _ (Option.some.inj hok).symm)
              · have hok := k_neg c30 hok
                refine lv_iload hx hb dX9_rulesBy_33 (lv_at hl 4 rfl) ?_
                refine lv_aload_n hx hb dX9_rulesBy_35 rfl (lv_at hl 0 rfl) ?_
                refine lv_iload hx hb dX9_rulesBy_36 (lv_at hl 5 rfl) ?_
                refine lv_iload hx hb dX9_rulesBy_38 (lv_at hl 6 rfl) ?_
                refine lv_iload hx hb dX9_rulesBy_40 (lv_at hl 7 rfl) ?_
                obtain ⟨r42, hc42, hok⟩ := k_bind hok
                refine kCi (wc := (wX9_isRule cy aM qM vM vM_r)) (wc2 := (wX9_isRule cy aM qM vM vM_r)) (wr := []) (ws2 := (wX9_rulesBy cy aM qM vM vM_r)) (kRunV (As := [.int y5_6, .int y6_16, .int y7_26]) (rest := [.int y4_26]) ⟨hx, hb, hml, hown, ht0⟩ (kX9_isRule l D cy _ aM qM vM vM_r y5_6 y6_16 y7_26 r42 hc42 _ rfl) (cwV 3 ht0 (gV wd986 wd987 wd988 wd744 wd989) rfl rfl rfl (by decide +kernel) ⟨Nat.le_of_ble_eq_true rfl, Nat.le_of_ble_eq_true rfl⟩) hK hN hP hD [0, 1] rfl (by decide) 0 8 rfl rfl rfl hl.1 rfl (Nat.le_of_ble_eq_true rfl) dX9_rulesBy_42 ⟨Nat.zero_le _, Nat.zero_le _⟩) hP hD hS hA [0, 1] [] rfl rfl (by decide) (by decide) [0, 1] (by decide) rfl rfl (fun H locs hP hD hS => ?_)
                refine lv_if_eq (tgt := 70) hx hb dX9_rulesBy_45 (by decide) (fun c45 => ?_) (fun c45 => ?_)
                · have hok := k_pos c45 hok
                  exact J70  H locs ls hP hD hS (lv_sub hl [0, 1, 2, 3, 5, 6, 7] rfl) hok
                · have hok := k_neg c45 hok
                  refine lv_iload_n hx hb dX9_rulesBy_48 rfl (lv_at hl 1 rfl) ?_
                  refine lv_if_ne (tgt := 66) hx hb dX9_rulesBy_49 (by decide) (fun c49 => ?_) (fun c49 => ?_)
                  · have hok := k_neg c49 hok
                    exact J66  H locs ls hP hD hS (lv_sub hl [0, 1, 2, 3, 5, 6, 7] rfl) hok
                  · have hok := k_pos c49 hok
                    refine lv_iload hx hb dX9_rulesBy_52 (lv_at hl 7 rfl) ?_
                    refine lv_iload hx hb dX9_rulesBy_54 (lv_at hl 6 rfl) ?_
                    refine lv_iload_n hx hb dX9_rulesBy_56 rfl (lv_at hl 2 rfl) ?_
                    refine lv_imul hx hb dX9_rulesBy_57 ?_
                    refine lv_iadd hx hb dX9_rulesBy_58 ?_
                    refine lv_iload hx hb dX9_rulesBy_59 (lv_at hl 5 rfl) ?_
                    obtain ⟨g61, hok⟩ := gd_some hok
                    refine lv_irem hx hb dX9_rulesBy_61 (nzI_ne g61) ?_
                    refine lv_iload_n hx hb dX9_rulesBy_62 rfl (lv_at hl 3 rfl) ?_
                    refine lv_icmp_ne (tgt := 70) hx hb dX9_rulesBy_63 (by decide) (fun c63 => ?_) (fun c63 => ?_)
                    · have hok := k_neg c63 hok
                      exact J70  H locs ls hP hD hS (lv_sub hl [0, 1, 2, 3, 5, 6, 7] rfl) hok
                    · have hok := k_pos c63 hok
                      exact J66  H locs ls hP hD hS (lv_sub hl [0, 1, 2, 3, 5, 6, 7] rfl) hok
          unfold fX9_rulesBy_B16 at hok
          try dsimp only at hok
          refine lv_iload hx hb dX9_rulesBy_16 (lv_at hl 6 rfl) ?_
          refine lv_iload hx hb dX9_rulesBy_18 (lv_at hl 5 rfl) ?_
          refine lv_icmp_ge (tgt := 86) hx hb dX9_rulesBy_20 (by decide) (fun c20 => ?_) (fun c20 => ?_)
          · have hok := k_pos c20 hok
            obtain ⟨e16, hok, he16⟩ := ex_some hok
            have hok := hok.trans (congrArg some (hL16 _ he16))
            refine lv_iinc (v := (y5_6 + 1)) (lv' := [(5, .int (y5_6 + 1)), (0, .ref aM), (1, .int x1), (2, .int x2), (3, .int x3), (4, .int y4_16), (6, .int y6_16)]) hx hb dX9_rulesBy_86 hl (k := 5) rfl (by first | rfl | decide) (by decide) rfl (fun ls hl => ?_)
            refine lv_goto (tgt := 6) hx hb dX9_rulesBy_89 (by decide) ?_
            exact ih6 y4_16 (y5_6 + 1) H locs ls hP hD hS (lv_sub hl [1, 2, 3, 4, 5, 0] rfl) (hR6 _ (Option.some.inj hok).symm)
          · have hok := k_neg c20 hok
            refine lv_iconst (v := 0) hx hb dX9_rulesBy_23 (by decide) ?_
            refine lv_istore (lv' := [(7, .int 0), (0, .ref aM), (1, .int x1), (2, .int x2), (3, .int x3), (4, .int y4_16), (5, .int y5_6), (6, .int y6_16)]) hx hb dX9_rulesBy_24 hl (by decide) rfl (fun ls hl => ?_)
            exact L26 5000 y4_16 (0 : Int32) H locs ls hP hD hS (lv_sub hl [1, 2, 3, 4, 5, 6, 7, 0] rfl) hok
      unfold fX9_rulesBy_B6 at hok
      try dsimp only at hok
      refine lv_iload hx hb dX9_rulesBy_6 (lv_at hl 5 rfl) ?_
      refine lv_bipush (v := 12) hx hb dX9_rulesBy_8 (by decide) ?_
      refine lv_icmp_gt (tgt := 92) hx hb dX9_rulesBy_10 (by decide) (fun c10 => ?_) (fun c10 => ?_)
      · have hok := k_pos c10 hok
        obtain ⟨e6, hok, he6⟩ := ex_some hok
        have hok := hok.trans (congrArg some (hL6 _ he6))
        refine lv_iload hx hb dX9_rulesBy_92 (lv_at hl 4 rfl) ?_
        cases hok
        subst hQe; exact W.iret hx hb hr (fun t ht hW => ⟨⟨_, (), rfl, rfl, by rw [ht]; exact hP, va_K.moved hW.alike hK, hD⟩, hS.F ht⟩) hS.2.2 dX9_rulesBy_94
      · have hok := k_neg c10 hok
        refine lv_iconst (v := 1) hx hb dX9_rulesBy_13 (by decide) ?_
        refine lv_istore (lv' := [(6, .int 1), (0, .ref aM), (1, .int x1), (2, .int x2), (3, .int x3), (4, .int y4_6), (5, .int y5_6)]) hx hb dX9_rulesBy_14 hl (by decide) rfl (fun ls hl => ?_)
        exact L16 5000 y4_6 (1 : Int32) H locs ls hP hD hS (lv_sub hl [1, 2, 3, 4, 5, 6, 0] rfl) hok
  unfold fX9_rulesBy at hok
  obtain ⟨H, hH⟩ : ∃ H, H = s.heap := ⟨_, rfl⟩
  obtain ⟨locs, hlc⟩ : ∃ x : List Loc, x = [] := ⟨_, rfl⟩
  have hP : va_P D vwCl (wX9_rulesBy cy aM qM vM vM_r) H := by rw [hH]; exact hP
  have hS : va_S A s.heap H locs := by rw [hH, hlc]; exact hS
  rw [show W p l e _ s m _ below meth c s.heap [] = W p l e _ s m _ below meth c H locs from by rw [hH, hlc]]
  refine lv_iconst (v := 0) hx hb dX9_rulesBy_0 (by decide) ?_
  refine lv_istore (lv' := [(4, .int 0), (0, .ref aM), (1, .int x1), (2, .int x2), (3, .int x3)]) hx hb dX9_rulesBy_1 hl (by decide) rfl (fun ls hl => ?_)
  refine lv_iconst (v := 2) hx hb dX9_rulesBy_3 (by decide) ?_
  refine lv_istore (lv' := [(5, .int 2), (4, .int 0), (0, .ref aM), (1, .int x1), (2, .int x2), (3, .int x3)]) hx hb dX9_rulesBy_4 hl (by decide) rfl (fun ls hl => ?_)
  exact L6 5000 (0 : Int32) (2 : Int32) H locs ls hP hD hS (lv_sub hl [2, 3, 4, 5, 1, 0] rfl) hok
def wsX9_rules : List Cond := .code yX9_rules cX9_rules 1 (some .int) :: W0
abbrev wX9_rules (cy : Nat → ClassId) (aM : Nat) (qM : Nat → Nat) (vM : Nat → Int32) (vM_r : Nat → Int32) : va_W := [(aM, oX9 vM qM), (qM 15, rI cy 224 vM_r)]
set_option maxHeartbeats 4000000 in
set_option maxRecDepth 100000 in
theorem kX9_rules (l : Launch) (D : va_G) (cy : Nat → ClassId) (sz : Nat) (aM : Nat) (qM : Nat → Nat) (vM : Nat → Int32) (vM_r : Nat → Int32) (zr : Int32) (z_vM : Nat → Int32) (hok : fX9_rules vM vM_r = some (zr, z_vM)) (A : Nat → Prop) (hAe : va_A (wX9_rules cy aM qM vM vM_r) sz = A) : Met l yX9_rules wsX9_rules ({ frames := 2, cells := 0, slots := 0, locals := 52 } : Room) (kPre D cy [.ref aM] (wX9_rules cy aM qM vM vM_r) sz) (kQi D cy zr A (wX9_rules cy aM qM z_vM vM_r)) 0 0 A := by
  refine Met.ofW (cc := cX9_rules) (maxL := 1) (ret := (some .int)) (by decide) rfl ?_
  intro p e s m args below meth c s₁ B hml hv
  obtain ⟨rfl, hsz, hP, hK, hD0, hN⟩ := hv
  have hx := B.exec
  have hb := B.bytes
  have hr := B.returns
  have ht0 : ∀ w ∈ W0, w.before _ s = true := fun w h => atoms_spec (ws := wsX9_rules) B.pre w (List.mem_cons_of_mem _ h)
  have hown : s.vm.findClass RX9 = some m.cls := findClass_of_methodNamed B.named
  have hlocks := B.notSynchronized
  subst hsz
  have hD : va_D A (wX9_rules cy aM qM vM vM_r) := by rw [← hAe]; exact hD0.self
  have hA : ∀ q : Nat, s.heap.size ≤ q → A q := fun q h => by rw [← hAe]; exact Or.inr h
  have hS : va_S A s.heap s.heap [] := va_S.rf
  have hl := lv_entry ([.ref aM]) (n := 1) (Nat.le_of_ble_eq_true rfl)
  rw [lg_entry_eq]
  generalize (lg_sl ([.ref aM]) ++ List.replicate (1 - (lg_sl ([.ref aM])).length) Slot.unset).toArray = ls at hl ⊢
  have hl : lv_has ls 1 [(0, .ref aM)] := hl
  generalize hQe : MQ below (kQi D cy zr A (wX9_rules cy aM qM z_vM vM_r)) ([.ref aM] : List Value).toArray s 0 0 A = Q
  have J26 : ∀ (t0_26 : Int32) (vM_26 : Nat → Int32), ∀ (H : Heap) (locs : List Loc) (ls : Array Slot), va_P D vwCl (wX9_rules cy aM qM vM_26 vM_r) H → va_D A (wX9_rules cy aM qM vM_26 vM_r) → va_S A s.heap H locs → lv_has ls 1 [] → fX9_rules_J26 t0_26 vM_26 = some (zr, z_vM) → W p l e ({ frames := 2, cells := 0, slots := 0, locals := 52 } : Room) s m ([.ref aM] : List Value).toArray below meth c H locs 0 0 Q (F0 m 26 ls [.int t0_26]) := by
    intro t0_26 vM_26 H locs ls hP hD hS hl hok
    unfold fX9_rules_J26 at hok
    cases hok
    subst hQe; exact W.iret hx hb hr (fun t ht hW => ⟨⟨_, (), rfl, rfl, by rw [ht]; exact hP, va_K.moved hW.alike hK, hD⟩, hS.F ht⟩) hS.2.2 dX9_rules_26
  unfold fX9_rules at hok
  obtain ⟨H, hH⟩ : ∃ H, H = s.heap := ⟨_, rfl⟩
  obtain ⟨locs, hlc⟩ : ∃ x : List Loc, x = [] := ⟨_, rfl⟩
  have hP : va_P D vwCl (wX9_rules cy aM qM vM vM_r) H := by rw [hH]; exact hP
  have hS : va_S A s.heap H locs := by rw [hH, hlc]; exact hS
  rw [show W p l e _ s m _ below meth c s.heap [] = W p l e _ s m _ below meth c H locs from by rw [hH, hlc]]
  refine lv_aload_n hx hb dX9_rules_0 rfl (lv_at hl 0 rfl) ?_
  obtain ⟨vM_1, hc1, hok⟩ := k_bind hok
  refine kCv (wc := (wX9_good cy aM qM vM)) (wc2 := (wX9_good cy aM qM vM_1)) (wr := [(qM 15, rI cy 224 vM_r)]) (ws2 := (wX9_rules cy aM qM vM_1 vM_r)) (kRunV (As := []) (rest := []) ⟨hx, hb, hml, hown, ht0⟩ (kX9_good l D cy _ aM qM vM vM_1 hc1 _ rfl) (cwV 0 ht0 (gV wd870 wd871 wd872 wd744 wd873) rfl rfl rfl (by decide +kernel) ⟨Nat.le_of_ble_eq_true rfl, Nat.le_of_ble_eq_true rfl⟩) hK hN hP hD [0] rfl (by decide) 0 8 rfl rfl rfl hl.1 rfl (Nat.le_of_ble_eq_true rfl) dX9_rules_1 ⟨Nat.zero_le _, Nat.zero_le _⟩) hP hD hS hA [0] [1] rfl rfl (by decide) (by decide) [1, 0] (by decide) rfl rfl (fun H locs hP hD hS => ?_)
  refine lv_aload_n hx hb dX9_rules_4 rfl (lv_at hl 0 rfl) ?_
  refine va_get (D := D) (ci := 8) (v := .int (vM_1 14)) (C := RX9) (T := TX9) (N := 29) hx hb ht0 niX9 hown hK hP 0 rfl rfl 14 (by decide) (ht0 _ wd855) (fun _ h9 => h9) rfl dX9_rules_5 ?_
  refine lv_if_eq (tgt := 21) hx hb dX9_rules_8 (by decide) (fun c8 => ?_) (fun c8 => ?_)
  · have hok := k_pos c8 hok
    refine lv_aload_n hx hb dX9_rules_21 rfl (lv_at hl 0 rfl) ?_
    refine lv_iconst (v := 1) hx hb dX9_rules_22 (by decide) ?_
    obtain ⟨⟨r23, vM_23⟩, hc23, hok⟩ := k_bind hok
    try dsimp only at hok
    refine kCi (wc := (wX9_no cy aM qM vM_1)) (wc2 := (wX9_no cy aM qM vM_23)) (wr := [(qM 15, rI cy 224 vM_r)]) (ws2 := (wX9_rules cy aM qM vM_23 vM_r)) (kRunV (As := [.int 1]) (rest := []) ⟨hx, hb, hml, hown, ht0⟩ (kX9_no l D cy _ aM qM vM_1 (1 : Int32) r23 vM_23 hc23 _ rfl) (cwV 1 ht0 (gV wd862 wd863 wd864 wd744 wd865) rfl rfl rfl (by decide +kernel) ⟨Nat.le_of_ble_eq_true rfl, Nat.le_of_ble_eq_true rfl⟩) hK hN hP hD [0] rfl (by decide) 0 8 rfl rfl rfl hl.1 rfl (Nat.le_of_ble_eq_true rfl) dX9_rules_23 ⟨Nat.zero_le _, Nat.zero_le _⟩) hP hD hS hA [0] [1] rfl rfl (by decide) (by decide) [1, 0] (by decide) rfl rfl (fun H locs hP hD hS => ?_)
    exact J26 r23 vM_23 H locs ls hP hD hS (lv_sub hl [] rfl) hok
  · have hok := k_neg c8 hok
    refine lv_aload_n hx hb dX9_rules_11 rfl (lv_at hl 0 rfl) ?_
    refine lv_iconst (v := 1) hx hb dX9_rules_12 (by decide) ?_
    refine lv_iconst (v := 0) hx hb dX9_rules_13 (by decide) ?_
    refine lv_iconst (v := 0) hx hb dX9_rules_14 (by decide) ?_
    obtain ⟨r15, hc15, hok⟩ := k_bind hok
    refine kCi (wc := (wX9_rulesBy cy aM qM vM_1 vM_r)) (wc2 := (wX9_rulesBy cy aM qM vM_1 vM_r)) (wr := []) (ws2 := (wX9_rules cy aM qM vM_1 vM_r)) (kRunV (As := [.int 1, .int 0, .int 0]) (rest := []) ⟨hx, hb, hml, hown, ht0⟩ (kX9_rulesBy l D cy _ aM qM vM_1 vM_r (1 : Int32) (0 : Int32) (0 : Int32) r15 hc15 _ rfl) (cwV 3 ht0 (gV wd990 wd991 wd992 wd744 wd993) rfl rfl rfl (by decide +kernel) ⟨Nat.le_of_ble_eq_true rfl, Nat.le_of_ble_eq_true rfl⟩) hK hN hP hD [0, 1] rfl (by decide) 0 8 rfl rfl rfl hl.1 rfl (Nat.le_of_ble_eq_true rfl) dX9_rules_15 ⟨Nat.zero_le _, Nat.zero_le _⟩) hP hD hS hA [0, 1] [] rfl rfl (by decide) (by decide) [0, 1] (by decide) rfl rfl (fun H locs hP hD hS => ?_)
    refine lv_goto (tgt := 26) hx hb dX9_rules_18 (by decide) ?_
    exact J26 r15 vM_1 H locs ls hP hD hS (lv_sub hl [] rfl) hok
def wsX9_ruleAt : List Cond := .code yX9_ruleAt cX9_ruleAt 6 (some .int) :: W0
abbrev wX9_ruleAt (cy : Nat → ClassId) (aM : Nat) (qM : Nat → Nat) (vM : Nat → Int32) (vM_r : Nat → Int32) : va_W := [(aM, oX9 vM qM), (qM 15, rI cy 224 vM_r)]
set_option maxHeartbeats 4000000 in
set_option maxRecDepth 100000 in
theorem kX9_ruleAt (l : Launch) (D : va_G) (cy : Nat → ClassId) (sz : Nat) (aM : Nat) (qM : Nat → Nat) (vM : Nat → Int32) (vM_r : Nat → Int32) (x1 : Int32) (zr : Int32) (z_vM : Nat → Int32) (hok : fX9_ruleAt vM vM_r x1 = some (zr, z_vM)) (A : Nat → Prop) (hAe : va_A (wX9_ruleAt cy aM qM vM vM_r) sz = A) : Met l yX9_ruleAt wsX9_ruleAt ({ frames := 1, cells := 0, slots := 0, locals := 25 } : Room) (kPre D cy [.ref aM, .int x1] (wX9_ruleAt cy aM qM vM vM_r) sz) (kQi D cy zr A (wX9_ruleAt cy aM qM z_vM vM_r)) 0 0 A := by
  refine Met.ofW (cc := cX9_ruleAt) (maxL := 6) (ret := (some .int)) (by decide) rfl ?_
  intro p e s m args below meth c s₁ B hml hv
  obtain ⟨rfl, hsz, hP, hK, hD0, hN⟩ := hv
  have hx := B.exec
  have hb := B.bytes
  have hr := B.returns
  have ht0 : ∀ w ∈ W0, w.before _ s = true := fun w h => atoms_spec (ws := wsX9_ruleAt) B.pre w (List.mem_cons_of_mem _ h)
  have hown : s.vm.findClass RX9 = some m.cls := findClass_of_methodNamed B.named
  have hlocks := B.notSynchronized
  subst hsz
  have hD : va_D A (wX9_ruleAt cy aM qM vM vM_r) := by rw [← hAe]; exact hD0.self
  have hA : ∀ q : Nat, s.heap.size ≤ q → A q := fun q h => by rw [← hAe]; exact Or.inr h
  have hS : va_S A s.heap s.heap [] := va_S.rf
  have hl := lv_entry ([.ref aM, .int x1]) (n := 6) (Nat.le_of_ble_eq_true rfl)
  rw [lg_entry_eq]
  generalize (lg_sl ([.ref aM, .int x1]) ++ List.replicate (6 - (lg_sl ([.ref aM, .int x1])).length) Slot.unset).toArray = ls at hl ⊢
  have hl : lv_has ls 6 [(0, .ref aM), (1, .int x1)] := hl
  generalize hQe : MQ below (kQi D cy zr A (wX9_ruleAt cy aM qM z_vM vM_r)) ([.ref aM, .int x1] : List Value).toArray s 0 0 A = Q
  have L21 : ∀ (fuel : Nat) (y2_21 : Int32) (y3_21 : Int32) (vM_21 : Nat → Int32), ∀ (H : Heap) (locs : List Loc) (ls : Array Slot), va_P D vwCl (wX9_ruleAt cy aM qM vM_21 vM_r) H → va_D A (wX9_ruleAt cy aM qM vM_21 vM_r) → va_S A s.heap H locs → lv_has ls 6 [(0, .ref aM), (1, .int x1), (2, .int y2_21), (3, .int y3_21)] → lp (fX9_ruleAt_B21 vM_r x1) fuel (y2_21, y3_21, vM_21) = some (zr, z_vM) → W p l e ({ frames := 1, cells := 0, slots := 0, locals := 25 } : Room) s m ([.ref aM, .int x1] : List Value).toArray below meth c H locs 0 0 Q (F0 m 21 ls []) := by
    intro fuel
    induction fuel with
    | zero => intro y2_21 y3_21 vM_21 H locs ls hP hD hS hl hok; exact (lp_0 hok).elim
    | succ fuel ih21 =>
      intro y2_21 y3_21 vM_21 H locs ls hP hD hS hl hok
      obtain ⟨y21, hok, hL21, hR21⟩ := lp_step hok
      have L30 : ∀ (fuel : Nat) (y2_30 : Int32) (y4_30 : Int32), ∀ (H : Heap) (locs : List Loc) (ls : Array Slot), va_P D vwCl (wX9_ruleAt cy aM qM vM_21 vM_r) H → va_D A (wX9_ruleAt cy aM qM vM_21 vM_r) → va_S A s.heap H locs → lv_has ls 6 [(0, .ref aM), (1, .int x1), (2, .int y2_30), (3, .int y3_21), (4, .int y4_30)] → lp (fX9_ruleAt_B30 vM_r x1 y3_21 vM_21) fuel (y2_30, y4_30) = some y21 → W p l e ({ frames := 1, cells := 0, slots := 0, locals := 25 } : Room) s m ([.ref aM, .int x1] : List Value).toArray below meth c H locs 0 0 Q (F0 m 30 ls []) := by
        intro fuel
        induction fuel with
        | zero => intro y2_30 y4_30 H locs ls hP hD hS hl hok; exact (lp_0 hok).elim
        | succ fuel ih30 =>
          intro y2_30 y4_30 H locs ls hP hD hS hl hok
          obtain ⟨y30, hok, hL30, hR30⟩ := lp_step hok
          have L39 : ∀ (fuel : Nat) (y2_39 : Int32) (y5_39 : Int32), ∀ (H : Heap) (locs : List Loc) (ls : Array Slot), va_P D vwCl (wX9_ruleAt cy aM qM vM_21 vM_r) H → va_D A (wX9_ruleAt cy aM qM vM_21 vM_r) → va_S A s.heap H locs → lv_has ls 6 [(0, .ref aM), (1, .int x1), (2, .int y2_39), (3, .int y3_21), (4, .int y4_30), (5, .int y5_39)] → lp (fX9_ruleAt_B39 vM_r x1 y3_21 vM_21 y4_30) fuel (y2_39, y5_39) = some y30 → W p l e ({ frames := 1, cells := 0, slots := 0, locals := 25 } : Room) s m ([.ref aM, .int x1] : List Value).toArray below meth c H locs 0 0 Q (F0 m 39 ls []) := by
            intro fuel
            induction fuel with
            | zero => intro y2_39 y5_39 H locs ls hP hD hS hl hok; exact (lp_0 hok).elim
            | succ fuel ih39 =>
              intro y2_39 y5_39 H locs ls hP hD hS hl hok
              obtain ⟨y39, hok, hL39, hR39⟩ := lp_step hok
              have J83 : ∀ (y2_83 : Int32), ∀ (H : Heap) (locs : List Loc) (ls : Array Slot), va_P D vwCl (wX9_ruleAt cy aM qM vM_21 vM_r) H → va_D A (wX9_ruleAt cy aM qM vM_21 vM_r) → va_S A s.heap H locs → lv_has ls 6 [(0, .ref aM), (1, .int x1), (2, .int y2_83), (3, .int y3_21), (4, .int y4_30), (5, .int y5_39)] → fX9_ruleAt_J83 y5_39 y2_83 = some y39 → W p l e ({ frames := 1, cells := 0, slots := 0, locals := 25 } : Room) s m ([.ref aM, .int x1] : List Value).toArray below meth c H locs 0 0 Q (F0 m 83 ls []) := by
                intro y2_83 H locs ls hP hD hS hl hok
                unfold fX9_ruleAt_J83 at hok
                refine lv_iinc (v := (y5_39 + 1)) (lv' := [(5, .int (y5_39 + 1)), (0, .ref aM), (1, .int x1), (2, .int y2_83), (3, .int y3_21), (4, .int y4_30)]) hx hb dX9_ruleAt_83 hl (k := 5) rfl (by first | rfl | decide) (by decide) rfl (fun ls hl => ?_)
                refine lv_goto (tgt := 39) hx hb dX9_ruleAt_86 (by decide) ?_
                exact ih39 y2_83 (y5_39 + 1) H locs ls hP hD hS (lv_sub hl [1, 2, 3, 4, 5, 0] rfl) (hR39 _ (Option.some.inj hok).symm)
              unfold fX9_ruleAt_B39 at hok
              try dsimp only at hok
              refine lv_iload hx hb dX9_ruleAt_39 (lv_at hl 5 rfl) ?_
              refine lv_iload_n hx hb dX9_ruleAt_41 rfl (lv_at hl 3 rfl) ?_
              refine lv_icmp_ge (tgt := 89) hx hb dX9_ruleAt_42 (by decide) (fun c42 => ?_) (fun c42 => ?_)
              · have hok := k_pos c42 hok
                obtain ⟨e39, hok, he39⟩ := ex_some hok
                have hok := hok.trans (congrArg some (hL39 _ he39))
                refine lv_iinc (v := (y4_30 + 1)) (lv' := [(4, .int (y4_30 + 1)), (0, .ref aM), (1, .int x1), (2, .int y2_39), (3, .int y3_21), (5, .int y5_39)]) hx hb dX9_ruleAt_89 hl (k := 4) rfl (by first | rfl | decide) (by decide) rfl (fun ls hl => ?_)
                refine lv_goto (tgt := 30) hx hb dX9_ruleAt_92 (by decide) ?_
                exact ih30 y2_39 (y4_30 + 1) H locs ls hP hD hS (lv_sub hl [1, 2, 3, 4, 0] rfl) (hR30 _ (Option.some.inj hok).symm)
              · have hok := k_neg c42 hok
                refine lv_aload_n hx hb dX9_ruleAt_45 rfl (lv_at hl 0 rfl) ?_
                refine lv_iload_n hx hb dX9_ruleAt_46 rfl (lv_at hl 3 rfl) ?_
                refine lv_iload hx hb dX9_ruleAt_47 (lv_at hl 4 rfl) ?_
                refine lv_iload hx hb dX9_ruleAt_49 (lv_at hl 5 rfl) ?_
                obtain ⟨r51, hc51, hok⟩ := k_bind hok
                refine kCi (wc := (wX9_isRule cy aM qM vM_21 vM_r)) (wc2 := (wX9_isRule cy aM qM vM_21 vM_r)) (wr := []) (ws2 := (wX9_ruleAt cy aM qM vM_21 vM_r)) (kRunV (As := [.int y3_21, .int y4_30, .int y5_39]) (rest := []) ⟨hx, hb, hml, hown, ht0⟩ (kX9_isRule l D cy _ aM qM vM_21 vM_r y3_21 y4_30 y5_39 r51 hc51 _ rfl) (cwV 3 ht0 (gV wd986 wd987 wd988 wd744 wd989) rfl rfl rfl (by decide +kernel) ⟨Nat.le_of_ble_eq_true rfl, Nat.le_of_ble_eq_true rfl⟩) hK hN hP hD [0, 1] rfl (by decide) 0 8 rfl rfl rfl hl.1 rfl (Nat.le_of_ble_eq_true rfl) dX9_ruleAt_51 ⟨Nat.zero_le _, Nat.zero_le _⟩) hP hD hS hA [0, 1] [] rfl rfl (by decide) (by decide) [0, 1] (by decide) rfl rfl (fun H locs hP hD hS => ?_)
                refine lv_if_ne (tgt := 60) hx hb dX9_ruleAt_54 (by decide) (fun c54 => ?_) (fun c54 => ?_)
                · have hok := k_neg c54 hok
                  refine lv_iload_n hx hb dX9_ruleAt_60 rfl (lv_at hl 2 rfl) ?_
                  refine lv_iload_n hx hb dX9_ruleAt_61 rfl (lv_at hl 1 rfl) ?_
                  refine lv_icmp_ne (tgt := 80) hx hb dX9_ruleAt_62 (by decide) (fun c62 => ?_) (fun c62 => ?_)
                  · have hok := k_neg c62 hok
                    refine lv_iinc (v := (y2_39 + 1)) (lv' := [(2, .int (y2_39 + 1)), (0, .ref aM), (1, .int x1), (3, .int y3_21), (4, .int y4_30), (5, .int y5_39)]) hx hb dX9_ruleAt_80 hl (k := 2) rfl (by first | rfl | decide) (by decide) rfl (fun ls hl => ?_)
                    exact J83 (y2_39 + 1) H locs ls hP hD hS (lv_sub hl [1, 2, 0, 3, 4, 5] rfl) hok
                  · have hok := k_pos c62 hok
                    obtain ⟨e39, hok, he39⟩ := ex_some hok
                    have hok := hok.trans (congrArg some (hL39 _ he39))
                    obtain ⟨e30, hok, he30⟩ := ex_some hok
                    have hok := hok.trans (congrArg some (hL30 _ he30))
                    obtain ⟨e21, hok, he21⟩ := ex_some hok
                    have hok := hok.trans (congrArg some (hL21 _ he21))
                    refine lv_sipush (v := 10000) hx hb dX9_ruleAt_65 (by decide) ?_
                    refine lv_iload_n hx hb dX9_ruleAt_68 rfl (lv_at hl 3 rfl) ?_
                    refine lv_imul hx hb dX9_ruleAt_69 ?_
                    refine lv_bipush (v := 100) hx hb dX9_ruleAt_70 (by decide) ?_
                    refine lv_iload hx hb dX9_ruleAt_72 (lv_at hl 4 rfl) ?_
                    refine lv_imul hx hb dX9_ruleAt_74 ?_
                    refine lv_iadd hx hb dX9_ruleAt_75 ?_
                    refine lv_iload hx hb dX9_ruleAt_76 (lv_at hl 5 rfl) ?_
                    refine lv_iadd hx hb dX9_ruleAt_78 ?_
                    cases hok
                    subst hQe; exact W.iret hx hb hr (fun t ht hW => ⟨⟨_, (), rfl, rfl, by rw [ht]; exact hP, va_K.moved hW.alike hK, hD⟩, hS.F ht⟩) hS.2.2 dX9_ruleAt_79
                · have hok := k_pos c54 hok
                  refine lv_goto (tgt := 83) hx hb dX9_ruleAt_57 (by decide) ?_
                  exact J83 y2_39 H locs ls hP hD hS (lv_sub hl [0, 1, 2, 3, 4, 5] rfl) hok
          unfold fX9_ruleAt_B30 at hok
          try dsimp only at hok
          refine lv_iload hx hb dX9_ruleAt_30 (lv_at hl 4 rfl) ?_
          refine lv_iload_n hx hb dX9_ruleAt_32 rfl (lv_at hl 3 rfl) ?_
          refine lv_icmp_ge (tgt := 95) hx hb dX9_ruleAt_33 (by decide) (fun c33 => ?_) (fun c33 => ?_)
          · have hok := k_pos c33 hok
            obtain ⟨e30, hok, he30⟩ := ex_some hok
            have hok := hok.trans (congrArg some (hL30 _ he30))
            refine lv_iinc (v := (y3_21 + 1)) (lv' := [(3, .int (y3_21 + 1)), (0, .ref aM), (1, .int x1), (2, .int y2_30), (4, .int y4_30)]) hx hb dX9_ruleAt_95 hl (k := 3) rfl (by first | rfl | decide) (by decide) rfl (fun ls hl => ?_)
            refine lv_goto (tgt := 21) hx hb dX9_ruleAt_98 (by decide) ?_
            exact ih21 y2_30 (y3_21 + 1) vM_21 H locs ls hP hD hS (lv_sub hl [1, 2, 3, 0] rfl) (hR21 _ (Option.some.inj hok).symm)
          · have hok := k_neg c33 hok
            refine lv_iconst (v := 0) hx hb dX9_ruleAt_36 (by decide) ?_
            refine lv_istore (lv' := [(5, .int 0), (0, .ref aM), (1, .int x1), (2, .int y2_30), (3, .int y3_21), (4, .int y4_30)]) hx hb dX9_ruleAt_37 hl (by decide) rfl (fun ls hl => ?_)
            exact L39 5000 y2_30 (0 : Int32) H locs ls hP hD hS (lv_sub hl [1, 2, 3, 4, 5, 0] rfl) hok
      unfold fX9_ruleAt_B21 at hok
      try dsimp only at hok
      refine lv_iload_n hx hb dX9_ruleAt_21 rfl (lv_at hl 3 rfl) ?_
      refine lv_bipush (v := 12) hx hb dX9_ruleAt_22 (by decide) ?_
      refine lv_icmp_gt (tgt := 101) hx hb dX9_ruleAt_24 (by decide) (fun c24 => ?_) (fun c24 => ?_)
      · have hok := k_pos c24 hok
        obtain ⟨e21, hok, he21⟩ := ex_some hok
        have hok := hok.trans (congrArg some (hL21 _ he21))
        refine lv_aload_n hx hb dX9_ruleAt_101 rfl (lv_at hl 0 rfl) ?_
        refine lv_iconst (v := 1) hx hb dX9_ruleAt_102 (by decide) ?_
        obtain ⟨⟨r103, vM_103⟩, hc103, hok⟩ := k_bind hok
        try dsimp only at hok
        refine kCi (wc := (wX9_no cy aM qM vM_21)) (wc2 := (wX9_no cy aM qM vM_103)) (wr := [(qM 15, rI cy 224 vM_r)]) (ws2 := (wX9_ruleAt cy aM qM vM_103 vM_r)) (kRunV (As := [.int 1]) (rest := []) ⟨hx, hb, hml, hown, ht0⟩ (kX9_no l D cy _ aM qM vM_21 (1 : Int32) r103 vM_103 hc103 _ rfl) (cwV 1 ht0 (gV wd862 wd863 wd864 wd744 wd865) rfl rfl rfl (by decide +kernel) ⟨Nat.le_of_ble_eq_true rfl, Nat.le_of_ble_eq_true rfl⟩) hK hN hP hD [0] rfl (by decide) 0 8 rfl rfl rfl hl.1 rfl (Nat.le_of_ble_eq_true rfl) dX9_ruleAt_103 ⟨Nat.zero_le _, Nat.zero_le _⟩) hP hD hS hA [0] [1] rfl rfl (by decide) (by decide) [1, 0] (by decide) rfl rfl (fun H locs hP hD hS => ?_)
        cases hok
        subst hQe; exact W.iret hx hb hr (fun t ht hW => ⟨⟨_, (), rfl, rfl, by rw [ht]; exact hP, va_K.moved hW.alike hK, hD⟩, hS.F ht⟩) hS.2.2 dX9_ruleAt_106
      · have hok := k_neg c24 hok
        refine lv_iconst (v := 1) hx hb dX9_ruleAt_27 (by decide) ?_
        refine lv_istore (lv' := [(4, .int 1), (0, .ref aM), (1, .int x1), (2, .int y2_21), (3, .int y3_21)]) hx hb dX9_ruleAt_28 hl (by decide) rfl (fun ls hl => ?_)
        exact L30 5000 y2_21 (1 : Int32) H locs ls hP hD hS (lv_sub hl [1, 2, 3, 4, 0] rfl) hok
  unfold fX9_ruleAt at hok
  obtain ⟨H, hH⟩ : ∃ H, H = s.heap := ⟨_, rfl⟩
  obtain ⟨locs, hlc⟩ : ∃ x : List Loc, x = [] := ⟨_, rfl⟩
  have hP : va_P D vwCl (wX9_ruleAt cy aM qM vM vM_r) H := by rw [hH]; exact hP
  have hS : va_S A s.heap H locs := by rw [hH, hlc]; exact hS
  rw [show W p l e _ s m _ below meth c s.heap [] = W p l e _ s m _ below meth c H locs from by rw [hH, hlc]]
  refine lv_aload_n hx hb dX9_ruleAt_0 rfl (lv_at hl 0 rfl) ?_
  obtain ⟨vM_1, hc1, hok⟩ := k_bind hok
  refine kCv (wc := (wX9_good cy aM qM vM)) (wc2 := (wX9_good cy aM qM vM_1)) (wr := [(qM 15, rI cy 224 vM_r)]) (ws2 := (wX9_ruleAt cy aM qM vM_1 vM_r)) (kRunV (As := []) (rest := []) ⟨hx, hb, hml, hown, ht0⟩ (kX9_good l D cy _ aM qM vM vM_1 hc1 _ rfl) (cwV 0 ht0 (gV wd870 wd871 wd872 wd744 wd873) rfl rfl rfl (by decide +kernel) ⟨Nat.le_of_ble_eq_true rfl, Nat.le_of_ble_eq_true rfl⟩) hK hN hP hD [0] rfl (by decide) 0 8 rfl rfl rfl hl.1 rfl (Nat.le_of_ble_eq_true rfl) dX9_ruleAt_1 ⟨Nat.zero_le _, Nat.zero_le _⟩) hP hD hS hA [0] [1] rfl rfl (by decide) (by decide) [1, 0] (by decide) rfl rfl (fun H locs hP hD hS => ?_)
  refine lv_aload_n hx hb dX9_ruleAt_4 rfl (lv_at hl 0 rfl) ?_
  refine va_get (D := D) (ci := 8) (v := .int (vM_1 14)) (C := RX9) (T := TX9) (N := 29) hx hb ht0 niX9 hown hK hP 0 rfl rfl 14 (by decide) (ht0 _ wd855) (fun _ h9 => h9) rfl dX9_ruleAt_5 ?_
  refine lv_if_ne (tgt := 17) hx hb dX9_ruleAt_8 (by decide) (fun c8 => ?_) (fun c8 => ?_)
  · have hok := k_neg c8 hok
    refine lv_iconst (v := 0) hx hb dX9_ruleAt_17 (by decide) ?_
    refine lv_istore_n (lv' := [(2, .int 0), (0, .ref aM), (1, .int x1)]) hx hb dX9_ruleAt_18 rfl hl (by decide) rfl (fun ls hl => ?_)
    refine lv_iconst (v := 2) hx hb dX9_ruleAt_19 (by decide) ?_
    refine lv_istore_n (lv' := [(3, .int 2), (2, .int 0), (0, .ref aM), (1, .int x1)]) hx hb dX9_ruleAt_20 rfl hl (by decide) rfl (fun ls hl => ?_)
    exact L21 5000 (0 : Int32) (2 : Int32) vM_1 H locs ls hP hD hS (lv_sub hl [2, 3, 1, 0] rfl) hok
  · have hok := k_pos c8 hok
    refine lv_aload_n hx hb dX9_ruleAt_11 rfl (lv_at hl 0 rfl) ?_
    refine lv_iconst (v := 1) hx hb dX9_ruleAt_12 (by decide) ?_
    obtain ⟨⟨r13, vM_13⟩, hc13, hok⟩ := k_bind hok
    try dsimp only at hok
    refine kCi (wc := (wX9_no cy aM qM vM_1)) (wc2 := (wX9_no cy aM qM vM_13)) (wr := [(qM 15, rI cy 224 vM_r)]) (ws2 := (wX9_ruleAt cy aM qM vM_13 vM_r)) (kRunV (As := [.int 1]) (rest := []) ⟨hx, hb, hml, hown, ht0⟩ (kX9_no l D cy _ aM qM vM_1 (1 : Int32) r13 vM_13 hc13 _ rfl) (cwV 1 ht0 (gV wd862 wd863 wd864 wd744 wd865) rfl rfl rfl (by decide +kernel) ⟨Nat.le_of_ble_eq_true rfl, Nat.le_of_ble_eq_true rfl⟩) hK hN hP hD [0] rfl (by decide) 0 8 rfl rfl rfl hl.1 rfl (Nat.le_of_ble_eq_true rfl) dX9_ruleAt_13 ⟨Nat.zero_le _, Nat.zero_le _⟩) hP hD hS hA [0] [1] rfl rfl (by decide) (by decide) [1, 0] (by decide) rfl rfl (fun H locs hP hD hS => ?_)
    cases hok
    subst hQe; exact W.iret hx hb hr (fun t ht hW => ⟨⟨_, (), rfl, rfl, by rw [ht]; exact hP, va_K.moved hW.alike hK, hD⟩, hS.F ht⟩) hS.2.2 dX9_ruleAt_16
def wsX9_there : List Cond := .code yX9_there cX9_there 3 (some .int) :: W0
abbrev wX9_there (cy : Nat → ClassId) (aM : Nat) (qM : Nat → Nat) (vM : Nat → Int32) (vM_r : Nat → Int32) : va_W := [(aM, oX9 vM qM), (qM 15, rI cy 224 vM_r)]
set_option maxHeartbeats 4000000 in
set_option maxRecDepth 100000 in
theorem kX9_there (l : Launch) (D : va_G) (cy : Nat → ClassId) (sz : Nat) (aM : Nat) (qM : Nat → Nat) (vM : Nat → Int32) (vM_r : Nat → Int32) (x1 : Int32) (x2 : Int32) (zr : Int32) (z_vM : Nat → Int32) (hok : fX9_there vM vM_r x1 x2 = some (zr, z_vM)) (A : Nat → Prop) (hAe : va_A (wX9_there cy aM qM vM vM_r) sz = A) : Met l yX9_there wsX9_there ({ frames := 2, cells := 0, slots := 0, locals := 52 } : Room) (kPre D cy [.ref aM, .int x1, .int x2] (wX9_there cy aM qM vM vM_r) sz) (kQi D cy zr A (wX9_there cy aM qM z_vM vM_r)) 0 0 A := by
  refine Met.ofW (cc := cX9_there) (maxL := 3) (ret := (some .int)) (by decide) rfl ?_
  intro p e s m args below meth c s₁ B hml hv
  obtain ⟨rfl, hsz, hP, hK, hD0, hN⟩ := hv
  have hx := B.exec
  have hb := B.bytes
  have hr := B.returns
  have ht0 : ∀ w ∈ W0, w.before _ s = true := fun w h => atoms_spec (ws := wsX9_there) B.pre w (List.mem_cons_of_mem _ h)
  have hown : s.vm.findClass RX9 = some m.cls := findClass_of_methodNamed B.named
  have hlocks := B.notSynchronized
  subst hsz
  have hD : va_D A (wX9_there cy aM qM vM vM_r) := by rw [← hAe]; exact hD0.self
  have hA : ∀ q : Nat, s.heap.size ≤ q → A q := fun q h => by rw [← hAe]; exact Or.inr h
  have hS : va_S A s.heap s.heap [] := va_S.rf
  have hl := lv_entry ([.ref aM, .int x1, .int x2]) (n := 3) (Nat.le_of_ble_eq_true rfl)
  rw [lg_entry_eq]
  generalize (lg_sl ([.ref aM, .int x1, .int x2]) ++ List.replicate (3 - (lg_sl ([.ref aM, .int x1, .int x2])).length) Slot.unset).toArray = ls at hl ⊢
  have hl : lv_has ls 3 [(0, .ref aM), (1, .int x1), (2, .int x2)] := hl
  generalize hQe : MQ below (kQi D cy zr A (wX9_there cy aM qM z_vM vM_r)) ([.ref aM, .int x1, .int x2] : List Value).toArray s 0 0 A = Q
  have J52 : ∀ (t0_52 : Int32) (vM_52 : Nat → Int32), ∀ (H : Heap) (locs : List Loc) (ls : Array Slot), va_P D vwCl (wX9_there cy aM qM vM_52 vM_r) H → va_D A (wX9_there cy aM qM vM_52 vM_r) → va_S A s.heap H locs → lv_has ls 3 [] → fX9_there_J52 t0_52 vM_52 = some (zr, z_vM) → W p l e ({ frames := 2, cells := 0, slots := 0, locals := 52 } : Room) s m ([.ref aM, .int x1, .int x2] : List Value).toArray below meth c H locs 0 0 Q (F0 m 52 ls [.int t0_52]) := by
    intro t0_52 vM_52 H locs ls hP hD hS hl hok
    unfold fX9_there_J52 at hok
    cases hok
    subst hQe; exact W.iret hx hb hr (fun t ht hW => ⟨⟨_, (), rfl, rfl, by rw [ht]; exact hP, va_K.moved hW.alike hK, hD⟩, hS.F ht⟩) hS.2.2 dX9_there_52
  have J47 : ∀ (vM_47 : Nat → Int32), ∀ (H : Heap) (locs : List Loc) (ls : Array Slot), va_P D vwCl (wX9_there cy aM qM vM_47 vM_r) H → va_D A (wX9_there cy aM qM vM_47 vM_r) → va_S A s.heap H locs → lv_has ls 3 [(0, .ref aM)] → fX9_there_J47 vM_47 = some (zr, z_vM) → W p l e ({ frames := 2, cells := 0, slots := 0, locals := 52 } : Room) s m ([.ref aM, .int x1, .int x2] : List Value).toArray below meth c H locs 0 0 Q (F0 m 47 ls []) := by
    intro vM_47 H locs ls hP hD hS hl hok
    unfold fX9_there_J47 at hok
    refine lv_aload_n hx hb dX9_there_47 rfl (lv_at hl 0 rfl) ?_
    refine lv_iconst (v := 2) hx hb dX9_there_48 (by decide) ?_
    obtain ⟨⟨r49, vM_49⟩, hc49, hok⟩ := k_bind hok
    try dsimp only at hok
    refine kCi (wc := (wX9_no cy aM qM vM_47)) (wc2 := (wX9_no cy aM qM vM_49)) (wr := [(qM 15, rI cy 224 vM_r)]) (ws2 := (wX9_there cy aM qM vM_49 vM_r)) (kRunV (As := [.int 2]) (rest := []) ⟨hx, hb, hml, hown, ht0⟩ (kX9_no l D cy _ aM qM vM_47 (2 : Int32) r49 vM_49 hc49 _ rfl) (cwV 1 ht0 (gV wd862 wd863 wd864 wd744 wd865) rfl rfl rfl (by decide +kernel) ⟨Nat.le_of_ble_eq_true rfl, Nat.le_of_ble_eq_true rfl⟩) hK hN hP hD [0] rfl (by decide) 0 8 rfl rfl rfl hl.1 rfl (Nat.le_of_ble_eq_true rfl) dX9_there_49 ⟨Nat.zero_le _, Nat.zero_le _⟩) hP hD hS hA [0] [1] rfl rfl (by decide) (by decide) [1, 0] (by decide) rfl rfl (fun H locs hP hD hS => ?_)
    exact J52 r49 vM_49 H locs ls hP hD hS (lv_sub hl [] rfl) hok
  unfold fX9_there at hok
  obtain ⟨H, hH⟩ : ∃ H, H = s.heap := ⟨_, rfl⟩
  obtain ⟨locs, hlc⟩ : ∃ x : List Loc, x = [] := ⟨_, rfl⟩
  have hP : va_P D vwCl (wX9_there cy aM qM vM vM_r) H := by rw [hH]; exact hP
  have hS : va_S A s.heap H locs := by rw [hH, hlc]; exact hS
  rw [show W p l e _ s m _ below meth c s.heap [] = W p l e _ s m _ below meth c H locs from by rw [hH, hlc]]
  refine lv_aload_n hx hb dX9_there_0 rfl (lv_at hl 0 rfl) ?_
  obtain ⟨vM_1, hc1, hok⟩ := k_bind hok
  refine kCv (wc := (wX9_good cy aM qM vM)) (wc2 := (wX9_good cy aM qM vM_1)) (wr := [(qM 15, rI cy 224 vM_r)]) (ws2 := (wX9_there cy aM qM vM_1 vM_r)) (kRunV (As := []) (rest := []) ⟨hx, hb, hml, hown, ht0⟩ (kX9_good l D cy _ aM qM vM vM_1 hc1 _ rfl) (cwV 0 ht0 (gV wd870 wd871 wd872 wd744 wd873) rfl rfl rfl (by decide +kernel) ⟨Nat.le_of_ble_eq_true rfl, Nat.le_of_ble_eq_true rfl⟩) hK hN hP hD [0] rfl (by decide) 0 8 rfl rfl rfl hl.1 rfl (Nat.le_of_ble_eq_true rfl) dX9_there_1 ⟨Nat.zero_le _, Nat.zero_le _⟩) hP hD hS hA [0] [1] rfl rfl (by decide) (by decide) [1, 0] (by decide) rfl rfl (fun H locs hP hD hS => ?_)
  refine lv_aload_n hx hb dX9_there_4 rfl (lv_at hl 0 rfl) ?_
  refine va_get (D := D) (ci := 8) (v := .int (vM_1 14)) (C := RX9) (T := TX9) (N := 29) hx hb ht0 niX9 hown hK hP 0 rfl rfl 14 (by decide) (ht0 _ wd855) (fun _ h9 => h9) rfl dX9_there_5 ?_
  refine lv_if_ne (tgt := 17) hx hb dX9_there_8 (by decide) (fun c8 => ?_) (fun c8 => ?_)
  · have hok := k_neg c8 hok
    refine lv_iload_n hx hb dX9_there_17 rfl (lv_at hl 1 rfl) ?_
    refine lv_iconst (v := 0) hx hb dX9_there_18 (by decide) ?_
    refine lv_bipush (v := 99) hx hb dX9_there_19 (by decide) ?_
    obtain ⟨r21, hc21, hok⟩ := k_bind hok
    refine kCi (wc := (wX9_in cy )) (wc2 := (wX9_in cy )) (wr := [(aM, oX9 vM_1 qM), (qM 15, rI cy 224 vM_r)]) (ws2 := (wX9_there cy aM qM vM_1 vM_r)) (kRunS (As := [.int x1, .int 0, .int 99]) (rest := []) ⟨hx, hb, hml, hown, ht0⟩ (kX9_in l D cy _ x1 (0 : Int32) (99 : Int32) r21 hc21 _ rfl) (va_cwS 3 ht0 (gS wd787 wd788 wd744 wd789) rfl rfl rfl (by decide +kernel) ⟨Nat.le_of_ble_eq_true rfl, Nat.le_of_ble_eq_true rfl⟩) hK hN hP hD [] rfl (by decide) rfl hl.1 rfl (Nat.le_of_ble_eq_true rfl) dX9_there_21 ⟨Nat.zero_le _, Nat.zero_le _⟩) hP hD hS hA [] [0, 1] rfl rfl (by decide) (by decide) [0, 1] (by decide) rfl rfl (fun H locs hP hD hS => ?_)
    refine lv_if_eq (tgt := 47) hx hb dX9_there_24 (by decide) (fun c24 => ?_) (fun c24 => ?_)
    · have hok := k_pos c24 hok
      exact J47 vM_1 H locs ls hP hD hS (lv_sub hl [0] rfl) hok
    · have hok := k_neg c24 hok
      refine lv_iload_n hx hb dX9_there_27 rfl (lv_at hl 2 rfl) ?_
      refine lv_iconst (v := 0) hx hb dX9_there_28 (by decide) ?_
      refine lv_bipush (v := 11) hx hb dX9_there_29 (by decide) ?_
      obtain ⟨r31, hc31, hok⟩ := k_bind hok
      refine kCi (wc := (wX9_in cy )) (wc2 := (wX9_in cy )) (wr := [(aM, oX9 vM_1 qM), (qM 15, rI cy 224 vM_r)]) (ws2 := (wX9_there cy aM qM vM_1 vM_r)) (kRunS (As := [.int x2, .int 0, .int 11]) (rest := []) ⟨hx, hb, hml, hown, ht0⟩ (kX9_in l D cy _ x2 (0 : Int32) (11 : Int32) r31 hc31 _ rfl) (va_cwS 3 ht0 (gS wd787 wd788 wd744 wd789) rfl rfl rfl (by decide +kernel) ⟨Nat.le_of_ble_eq_true rfl, Nat.le_of_ble_eq_true rfl⟩) hK hN hP hD [] rfl (by decide) rfl hl.1 rfl (Nat.le_of_ble_eq_true rfl) dX9_there_31 ⟨Nat.zero_le _, Nat.zero_le _⟩) hP hD hS hA [] [0, 1] rfl rfl (by decide) (by decide) [0, 1] (by decide) rfl rfl (fun H locs hP hD hS => ?_)
      refine lv_if_eq (tgt := 47) hx hb dX9_there_34 (by decide) (fun c34 => ?_) (fun c34 => ?_)
      · have hok := k_pos c34 hok
        exact J47 vM_1 H locs ls hP hD hS (lv_sub hl [0] rfl) hok
      · have hok := k_neg c34 hok
        refine lv_aload_n hx hb dX9_there_37 rfl (lv_at hl 0 rfl) ?_
        refine lv_iconst (v := 0) hx hb dX9_there_38 (by decide) ?_
        refine lv_iload_n hx hb dX9_there_39 rfl (lv_at hl 1 rfl) ?_
        refine lv_iload_n hx hb dX9_there_40 rfl (lv_at hl 2 rfl) ?_
        obtain ⟨r41, hc41, hok⟩ := k_bind hok
        refine kCi (wc := (wX9_rulesBy cy aM qM vM_1 vM_r)) (wc2 := (wX9_rulesBy cy aM qM vM_1 vM_r)) (wr := []) (ws2 := (wX9_there cy aM qM vM_1 vM_r)) (kRunV (As := [.int 0, .int x1, .int x2]) (rest := []) ⟨hx, hb, hml, hown, ht0⟩ (kX9_rulesBy l D cy _ aM qM vM_1 vM_r (0 : Int32) x1 x2 r41 hc41 _ rfl) (cwV 3 ht0 (gV wd990 wd991 wd992 wd744 wd993) rfl rfl rfl (by decide +kernel) ⟨Nat.le_of_ble_eq_true rfl, Nat.le_of_ble_eq_true rfl⟩) hK hN hP hD [0, 1] rfl (by decide) 0 8 rfl rfl rfl hl.1 rfl (Nat.le_of_ble_eq_true rfl) dX9_there_41 ⟨Nat.zero_le _, Nat.zero_le _⟩) hP hD hS hA [0, 1] [] rfl rfl (by decide) (by decide) [0, 1] (by decide) rfl rfl (fun H locs hP hD hS => ?_)
        refine lv_goto (tgt := 52) hx hb dX9_there_44 (by decide) ?_
        exact J52 r41 vM_1 H locs ls hP hD hS (lv_sub hl [] rfl) hok
  · have hok := k_pos c8 hok
    refine lv_aload_n hx hb dX9_there_11 rfl (lv_at hl 0 rfl) ?_
    refine lv_iconst (v := 1) hx hb dX9_there_12 (by decide) ?_
    obtain ⟨⟨r13, vM_13⟩, hc13, hok⟩ := k_bind hok
    try dsimp only at hok
    refine kCi (wc := (wX9_no cy aM qM vM_1)) (wc2 := (wX9_no cy aM qM vM_13)) (wr := [(qM 15, rI cy 224 vM_r)]) (ws2 := (wX9_there cy aM qM vM_13 vM_r)) (kRunV (As := [.int 1]) (rest := []) ⟨hx, hb, hml, hown, ht0⟩ (kX9_no l D cy _ aM qM vM_1 (1 : Int32) r13 vM_13 hc13 _ rfl) (cwV 1 ht0 (gV wd862 wd863 wd864 wd744 wd865) rfl rfl rfl (by decide +kernel) ⟨Nat.le_of_ble_eq_true rfl, Nat.le_of_ble_eq_true rfl⟩) hK hN hP hD [0] rfl (by decide) 0 8 rfl rfl rfl hl.1 rfl (Nat.le_of_ble_eq_true rfl) dX9_there_13 ⟨Nat.zero_le _, Nat.zero_le _⟩) hP hD hS hA [0] [1] rfl rfl (by decide) (by decide) [1, 0] (by decide) rfl rfl (fun H locs hP hD hS => ?_)
    cases hok
    subst hQe; exact W.iret hx hb hr (fun t ht hW => ⟨⟨_, (), rfl, rfl, by rw [ht]; exact hP, va_K.moved hW.alike hK, hD⟩, hS.F ht⟩) hS.2.2 dX9_there_16
def wsX9_surely : List Cond := .code yX9_surely cX9_surely 4 (some .int) :: W0
abbrev wX9_surely (cy : Nat → ClassId) (aM : Nat) (qM : Nat → Nat) (vM : Nat → Int32) (vM_r : Nat → Int32) : va_W := [(aM, oX9 vM qM), (qM 15, rI cy 224 vM_r)]
set_option maxHeartbeats 4000000 in
set_option maxRecDepth 100000 in
theorem kX9_surely (l : Launch) (D : va_G) (cy : Nat → ClassId) (sz : Nat) (aM : Nat) (qM : Nat → Nat) (vM : Nat → Int32) (vM_r : Nat → Int32) (x1 : Int32) (zr : Int32) (z_vM : Nat → Int32) (hok : fX9_surely vM vM_r x1 = some (zr, z_vM)) (A : Nat → Prop) (hAe : va_A (wX9_surely cy aM qM vM vM_r) sz = A) : Met l yX9_surely wsX9_surely ({ frames := 2, cells := 0, slots := 0, locals := 52 } : Room) (kPre D cy [.ref aM, .int x1] (wX9_surely cy aM qM vM vM_r) sz) (kQi D cy zr A (wX9_surely cy aM qM z_vM vM_r)) 0 0 A := by
  refine Met.ofW (cc := cX9_surely) (maxL := 4) (ret := (some .int)) (by decide) rfl ?_
  intro p e s m args below meth c s₁ B hml hv
  obtain ⟨rfl, hsz, hP, hK, hD0, hN⟩ := hv
  have hx := B.exec
  have hb := B.bytes
  have hr := B.returns
  have ht0 : ∀ w ∈ W0, w.before _ s = true := fun w h => atoms_spec (ws := wsX9_surely) B.pre w (List.mem_cons_of_mem _ h)
  have hown : s.vm.findClass RX9 = some m.cls := findClass_of_methodNamed B.named
  have hlocks := B.notSynchronized
  subst hsz
  have hD : va_D A (wX9_surely cy aM qM vM vM_r) := by rw [← hAe]; exact hD0.self
  have hA : ∀ q : Nat, s.heap.size ≤ q → A q := fun q h => by rw [← hAe]; exact Or.inr h
  have hS : va_S A s.heap s.heap [] := va_S.rf
  have hl := lv_entry ([.ref aM, .int x1]) (n := 4) (Nat.le_of_ble_eq_true rfl)
  rw [lg_entry_eq]
  generalize (lg_sl ([.ref aM, .int x1]) ++ List.replicate (4 - (lg_sl ([.ref aM, .int x1])).length) Slot.unset).toArray = ls at hl ⊢
  have hl : lv_has ls 4 [(0, .ref aM), (1, .int x1)] := hl
  generalize hQe : MQ below (kQi D cy zr A (wX9_surely cy aM qM z_vM vM_r)) ([.ref aM, .int x1] : List Value).toArray s 0 0 A = Q
  have L43 : ∀ (fuel : Nat) (y2_43 : Int32) (y3_43 : Int32) (vM_43 : Nat → Int32), ∀ (H : Heap) (locs : List Loc) (ls : Array Slot), va_P D vwCl (wX9_surely cy aM qM vM_43 vM_r) H → va_D A (wX9_surely cy aM qM vM_43 vM_r) → va_S A s.heap H locs → lv_has ls 4 [(0, .ref aM), (2, .int y2_43), (3, .int y3_43)] → lp (fX9_surely_B43 vM_r) fuel (y2_43, y3_43, vM_43) = some (zr, z_vM) → W p l e ({ frames := 2, cells := 0, slots := 0, locals := 52 } : Room) s m ([.ref aM, .int x1] : List Value).toArray below meth c H locs 0 0 Q (F0 m 43 ls []) := by
    intro fuel
    induction fuel with
    | zero => intro y2_43 y3_43 vM_43 H locs ls hP hD hS hl hok; exact (lp_0 hok).elim
    | succ fuel ih43 =>
      intro y2_43 y3_43 vM_43 H locs ls hP hD hS hl hok
      obtain ⟨y43, hok, hL43, hR43⟩ := lp_step hok
      have J66 : ∀ (H : Heap) (locs : List Loc) (ls : Array Slot), va_P D vwCl (wX9_surely cy aM qM vM_43 vM_r) H → va_D A (wX9_surely cy aM qM vM_43 vM_r) → va_S A s.heap H locs → lv_has ls 4 [(0, .ref aM), (2, .int y2_43), (3, .int y3_43)] → fX9_surely_J66 y2_43 y3_43 vM_43 = some y43 → W p l e ({ frames := 2, cells := 0, slots := 0, locals := 52 } : Room) s m ([.ref aM, .int x1] : List Value).toArray below meth c H locs 0 0 Q (F0 m 66 ls []) := by
        intro  H locs ls hP hD hS hl hok
        unfold fX9_surely_J66 at hok
        refine lv_iinc (v := (y3_43 + 1)) (lv' := [(3, .int (y3_43 + 1)), (0, .ref aM), (2, .int y2_43)]) hx hb dX9_surely_66 hl (k := 2) rfl (by first | rfl | decide) (by decide) rfl (fun ls hl => ?_)
        refine lv_goto (tgt := 43) hx hb dX9_surely_69 (by decide) ?_
        exact ih43 y2_43 (y3_43 + 1) vM_43 H locs ls hP hD hS (lv_sub hl [1, 2, 0] rfl) (hR43 _ (Option.some.inj hok).symm)
      unfold fX9_surely_B43 at hok
      try dsimp only at hok
      refine lv_iload_n hx hb dX9_surely_43 rfl (lv_at hl 2 rfl) ?_
      refine lv_bipush (v := 100) hx hb dX9_surely_44 (by decide) ?_
      refine lv_icmp_ge (tgt := 72) hx hb dX9_surely_46 (by decide) (fun c46 => ?_) (fun c46 => ?_)
      · have hok := k_pos c46 hok
        obtain ⟨e43, hok, he43⟩ := ex_some hok
        have hok := hok.trans (congrArg some (hL43 _ he43))
        refine lv_bipush (v := -2) hx hb dX9_surely_72 (by decide) ?_
        cases hok
        subst hQe; exact W.iret hx hb hr (fun t ht hW => ⟨⟨_, (), rfl, rfl, by rw [ht]; exact hP, va_K.moved hW.alike hK, hD⟩, hS.F ht⟩) hS.2.2 dX9_surely_74
      · have hok := k_neg c46 hok
        refine lv_iload_n hx hb dX9_surely_49 rfl (lv_at hl 1 rfl) ?_
        refine lv_if_le (tgt := 66) hx hb dX9_surely_50 (by decide) (fun c50 => ?_) (fun c50 => ?_)
        · have hok := k_pos c50 hok
          exact J66  H locs ls hP hD hS (lv_sub hl [0, 1, 2] rfl) hok
        · have hok := k_neg c50 hok
          refine lv_aload_n hx hb dX9_surely_53 rfl (lv_at hl 0 rfl) ?_
          refine lv_iconst (v := 0) hx hb dX9_surely_54 (by decide) ?_
          refine lv_iload_n hx hb dX9_surely_55 rfl (lv_at hl 2 rfl) ?_
          refine lv_iconst (v := 0) hx hb dX9_surely_56 (by decide) ?_
          obtain ⟨r57, hc57, hok⟩ := k_bind hok
          refine kCi (wc := (wX9_rulesBy cy aM qM vM_43 vM_r)) (wc2 := (wX9_rulesBy cy aM qM vM_43 vM_r)) (wr := []) (ws2 := (wX9_surely cy aM qM vM_43 vM_r)) (kRunV (As := [.int 0, .int y3_43, .int 0]) (rest := []) ⟨hx, hb, hml, hown, ht0⟩ (kX9_rulesBy l D cy _ aM qM vM_43 vM_r (0 : Int32) y3_43 (0 : Int32) r57 hc57 _ rfl) (cwV 3 ht0 (gV wd990 wd991 wd992 wd744 wd993) rfl rfl rfl (by decide +kernel) ⟨Nat.le_of_ble_eq_true rfl, Nat.le_of_ble_eq_true rfl⟩) hK hN hP hD [0, 1] rfl (by decide) 0 8 rfl rfl rfl hl.1 rfl (Nat.le_of_ble_eq_true rfl) dX9_surely_57 ⟨Nat.zero_le _, Nat.zero_le _⟩) hP hD hS hA [0, 1] [] rfl rfl (by decide) (by decide) [0, 1] (by decide) rfl rfl (fun H locs hP hD hS => ?_)
          refine lv_iload_n hx hb dX9_surely_60 rfl (lv_at hl 1 rfl) ?_
          refine lv_icmp_ne (tgt := 66) hx hb dX9_surely_61 (by decide) (fun c61 => ?_) (fun c61 => ?_)
          · have hok := k_neg c61 hok
            exact J66  H locs ls hP hD hS (lv_sub hl [0, 1, 2] rfl) hok
          · have hok := k_pos c61 hok
            obtain ⟨e43, hok, he43⟩ := ex_some hok
            have hok := hok.trans (congrArg some (hL43 _ he43))
            refine lv_iload_n hx hb dX9_surely_64 rfl (lv_at hl 2 rfl) ?_
            cases hok
            subst hQe; exact W.iret hx hb hr (fun t ht hW => ⟨⟨_, (), rfl, rfl, by rw [ht]; exact hP, va_K.moved hW.alike hK, hD⟩, hS.F ht⟩) hS.2.2 dX9_surely_65
  unfold fX9_surely at hok
  obtain ⟨H, hH⟩ : ∃ H, H = s.heap := ⟨_, rfl⟩
  obtain ⟨locs, hlc⟩ : ∃ x : List Loc, x = [] := ⟨_, rfl⟩
  have hP : va_P D vwCl (wX9_surely cy aM qM vM vM_r) H := by rw [hH]; exact hP
  have hS : va_S A s.heap H locs := by rw [hH, hlc]; exact hS
  rw [show W p l e _ s m _ below meth c s.heap [] = W p l e _ s m _ below meth c H locs from by rw [hH, hlc]]
  refine lv_aload_n hx hb dX9_surely_0 rfl (lv_at hl 0 rfl) ?_
  obtain ⟨vM_1, hc1, hok⟩ := k_bind hok
  refine kCv (wc := (wX9_good cy aM qM vM)) (wc2 := (wX9_good cy aM qM vM_1)) (wr := [(qM 15, rI cy 224 vM_r)]) (ws2 := (wX9_surely cy aM qM vM_1 vM_r)) (kRunV (As := []) (rest := []) ⟨hx, hb, hml, hown, ht0⟩ (kX9_good l D cy _ aM qM vM vM_1 hc1 _ rfl) (cwV 0 ht0 (gV wd870 wd871 wd872 wd744 wd873) rfl rfl rfl (by decide +kernel) ⟨Nat.le_of_ble_eq_true rfl, Nat.le_of_ble_eq_true rfl⟩) hK hN hP hD [0] rfl (by decide) 0 8 rfl rfl rfl hl.1 rfl (Nat.le_of_ble_eq_true rfl) dX9_surely_1 ⟨Nat.zero_le _, Nat.zero_le _⟩) hP hD hS hA [0] [1] rfl rfl (by decide) (by decide) [1, 0] (by decide) rfl rfl (fun H locs hP hD hS => ?_)
  refine lv_aload_n hx hb dX9_surely_4 rfl (lv_at hl 0 rfl) ?_
  refine va_get (D := D) (ci := 8) (v := .int (vM_1 14)) (C := RX9) (T := TX9) (N := 29) hx hb ht0 niX9 hown hK hP 0 rfl rfl 14 (by decide) (ht0 _ wd855) (fun _ h9 => h9) rfl dX9_surely_5 ?_
  refine lv_if_ne (tgt := 17) hx hb dX9_surely_8 (by decide) (fun c8 => ?_) (fun c8 => ?_)
  · have hok := k_neg c8 hok
    refine lv_iload_n hx hb dX9_surely_17 rfl (lv_at hl 1 rfl) ?_
    refine lv_iconst (v := 0) hx hb dX9_surely_18 (by decide) ?_
    refine lv_bipush (v := 99) hx hb dX9_surely_19 (by decide) ?_
    obtain ⟨r21, hc21, hok⟩ := k_bind hok
    refine kCi (wc := (wX9_in cy )) (wc2 := (wX9_in cy )) (wr := [(aM, oX9 vM_1 qM), (qM 15, rI cy 224 vM_r)]) (ws2 := (wX9_surely cy aM qM vM_1 vM_r)) (kRunS (As := [.int x1, .int 0, .int 99]) (rest := []) ⟨hx, hb, hml, hown, ht0⟩ (kX9_in l D cy _ x1 (0 : Int32) (99 : Int32) r21 hc21 _ rfl) (va_cwS 3 ht0 (gS wd787 wd788 wd744 wd789) rfl rfl rfl (by decide +kernel) ⟨Nat.le_of_ble_eq_true rfl, Nat.le_of_ble_eq_true rfl⟩) hK hN hP hD [] rfl (by decide) rfl hl.1 rfl (Nat.le_of_ble_eq_true rfl) dX9_surely_21 ⟨Nat.zero_le _, Nat.zero_le _⟩) hP hD hS hA [] [0, 1] rfl rfl (by decide) (by decide) [0, 1] (by decide) rfl rfl (fun H locs hP hD hS => ?_)
    refine lv_if_ne (tgt := 33) hx hb dX9_surely_24 (by decide) (fun c24 => ?_) (fun c24 => ?_)
    · have hok := k_neg c24 hok
      refine lv_aload_n hx hb dX9_surely_33 rfl (lv_at hl 0 rfl) ?_
      refine lv_iconst (v := 1) hx hb dX9_surely_34 (by decide) ?_
      refine lv_iconst (v := 0) hx hb dX9_surely_35 (by decide) ?_
      refine lv_iconst (v := 0) hx hb dX9_surely_36 (by decide) ?_
      obtain ⟨r37, hc37, hok⟩ := k_bind hok
      refine kCi (wc := (wX9_rulesBy cy aM qM vM_1 vM_r)) (wc2 := (wX9_rulesBy cy aM qM vM_1 vM_r)) (wr := []) (ws2 := (wX9_surely cy aM qM vM_1 vM_r)) (kRunV (As := [.int 1, .int 0, .int 0]) (rest := []) ⟨hx, hb, hml, hown, ht0⟩ (kX9_rulesBy l D cy _ aM qM vM_1 vM_r (1 : Int32) (0 : Int32) (0 : Int32) r37 hc37 _ rfl) (cwV 3 ht0 (gV wd990 wd991 wd992 wd744 wd993) rfl rfl rfl (by decide +kernel) ⟨Nat.le_of_ble_eq_true rfl, Nat.le_of_ble_eq_true rfl⟩) hK hN hP hD [0, 1] rfl (by decide) 0 8 rfl rfl rfl hl.1 rfl (Nat.le_of_ble_eq_true rfl) dX9_surely_37 ⟨Nat.zero_le _, Nat.zero_le _⟩) hP hD hS hA [0, 1] [] rfl rfl (by decide) (by decide) [0, 1] (by decide) rfl rfl (fun H locs hP hD hS => ?_)
      refine lv_istore_n (lv' := [(2, .int r37), (0, .ref aM), (1, .int x1)]) hx hb dX9_surely_40 rfl hl (by decide) rfl (fun ls hl => ?_)
      refine lv_iload_n hx hb dX9_surely_41 rfl (lv_at hl 2 rfl) ?_
      refine lv_istore_n (lv' := [(3, .int x1), (2, .int r37), (0, .ref aM), (1, .int x1)]) hx hb dX9_surely_42 rfl hl (by decide) rfl (fun ls hl => ?_)
      exact L43 5000 r37 x1 vM_1 H locs ls hP hD hS (lv_sub hl [2, 1, 0] rfl) hok
    · have hok := k_pos c24 hok
      refine lv_aload_n hx hb dX9_surely_27 rfl (lv_at hl 0 rfl) ?_
      refine lv_iconst (v := 2) hx hb dX9_surely_28 (by decide) ?_
      obtain ⟨⟨r29, vM_29⟩, hc29, hok⟩ := k_bind hok
      try dsimp only at hok
      refine kCi (wc := (wX9_no cy aM qM vM_1)) (wc2 := (wX9_no cy aM qM vM_29)) (wr := [(qM 15, rI cy 224 vM_r)]) (ws2 := (wX9_surely cy aM qM vM_29 vM_r)) (kRunV (As := [.int 2]) (rest := []) ⟨hx, hb, hml, hown, ht0⟩ (kX9_no l D cy _ aM qM vM_1 (2 : Int32) r29 vM_29 hc29 _ rfl) (cwV 1 ht0 (gV wd862 wd863 wd864 wd744 wd865) rfl rfl rfl (by decide +kernel) ⟨Nat.le_of_ble_eq_true rfl, Nat.le_of_ble_eq_true rfl⟩) hK hN hP hD [0] rfl (by decide) 0 8 rfl rfl rfl hl.1 rfl (Nat.le_of_ble_eq_true rfl) dX9_surely_29 ⟨Nat.zero_le _, Nat.zero_le _⟩) hP hD hS hA [0] [1] rfl rfl (by decide) (by decide) [1, 0] (by decide) rfl rfl (fun H locs hP hD hS => ?_)
      cases hok
      subst hQe; exact W.iret hx hb hr (fun t ht hW => ⟨⟨_, (), rfl, rfl, by rw [ht]; exact hP, va_K.moved hW.alike hK, hD⟩, hS.F ht⟩) hS.2.2 dX9_surely_32
  · have hok := k_pos c8 hok
    refine lv_aload_n hx hb dX9_surely_11 rfl (lv_at hl 0 rfl) ?_
    refine lv_iconst (v := 1) hx hb dX9_surely_12 (by decide) ?_
    obtain ⟨⟨r13, vM_13⟩, hc13, hok⟩ := k_bind hok
    try dsimp only at hok
    refine kCi (wc := (wX9_no cy aM qM vM_1)) (wc2 := (wX9_no cy aM qM vM_13)) (wr := [(qM 15, rI cy 224 vM_r)]) (ws2 := (wX9_surely cy aM qM vM_13 vM_r)) (kRunV (As := [.int 1]) (rest := []) ⟨hx, hb, hml, hown, ht0⟩ (kX9_no l D cy _ aM qM vM_1 (1 : Int32) r13 vM_13 hc13 _ rfl) (cwV 1 ht0 (gV wd862 wd863 wd864 wd744 wd865) rfl rfl rfl (by decide +kernel) ⟨Nat.le_of_ble_eq_true rfl, Nat.le_of_ble_eq_true rfl⟩) hK hN hP hD [0] rfl (by decide) 0 8 rfl rfl rfl hl.1 rfl (Nat.le_of_ble_eq_true rfl) dX9_surely_13 ⟨Nat.zero_le _, Nat.zero_le _⟩) hP hD hS hA [0] [1] rfl rfl (by decide) (by decide) [1, 0] (by decide) rfl rfl (fun H locs hP hD hS => ?_)
    cases hok
    subst hQe; exact W.iret hx hb hr (fun t ht hW => ⟨⟨_, (), rfl, rfl, by rw [ht]; exact hP, va_K.moved hW.alike hK, hD⟩, hS.F ht⟩) hS.2.2 dX9_surely_16
def wsX9_lookOf : List Cond := .code yX9_lookOf cX9_lookOf 6 (some .int) :: W0
abbrev wX9_lookOf (cy : Nat → ClassId) (aM : Nat) (qM : Nat → Nat) (vM : Nat → Int32) (vM_counts : Nat → Int32) (vM_r : Nat → Int32) : va_W := [(aM, oX9 vM qM), (qM 24, rI cy 1200 vM_counts), (qM 15, rI cy 224 vM_r)]
set_option maxHeartbeats 4000000 in
set_option maxRecDepth 100000 in
theorem kX9_lookOf (l : Launch) (D : va_G) (cy : Nat → ClassId) (sz : Nat) (aM : Nat) (qM : Nat → Nat) (vM : Nat → Int32) (vM_counts : Nat → Int32) (vM_r : Nat → Int32) (zr : Int32) (z_vM : Nat → Int32) (z_vM_counts : Nat → Int32) (hok : fX9_lookOf vM vM_counts vM_r = some (zr, z_vM, z_vM_counts)) (A : Nat → Prop) (hAe : va_A (wX9_lookOf cy aM qM vM vM_counts vM_r) sz = A) : Met l yX9_lookOf wsX9_lookOf ({ frames := 1, cells := 0, slots := 0, locals := 25 } : Room) (kPre D cy [.ref aM] (wX9_lookOf cy aM qM vM vM_counts vM_r) sz) (kQi D cy zr A (wX9_lookOf cy aM qM z_vM z_vM_counts vM_r)) 0 0 A := by
  refine Met.ofW (cc := cX9_lookOf) (maxL := 6) (ret := (some .int)) (by decide) rfl ?_
  intro p e s m args below meth c s₁ B hml hv
  obtain ⟨rfl, hsz, hP, hK, hD0, hN⟩ := hv
  have hx := B.exec
  have hb := B.bytes
  have hr := B.returns
  have ht0 : ∀ w ∈ W0, w.before _ s = true := fun w h => atoms_spec (ws := wsX9_lookOf) B.pre w (List.mem_cons_of_mem _ h)
  have hown : s.vm.findClass RX9 = some m.cls := findClass_of_methodNamed B.named
  have hlocks := B.notSynchronized
  subst hsz
  have hD : va_D A (wX9_lookOf cy aM qM vM vM_counts vM_r) := by rw [← hAe]; exact hD0.self
  have hA : ∀ q : Nat, s.heap.size ≤ q → A q := fun q h => by rw [← hAe]; exact Or.inr h
  have hS : va_S A s.heap s.heap [] := va_S.rf
  have hl := lv_entry ([.ref aM]) (n := 6) (Nat.le_of_ble_eq_true rfl)
  rw [lg_entry_eq]
  generalize (lg_sl ([.ref aM]) ++ List.replicate (6 - (lg_sl ([.ref aM])).length) Slot.unset).toArray = ls at hl ⊢
  have hl : lv_has ls 6 [(0, .ref aM)] := hl
  generalize hQe : MQ below (kQi D cy zr A (wX9_lookOf cy aM qM z_vM z_vM_counts vM_r)) ([.ref aM] : List Value).toArray s 0 0 A = Q
  have J222 : ∀ (y2_222 : Int32) (vM_counts_222 : Nat → Int32) (vM_222 : Nat → Int32), ∀ (H : Heap) (locs : List Loc) (ls : Array Slot), va_P D vwCl (wX9_lookOf cy aM qM vM_222 vM_counts_222 vM_r) H → va_D A (wX9_lookOf cy aM qM vM_222 vM_counts_222 vM_r) → va_S A s.heap H locs → lv_has ls 6 [(2, .int y2_222)] → fX9_lookOf_J222 y2_222 vM_counts_222 vM_222 = some (zr, z_vM, z_vM_counts) → W p l e ({ frames := 1, cells := 0, slots := 0, locals := 25 } : Room) s m ([.ref aM] : List Value).toArray below meth c H locs 0 0 Q (F0 m 222 ls []) := by
    intro y2_222 vM_counts_222 vM_222 H locs ls hP hD hS hl hok
    unfold fX9_lookOf_J222 at hok
    refine lv_iload_n hx hb dX9_lookOf_222 rfl (lv_at hl 0 rfl) ?_
    cases hok
    subst hQe; exact W.iret hx hb hr (fun t ht hW => ⟨⟨_, (), rfl, rfl, by rw [ht]; exact hP, va_K.moved hW.alike hK, hD⟩, hS.F ht⟩) hS.2.2 dX9_lookOf_223
  have L134 : ∀ (fuel : Nat) (y1_134 : Int32) (y2_134 : Int32) (y3_134 : Int32) (vM_counts_134 : Nat → Int32) (vM_134 : Nat → Int32), ∀ (H : Heap) (locs : List Loc) (ls : Array Slot), va_P D vwCl (wX9_lookOf cy aM qM vM_134 vM_counts_134 vM_r) H → va_D A (wX9_lookOf cy aM qM vM_134 vM_counts_134 vM_r) → va_S A s.heap H locs → lv_has ls 6 [(0, .ref aM), (1, .int y1_134), (2, .int y2_134), (3, .int y3_134)] → lp (fX9_lookOf_B134) fuel (y1_134, y2_134, y3_134, vM_counts_134, vM_134) = some (zr, z_vM, z_vM_counts) → W p l e ({ frames := 1, cells := 0, slots := 0, locals := 25 } : Room) s m ([.ref aM] : List Value).toArray below meth c H locs 0 0 Q (F0 m 134 ls []) := by
    intro fuel
    induction fuel with
    | zero => intro y1_134 y2_134 y3_134 vM_counts_134 vM_134 H locs ls hP hD hS hl hok; exact (lp_0 hok).elim
    | succ fuel ih134 =>
      intro y1_134 y2_134 y3_134 vM_counts_134 vM_134 H locs ls hP hD hS hl hok
      obtain ⟨y134, hok, hL134, hR134⟩ := lp_step hok
      have J216 : ∀ (y2_216 : Int32) (vM_216 : Nat → Int32), ∀ (H : Heap) (locs : List Loc) (ls : Array Slot), va_P D vwCl (wX9_lookOf cy aM qM vM_216 vM_counts_134 vM_r) H → va_D A (wX9_lookOf cy aM qM vM_216 vM_counts_134 vM_r) → va_S A s.heap H locs → lv_has ls 6 [(0, .ref aM), (1, .int y1_134), (2, .int y2_216), (3, .int y3_134)] → fX9_lookOf_J216 y1_134 y3_134 vM_counts_134 y2_216 vM_216 = some y134 → W p l e ({ frames := 1, cells := 0, slots := 0, locals := 25 } : Room) s m ([.ref aM] : List Value).toArray below meth c H locs 0 0 Q (F0 m 216 ls []) := by
        intro y2_216 vM_216 H locs ls hP hD hS hl hok
        unfold fX9_lookOf_J216 at hok
        refine lv_iinc (v := (y3_134 + 1)) (lv' := [(3, .int (y3_134 + 1)), (0, .ref aM), (1, .int y1_134), (2, .int y2_216)]) hx hb dX9_lookOf_216 hl (k := 3) rfl (by first | rfl | decide) (by decide) rfl (fun ls hl => ?_)
        refine lv_goto (tgt := 134) hx hb dX9_lookOf_219 (by decide) ?_
        exact ih134 y1_134 y2_216 (y3_134 + 1) vM_counts_134 vM_216 H locs ls hP hD hS (lv_sub hl [1, 2, 3, 0] rfl) (hR134 _ (Option.some.inj hok).symm)
      have J197 : ∀ (y4_197 : Int32), ∀ (H : Heap) (locs : List Loc) (ls : Array Slot), va_P D vwCl (wX9_lookOf cy aM qM vM_134 vM_counts_134 vM_r) H → va_D A (wX9_lookOf cy aM qM vM_134 vM_counts_134 vM_r) → va_S A s.heap H locs → lv_has ls 6 [(0, .ref aM), (1, .int y1_134), (3, .int y3_134), (4, .int y4_197)] → fX9_lookOf_J197 y1_134 y3_134 vM_counts_134 vM_134 y4_197 = some y134 → W p l e ({ frames := 1, cells := 0, slots := 0, locals := 25 } : Room) s m ([.ref aM] : List Value).toArray below meth c H locs 0 0 Q (F0 m 197 ls []) := by
        intro y4_197 H locs ls hP hD hS hl hok
        unfold fX9_lookOf_J197 at hok
        refine lv_bipush (v := 100) hx hb dX9_lookOf_197 (by decide) ?_
        refine lv_iload_n hx hb dX9_lookOf_199 rfl (lv_at hl 2 rfl) ?_
        refine lv_bipush (v := 12) hx hb dX9_lookOf_200 (by decide) ?_
        refine lv_idiv hx hb dX9_lookOf_202 (by decide) ?_
        refine lv_imul hx hb dX9_lookOf_203 ?_
        refine lv_iload_n hx hb dX9_lookOf_204 rfl (lv_at hl 2 rfl) ?_
        refine lv_bipush (v := 12) hx hb dX9_lookOf_205 (by decide) ?_
        refine lv_irem hx hb dX9_lookOf_207 (by decide) ?_
        refine lv_iadd hx hb dX9_lookOf_208 ?_
        refine lv_istore_n (lv' := [(2, .int (((100 : Int32) * (y3_134 / (12 : Int32))) + (irm y3_134 (12 : Int32)))), (0, .ref aM), (1, .int y1_134), (3, .int y3_134), (4, .int y4_197)]) hx hb dX9_lookOf_209 rfl hl (by decide) rfl (fun ls hl => ?_)
        refine lv_aload_n hx hb dX9_lookOf_210 rfl (lv_at hl 1 rfl) ?_
        refine lv_iload hx hb dX9_lookOf_211 (lv_at hl 4 rfl) ?_
        refine va_put (D := D) (ci := 8) (v := .int y4_197) (ty := .int) (C := RX9) (T := TX9) (N := 29) hx hb ht0 niX9 tyX9 tyX9_ok nmX9 hown hK hP hD hS 0 rfl rfl 25 (by decide) (ht0 _ wd994) (fun _ h9 => h9) rfl (by decide +kernel) rfl rfl (Nat.le_of_ble_eq_true rfl) dX9_lookOf_213 (fun H locs hP hD hS => ?_)
        have hP : va_P D vwCl (wX9_lookOf cy aM qM (upd vM_134 25 y4_197) vM_counts_134 vM_r) H := hP
        have hD : va_D A (wX9_lookOf cy aM qM (upd vM_134 25 y4_197) vM_counts_134 vM_r) := hD
        exact J216 (((100 : Int32) * (y3_134 / (12 : Int32))) + (irm y3_134 (12 : Int32))) (upd vM_134 25 y4_197) H locs ls hP hD hS (lv_sub hl [1, 2, 0, 3] rfl) hok
      have J179 : ∀ (t0_179 : Int32), ∀ (H : Heap) (locs : List Loc) (ls : Array Slot), va_P D vwCl (wX9_lookOf cy aM qM vM_134 vM_counts_134 vM_r) H → va_D A (wX9_lookOf cy aM qM vM_134 vM_counts_134 vM_r) → va_S A s.heap H locs → lv_has ls 6 [(0, .ref aM), (1, .int y1_134), (2, .int y2_134), (3, .int y3_134)] → fX9_lookOf_J179 y1_134 y2_134 y3_134 vM_counts_134 vM_134 t0_179 = some y134 → W p l e ({ frames := 1, cells := 0, slots := 0, locals := 25 } : Room) s m ([.ref aM] : List Value).toArray below meth c H locs 0 0 Q (F0 m 179 ls [.int t0_179]) := by
        intro t0_179 H locs ls hP hD hS hl hok
        unfold fX9_lookOf_J179 at hok
        refine lv_istore (lv' := [(4, .int t0_179), (0, .ref aM), (1, .int y1_134), (2, .int y2_134), (3, .int y3_134)]) hx hb dX9_lookOf_179 hl (by decide) rfl (fun ls hl => ?_)
        refine lv_iload_n hx hb dX9_lookOf_181 rfl (lv_at hl 3 rfl) ?_
        refine lv_if_lt (tgt := 197) hx hb dX9_lookOf_182 (by decide) (fun c182 => ?_) (fun c182 => ?_)
        · have hok := k_pos c182 hok
          exact J197 t0_179 H locs ls hP hD hS (lv_sub hl [1, 2, 4, 0] rfl) hok
        · have hok := k_neg c182 hok
          refine lv_iload hx hb dX9_lookOf_185 (lv_at hl 0 rfl) ?_
          refine lv_aload_n hx hb dX9_lookOf_187 rfl (lv_at hl 1 rfl) ?_
          refine va_get (D := D) (ci := 8) (v := .int (vM_134 25)) (C := RX9) (T := TX9) (N := 29) hx hb ht0 niX9 hown hK hP 0 rfl rfl 25 (by decide) (ht0 _ wd994) (fun _ h9 => h9) rfl dX9_lookOf_188 ?_
          refine lv_icmp_lt (tgt := 197) hx hb dX9_lookOf_191 (by decide) (fun c191 => ?_) (fun c191 => ?_)
          · have hok := k_pos c191 hok
            exact J197 t0_179 H locs ls hP hD hS (lv_sub hl [1, 2, 4, 0] rfl) hok
          · have hok := k_neg c191 hok
            refine lv_goto (tgt := 216) hx hb dX9_lookOf_194 (by decide) ?_
            exact J216 y2_134 vM_134 H locs ls hP hD hS (lv_sub hl [1, 2, 3, 4] rfl) hok
      unfold fX9_lookOf_B134 at hok
      try dsimp only at hok
      refine lv_iload_n hx hb dX9_lookOf_134 rfl (lv_at hl 3 rfl) ?_
      refine lv_sipush (v := 1200) hx hb dX9_lookOf_135 (by decide) ?_
      refine lv_icmp_ge (tgt := 222) hx hb dX9_lookOf_138 (by decide) (fun c138 => ?_) (fun c138 => ?_)
      · have hok := k_pos c138 hok
        obtain ⟨e134, hok, he134⟩ := ex_some hok
        have hok := hok.trans (congrArg some (hL134 _ he134))
        exact J222 y2_134 vM_counts_134 vM_134 H locs ls hP hD hS (lv_sub hl [2] rfl) hok
      · have hok := k_neg c138 hok
        refine lv_iload_n hx hb dX9_lookOf_141 rfl (lv_at hl 1 rfl) ?_
        refine lv_if_le (tgt := 222) hx hb dX9_lookOf_142 (by decide) (fun c142 => ?_) (fun c142 => ?_)
        · have hok := k_pos c142 hok
          obtain ⟨e134, hok, he134⟩ := ex_some hok
          have hok := hok.trans (congrArg some (hL134 _ he134))
          exact J222 y2_134 vM_counts_134 vM_134 H locs ls hP hD hS (lv_sub hl [2] rfl) hok
        · have hok := k_neg c142 hok
          refine lv_aload_n hx hb dX9_lookOf_145 rfl (lv_at hl 0 rfl) ?_
          refine va_get (D := D) (ci := 8) (v := .ref (qM 24)) (C := RX9) (T := TX9) (N := 29) hx hb ht0 niX9 hown hK hP 0 rfl rfl 24 (by decide) (ht0 _ wd995) (fun _ h9 => h9) rfl dX9_lookOf_146 ?_
          refine lv_iload_n hx hb dX9_lookOf_149 rfl (lv_at hl 3 rfl) ?_
          obtain ⟨g150, hok⟩ := gd_some hok
          refine va_iald hx hb hK hP 1 0 rfl rfl (okI_in g150) dX9_lookOf_150 ?_
          refine lv_iload_n hx hb dX9_lookOf_151 rfl (lv_at hl 1 rfl) ?_
          refine lv_aload_n hx hb dX9_lookOf_152 rfl (lv_at hl 0 rfl) ?_
          refine va_get (D := D) (ci := 8) (v := .ref (qM 24)) (C := RX9) (T := TX9) (N := 29) hx hb ht0 niX9 hown hK hP 0 rfl rfl 24 (by decide) (ht0 _ wd995) (fun _ h9 => h9) rfl dX9_lookOf_153 ?_
          refine lv_iload_n hx hb dX9_lookOf_156 rfl (lv_at hl 3 rfl) ?_
          obtain ⟨g157, hok⟩ := gd_some hok
          refine va_iald hx hb hK hP 1 0 rfl rfl (okI_in g157) dX9_lookOf_157 ?_
          refine lv_isub hx hb dX9_lookOf_158 ?_
          refine lv_icmp_le (tgt := 171) hx hb dX9_lookOf_159 (by decide) (fun c159 => ?_) (fun c159 => ?_)
          · have hok := k_pos c159 hok
            refine lv_iload_n hx hb dX9_lookOf_171 rfl (lv_at hl 1 rfl) ?_
            refine lv_aload_n hx hb dX9_lookOf_172 rfl (lv_at hl 0 rfl) ?_
            refine va_get (D := D) (ci := 8) (v := .ref (qM 24)) (C := RX9) (T := TX9) (N := 29) hx hb ht0 niX9 hown hK hP 0 rfl rfl 24 (by decide) (ht0 _ wd995) (fun _ h9 => h9) rfl dX9_lookOf_173 ?_
            refine lv_iload_n hx hb dX9_lookOf_176 rfl (lv_at hl 3 rfl) ?_
            obtain ⟨g177, hok⟩ := gd_some hok
            refine va_iald hx hb hK hP 1 0 rfl rfl (okI_in g177) dX9_lookOf_177 ?_
            refine lv_isub hx hb dX9_lookOf_178 ?_
            exact J179 (y1_134 - (vM_counts_134 y3_134.toNatClampNeg)) H locs ls hP hD hS (lv_sub hl [0, 1, 2, 3] rfl) hok
          · have hok := k_neg c159 hok
            refine lv_aload_n hx hb dX9_lookOf_162 rfl (lv_at hl 0 rfl) ?_
            refine va_get (D := D) (ci := 8) (v := .ref (qM 24)) (C := RX9) (T := TX9) (N := 29) hx hb ht0 niX9 hown hK hP 0 rfl rfl 24 (by decide) (ht0 _ wd995) (fun _ h9 => h9) rfl dX9_lookOf_163 ?_
            refine lv_iload_n hx hb dX9_lookOf_166 rfl (lv_at hl 3 rfl) ?_
            obtain ⟨g167, hok⟩ := gd_some hok
            refine va_iald hx hb hK hP 1 0 rfl rfl (okI_in g167) dX9_lookOf_167 ?_
            refine lv_goto (tgt := 179) hx hb dX9_lookOf_168 (by decide) ?_
            exact J179 (vM_counts_134 y3_134.toNatClampNeg) H locs ls hP hD hS (lv_sub hl [0, 1, 2, 3] rfl) hok
  have L26 : ∀ (fuel : Nat) (y1_26 : Int32) (y2_26 : Int32) (vM_counts_26 : Nat → Int32), ∀ (H : Heap) (locs : List Loc) (ls : Array Slot), va_P D vwCl (wX9_lookOf cy aM qM vM vM_counts_26 vM_r) H → va_D A (wX9_lookOf cy aM qM vM vM_counts_26 vM_r) → va_S A s.heap H locs → lv_has ls 6 [(0, .ref aM), (1, .int y1_26), (2, .int y2_26)] → lp (fX9_lookOf_B26 vM vM_r) fuel (y1_26, y2_26, vM_counts_26) = some (zr, z_vM, z_vM_counts) → W p l e ({ frames := 1, cells := 0, slots := 0, locals := 25 } : Room) s m ([.ref aM] : List Value).toArray below meth c H locs 0 0 Q (F0 m 26 ls []) := by
    intro fuel
    induction fuel with
    | zero => intro y1_26 y2_26 vM_counts_26 H locs ls hP hD hS hl hok; exact (lp_0 hok).elim
    | succ fuel ih26 =>
      intro y1_26 y2_26 vM_counts_26 H locs ls hP hD hS hl hok
      obtain ⟨y26, hok, hL26, hR26⟩ := lp_step hok
      have L34 : ∀ (fuel : Nat) (y1_34 : Int32) (y3_34 : Int32) (vM_counts_34 : Nat → Int32), ∀ (H : Heap) (locs : List Loc) (ls : Array Slot), va_P D vwCl (wX9_lookOf cy aM qM vM vM_counts_34 vM_r) H → va_D A (wX9_lookOf cy aM qM vM vM_counts_34 vM_r) → va_S A s.heap H locs → lv_has ls 6 [(0, .ref aM), (1, .int y1_34), (2, .int y2_26), (3, .int y3_34)] → lp (fX9_lookOf_B34 vM vM_r y2_26) fuel (y1_34, y3_34, vM_counts_34) = some y26 → W p l e ({ frames := 1, cells := 0, slots := 0, locals := 25 } : Room) s m ([.ref aM] : List Value).toArray below meth c H locs 0 0 Q (F0 m 34 ls []) := by
        intro fuel
        induction fuel with
        | zero => intro y1_34 y3_34 vM_counts_34 H locs ls hP hD hS hl hok; exact (lp_0 hok).elim
        | succ fuel ih34 =>
          intro y1_34 y3_34 vM_counts_34 H locs ls hP hD hS hl hok
          obtain ⟨y34, hok, hL34, hR34⟩ := lp_step hok
          have L42 : ∀ (fuel : Nat) (y1_42 : Int32) (y4_42 : Int32) (vM_counts_42 : Nat → Int32), ∀ (H : Heap) (locs : List Loc) (ls : Array Slot), va_P D vwCl (wX9_lookOf cy aM qM vM vM_counts_42 vM_r) H → va_D A (wX9_lookOf cy aM qM vM vM_counts_42 vM_r) → va_S A s.heap H locs → lv_has ls 6 [(0, .ref aM), (1, .int y1_42), (2, .int y2_26), (3, .int y3_34), (4, .int y4_42)] → lp (fX9_lookOf_B42 vM vM_r y2_26 y3_34) fuel (y1_42, y4_42, vM_counts_42) = some y34 → W p l e ({ frames := 1, cells := 0, slots := 0, locals := 25 } : Room) s m ([.ref aM] : List Value).toArray below meth c H locs 0 0 Q (F0 m 42 ls []) := by
            intro fuel
            induction fuel with
            | zero => intro y1_42 y4_42 vM_counts_42 H locs ls hP hD hS hl hok; exact (lp_0 hok).elim
            | succ fuel ih42 =>
              intro y1_42 y4_42 vM_counts_42 H locs ls hP hD hS hl hok
              obtain ⟨y42, hok, hL42, hR42⟩ := lp_step hok
              have J105 : ∀ (y1_105 : Int32) (vM_counts_105 : Nat → Int32), ∀ (H : Heap) (locs : List Loc) (ls : Array Slot), va_P D vwCl (wX9_lookOf cy aM qM vM vM_counts_105 vM_r) H → va_D A (wX9_lookOf cy aM qM vM vM_counts_105 vM_r) → va_S A s.heap H locs → lv_has ls 6 [(0, .ref aM), (1, .int y1_105), (2, .int y2_26), (3, .int y3_34), (4, .int y4_42)] → fX9_lookOf_J105 y4_42 y1_105 vM_counts_105 = some y42 → W p l e ({ frames := 1, cells := 0, slots := 0, locals := 25 } : Room) s m ([.ref aM] : List Value).toArray below meth c H locs 0 0 Q (F0 m 105 ls []) := by
                intro y1_105 vM_counts_105 H locs ls hP hD hS hl hok
                unfold fX9_lookOf_J105 at hok
                refine lv_iinc (v := (y4_42 + 1)) (lv' := [(4, .int (y4_42 + 1)), (0, .ref aM), (1, .int y1_105), (2, .int y2_26), (3, .int y3_34)]) hx hb dX9_lookOf_105 hl (k := 4) rfl (by first | rfl | decide) (by decide) rfl (fun ls hl => ?_)
                refine lv_goto (tgt := 42) hx hb dX9_lookOf_108 (by decide) ?_
                exact ih42 y1_105 (y4_42 + 1) vM_counts_105 H locs ls hP hD hS (lv_sub hl [1, 2, 3, 4, 0] rfl) (hR42 _ (Option.some.inj hok).symm)
              have L68 : ∀ (fuel : Nat) (y5_68 : Int32) (vM_counts_68 : Nat → Int32), ∀ (H : Heap) (locs : List Loc) (ls : Array Slot), va_P D vwCl (wX9_lookOf cy aM qM vM vM_counts_68 vM_r) H → va_D A (wX9_lookOf cy aM qM vM vM_counts_68 vM_r) → va_S A s.heap H locs → lv_has ls 6 [(0, .ref aM), (1, .int (y1_42 + 1)), (2, .int y2_26), (3, .int y3_34), (4, .int y4_42), (5, .int y5_68)] → lp (fX9_lookOf_B68 y2_26 y3_34 y1_42 y4_42) fuel (y5_68, vM_counts_68) = some y42 → W p l e ({ frames := 1, cells := 0, slots := 0, locals := 25 } : Room) s m ([.ref aM] : List Value).toArray below meth c H locs 0 0 Q (F0 m 68 ls []) := by
                intro fuel
                induction fuel with
                | zero => intro y5_68 vM_counts_68 H locs ls hP hD hS hl hok; exact (lp_0 hok).elim
                | succ fuel ih68 =>
                  intro y5_68 vM_counts_68 H locs ls hP hD hS hl hok
                  obtain ⟨y68, hok, hL68, hR68⟩ := lp_step hok
                  unfold fX9_lookOf_B68 at hok
                  try dsimp only at hok
                  refine lv_iload hx hb dX9_lookOf_68 (lv_at hl 5 rfl) ?_
                  refine lv_bipush (v := 100) hx hb dX9_lookOf_70 (by decide) ?_
                  refine lv_icmp_ge (tgt := 105) hx hb dX9_lookOf_72 (by decide) (fun c72 => ?_) (fun c72 => ?_)
                  · have hok := k_pos c72 hok
                    obtain ⟨e68, hok, he68⟩ := ex_some hok
                    have hok := hok.trans (congrArg some (hL68 _ he68))
                    exact J105 (y1_42 + 1) vM_counts_68 H locs ls hP hD hS (lv_sub hl [0, 1, 2, 3, 4] rfl) hok
                  · have hok := k_neg c72 hok
                    refine lv_aload_n hx hb dX9_lookOf_75 rfl (lv_at hl 0 rfl) ?_
                    refine va_get (D := D) (ci := 8) (v := .ref (qM 24)) (C := RX9) (T := TX9) (N := 29) hx hb ht0 niX9 hown hK hP 0 rfl rfl 24 (by decide) (ht0 _ wd995) (fun _ h9 => h9) rfl dX9_lookOf_76 ?_
                    refine lv_bipush (v := 12) hx hb dX9_lookOf_79 (by decide) ?_
                    refine lv_iload hx hb dX9_lookOf_81 (lv_at hl 5 rfl) ?_
                    refine lv_imul hx hb dX9_lookOf_83 ?_
                    refine lv_iload hx hb dX9_lookOf_84 (lv_at hl 4 rfl) ?_
                    refine lv_iload_n hx hb dX9_lookOf_86 rfl (lv_at hl 3 rfl) ?_
                    refine lv_iload hx hb dX9_lookOf_87 (lv_at hl 5 rfl) ?_
                    refine lv_imul hx hb dX9_lookOf_89 ?_
                    refine lv_iadd hx hb dX9_lookOf_90 ?_
                    refine lv_iload_n hx hb dX9_lookOf_91 rfl (lv_at hl 2 rfl) ?_
                    obtain ⟨g92, hok⟩ := gd_some hok
                    refine lv_irem hx hb dX9_lookOf_92 (nzI_ne g92) ?_
                    refine lv_iadd hx hb dX9_lookOf_93 ?_
                    refine lv_dup2_11 hx hb dX9_lookOf_94 rfl rfl ?_
                    obtain ⟨g95, hok⟩ := gd_some hok
                    refine va_iald hx hb hK hP 1 0 rfl rfl (okI_in g95) dX9_lookOf_95 ?_
                    refine lv_iconst (v := 1) hx hb dX9_lookOf_96 (by decide) ?_
                    refine lv_iadd hx hb dX9_lookOf_97 ?_
                    obtain ⟨g98, hok⟩ := gd_some hok
                    refine va_iast hx hb hK hP hD hS 1 0 rfl rfl (okI_in g98) dX9_lookOf_98 (fun H locs hP hD hS => ?_)
                    have hP : va_P D vwCl (wX9_lookOf cy aM qM vM (upd vM_counts_68 (((12 : Int32) * y5_68) + (irm (y4_42 + (y3_34 * y5_68)) y2_26)).toNatClampNeg ((vM_counts_68 (((12 : Int32) * y5_68) + (irm (y4_42 + (y3_34 * y5_68)) y2_26)).toNatClampNeg) + (1 : Int32))) vM_r) H := hP
                    have hD : va_D A (wX9_lookOf cy aM qM vM (upd vM_counts_68 (((12 : Int32) * y5_68) + (irm (y4_42 + (y3_34 * y5_68)) y2_26)).toNatClampNeg ((vM_counts_68 (((12 : Int32) * y5_68) + (irm (y4_42 + (y3_34 * y5_68)) y2_26)).toNatClampNeg) + (1 : Int32))) vM_r) := hD
                    refine lv_iinc (v := (y5_68 + 1)) (lv' := [(5, .int (y5_68 + 1)), (0, .ref aM), (1, .int (y1_42 + 1)), (2, .int y2_26), (3, .int y3_34), (4, .int y4_42)]) hx hb dX9_lookOf_99 hl (k := 5) rfl (by first | rfl | decide) (by decide) rfl (fun ls hl => ?_)
                    refine lv_goto (tgt := 68) hx hb dX9_lookOf_102 (by decide) ?_
                    exact ih68 (y5_68 + 1) (upd vM_counts_68 (((12 : Int32) * y5_68) + (irm (y4_42 + (y3_34 * y5_68)) y2_26)).toNatClampNeg ((vM_counts_68 (((12 : Int32) * y5_68) + (irm (y4_42 + (y3_34 * y5_68)) y2_26)).toNatClampNeg) + (1 : Int32))) H locs ls hP hD hS (lv_sub hl [1, 2, 3, 4, 5, 0] rfl) (hR68 _ (Option.some.inj hok).symm)
              unfold fX9_lookOf_B42 at hok
              try dsimp only at hok
              refine lv_iload hx hb dX9_lookOf_42 (lv_at hl 4 rfl) ?_
              refine lv_iload_n hx hb dX9_lookOf_44 rfl (lv_at hl 2 rfl) ?_
              refine lv_icmp_ge (tgt := 111) hx hb dX9_lookOf_45 (by decide) (fun c45 => ?_) (fun c45 => ?_)
              · have hok := k_pos c45 hok
                obtain ⟨e42, hok, he42⟩ := ex_some hok
                have hok := hok.trans (congrArg some (hL42 _ he42))
                refine lv_iinc (v := (y3_34 + 1)) (lv' := [(3, .int (y3_34 + 1)), (0, .ref aM), (1, .int y1_42), (2, .int y2_26), (4, .int y4_42)]) hx hb dX9_lookOf_111 hl (k := 3) rfl (by first | rfl | decide) (by decide) rfl (fun ls hl => ?_)
                refine lv_goto (tgt := 34) hx hb dX9_lookOf_114 (by decide) ?_
                exact ih34 y1_42 (y3_34 + 1) vM_counts_42 H locs ls hP hD hS (lv_sub hl [1, 2, 3, 0] rfl) (hR34 _ (Option.some.inj hok).symm)
              · have hok := k_neg c45 hok
                refine lv_aload_n hx hb dX9_lookOf_48 rfl (lv_at hl 0 rfl) ?_
                refine lv_iload_n hx hb dX9_lookOf_49 rfl (lv_at hl 2 rfl) ?_
                refine lv_iload_n hx hb dX9_lookOf_50 rfl (lv_at hl 3 rfl) ?_
                refine lv_iload hx hb dX9_lookOf_51 (lv_at hl 4 rfl) ?_
                obtain ⟨r53, hc53, hok⟩ := k_bind hok
                refine kCi (wc := (wX9_isRule cy aM qM vM vM_r)) (wc2 := (wX9_isRule cy aM qM vM vM_r)) (wr := [(qM 24, rI cy 1200 vM_counts_42)]) (ws2 := (wX9_lookOf cy aM qM vM vM_counts_42 vM_r)) (kRunV (As := [.int y2_26, .int y3_34, .int y4_42]) (rest := []) ⟨hx, hb, hml, hown, ht0⟩ (kX9_isRule l D cy _ aM qM vM vM_r y2_26 y3_34 y4_42 r53 hc53 _ rfl) (cwV 3 ht0 (gV wd986 wd987 wd988 wd744 wd989) rfl rfl rfl (by decide +kernel) ⟨Nat.le_of_ble_eq_true rfl, Nat.le_of_ble_eq_true rfl⟩) hK hN hP hD [0, 2] rfl (by decide) 0 8 rfl rfl rfl hl.1 rfl (Nat.le_of_ble_eq_true rfl) dX9_lookOf_53 ⟨Nat.zero_le _, Nat.zero_le _⟩) hP hD hS hA [0, 2] [1] rfl rfl (by decide) (by decide) [1, 0, 2] (by decide) rfl rfl (fun H locs hP hD hS => ?_)
                refine lv_if_ne (tgt := 62) hx hb dX9_lookOf_56 (by decide) (fun c56 => ?_) (fun c56 => ?_)
                · have hok := k_neg c56 hok
                  refine lv_iinc (v := (y1_42 + 1)) (lv' := [(1, .int (y1_42 + 1)), (0, .ref aM), (2, .int y2_26), (3, .int y3_34), (4, .int y4_42)]) hx hb dX9_lookOf_62 hl (k := 1) rfl (by first | rfl | decide) (by decide) rfl (fun ls hl => ?_)
                  refine lv_iconst (v := 0) hx hb dX9_lookOf_65 (by decide) ?_
                  refine lv_istore (lv' := [(5, .int 0), (1, .int (y1_42 + 1)), (0, .ref aM), (2, .int y2_26), (3, .int y3_34), (4, .int y4_42)]) hx hb dX9_lookOf_66 hl (by decide) rfl (fun ls hl => ?_)
                  exact L68 5000 (0 : Int32) vM_counts_42 H locs ls hP hD hS (lv_sub hl [2, 1, 3, 4, 5, 0] rfl) hok
                · have hok := k_pos c56 hok
                  refine lv_goto (tgt := 105) hx hb dX9_lookOf_59 (by decide) ?_
                  exact J105 y1_42 vM_counts_42 H locs ls hP hD hS (lv_sub hl [0, 1, 2, 3, 4] rfl) hok
          unfold fX9_lookOf_B34 at hok
          try dsimp only at hok
          refine lv_iload_n hx hb dX9_lookOf_34 rfl (lv_at hl 3 rfl) ?_
          refine lv_iload_n hx hb dX9_lookOf_35 rfl (lv_at hl 2 rfl) ?_
          refine lv_icmp_ge (tgt := 117) hx hb dX9_lookOf_36 (by decide) (fun c36 => ?_) (fun c36 => ?_)
          · have hok := k_pos c36 hok
            obtain ⟨e34, hok, he34⟩ := ex_some hok
            have hok := hok.trans (congrArg some (hL34 _ he34))
            refine lv_iinc (v := (y2_26 + 1)) (lv' := [(2, .int (y2_26 + 1)), (0, .ref aM), (1, .int y1_34), (3, .int y3_34)]) hx hb dX9_lookOf_117 hl (k := 2) rfl (by first | rfl | decide) (by decide) rfl (fun ls hl => ?_)
            refine lv_goto (tgt := 26) hx hb dX9_lookOf_120 (by decide) ?_
            exact ih26 y1_34 (y2_26 + 1) vM_counts_34 H locs ls hP hD hS (lv_sub hl [1, 2, 0] rfl) (hR26 _ (Option.some.inj hok).symm)
          · have hok := k_neg c36 hok
            refine lv_iconst (v := 0) hx hb dX9_lookOf_39 (by decide) ?_
            refine lv_istore (lv' := [(4, .int 0), (0, .ref aM), (1, .int y1_34), (2, .int y2_26), (3, .int y3_34)]) hx hb dX9_lookOf_40 hl (by decide) rfl (fun ls hl => ?_)
            exact L42 5000 y1_34 (0 : Int32) vM_counts_34 H locs ls hP hD hS (lv_sub hl [1, 2, 3, 4, 0] rfl) hok
      unfold fX9_lookOf_B26 at hok
      try dsimp only at hok
      refine lv_iload_n hx hb dX9_lookOf_26 rfl (lv_at hl 2 rfl) ?_
      refine lv_bipush (v := 12) hx hb dX9_lookOf_27 (by decide) ?_
      refine lv_icmp_gt (tgt := 123) hx hb dX9_lookOf_29 (by decide) (fun c29 => ?_) (fun c29 => ?_)
      · have hok := k_pos c29 hok
        obtain ⟨e26, hok, he26⟩ := ex_some hok
        have hok := hok.trans (congrArg some (hL26 _ he26))
        refine lv_aload_n hx hb dX9_lookOf_123 rfl (lv_at hl 0 rfl) ?_
        refine lv_bipush (v := -2) hx hb dX9_lookOf_124 (by decide) ?_
        refine va_put (D := D) (ci := 8) (v := .int (-2)) (ty := .int) (C := RX9) (T := TX9) (N := 29) hx hb ht0 niX9 tyX9 tyX9_ok nmX9 hown hK hP hD hS 0 rfl rfl 25 (by decide) (ht0 _ wd994) (fun _ h9 => h9) rfl (by decide +kernel) rfl rfl (Nat.le_of_ble_eq_true rfl) dX9_lookOf_126 (fun H locs hP hD hS => ?_)
        have hP : va_P D vwCl (wX9_lookOf cy aM qM (upd vM 25 (-2 : Int32)) vM_counts_26 vM_r) H := hP
        have hD : va_D A (wX9_lookOf cy aM qM (upd vM 25 (-2 : Int32)) vM_counts_26 vM_r) := hD
        refine lv_bipush (v := -2) hx hb dX9_lookOf_129 (by decide) ?_
        refine lv_istore_n (lv' := [(2, .int (-2)), (0, .ref aM), (1, .int y1_26)]) hx hb dX9_lookOf_131 rfl hl (by decide) rfl (fun ls hl => ?_)
        refine lv_iconst (v := 0) hx hb dX9_lookOf_132 (by decide) ?_
        refine lv_istore_n (lv' := [(3, .int 0), (2, .int (-2)), (0, .ref aM), (1, .int y1_26)]) hx hb dX9_lookOf_133 rfl hl (by decide) rfl (fun ls hl => ?_)
        exact L134 5000 y1_26 (-2 : Int32) (0 : Int32) vM_counts_26 (upd vM 25 (-2 : Int32)) H locs ls hP hD hS (lv_sub hl [2, 3, 1, 0] rfl) hok
      · have hok := k_neg c29 hok
        refine lv_iconst (v := 1) hx hb dX9_lookOf_32 (by decide) ?_
        refine lv_istore_n (lv' := [(3, .int 1), (0, .ref aM), (1, .int y1_26), (2, .int y2_26)]) hx hb dX9_lookOf_33 rfl hl (by decide) rfl (fun ls hl => ?_)
        exact L34 5000 y1_26 (1 : Int32) vM_counts_26 H locs ls hP hD hS (lv_sub hl [1, 2, 3, 0] rfl) hok
  have L4 : ∀ (fuel : Nat) (y2_4 : Int32) (vM_counts_4 : Nat → Int32), ∀ (H : Heap) (locs : List Loc) (ls : Array Slot), va_P D vwCl (wX9_lookOf cy aM qM vM vM_counts_4 vM_r) H → va_D A (wX9_lookOf cy aM qM vM vM_counts_4 vM_r) → va_S A s.heap H locs → lv_has ls 6 [(0, .ref aM), (1, .int 0), (2, .int y2_4)] → lp (fX9_lookOf_B4 vM vM_r) fuel (y2_4, vM_counts_4) = some (zr, z_vM, z_vM_counts) → W p l e ({ frames := 1, cells := 0, slots := 0, locals := 25 } : Room) s m ([.ref aM] : List Value).toArray below meth c H locs 0 0 Q (F0 m 4 ls []) := by
    intro fuel
    induction fuel with
    | zero => intro y2_4 vM_counts_4 H locs ls hP hD hS hl hok; exact (lp_0 hok).elim
    | succ fuel ih4 =>
      intro y2_4 vM_counts_4 H locs ls hP hD hS hl hok
      obtain ⟨y4, hok, hL4, hR4⟩ := lp_step hok
      unfold fX9_lookOf_B4 at hok
      try dsimp only at hok
      refine lv_iload_n hx hb dX9_lookOf_4 rfl (lv_at hl 2 rfl) ?_
      refine lv_sipush (v := 1200) hx hb dX9_lookOf_5 (by decide) ?_
      refine lv_icmp_ge (tgt := 24) hx hb dX9_lookOf_8 (by decide) (fun c8 => ?_) (fun c8 => ?_)
      · have hok := k_pos c8 hok
        obtain ⟨e4, hok, he4⟩ := ex_some hok
        have hok := hok.trans (congrArg some (hL4 _ he4))
        refine lv_iconst (v := 2) hx hb dX9_lookOf_24 (by decide) ?_
        refine lv_istore_n (lv' := [(2, .int 2), (0, .ref aM), (1, .int 0)]) hx hb dX9_lookOf_25 rfl hl (by decide) rfl (fun ls hl => ?_)
        exact L26 5000 (0 : Int32) (2 : Int32) vM_counts_4 H locs ls hP hD hS (lv_sub hl [1, 2, 0] rfl) hok
      · have hok := k_neg c8 hok
        refine lv_aload_n hx hb dX9_lookOf_11 rfl (lv_at hl 0 rfl) ?_
        refine va_get (D := D) (ci := 8) (v := .ref (qM 24)) (C := RX9) (T := TX9) (N := 29) hx hb ht0 niX9 hown hK hP 0 rfl rfl 24 (by decide) (ht0 _ wd995) (fun _ h9 => h9) rfl dX9_lookOf_12 ?_
        refine lv_iload_n hx hb dX9_lookOf_15 rfl (lv_at hl 2 rfl) ?_
        refine lv_iconst (v := 0) hx hb dX9_lookOf_16 (by decide) ?_
        obtain ⟨g17, hok⟩ := gd_some hok
        refine va_iast hx hb hK hP hD hS 1 0 rfl rfl (okI_in g17) dX9_lookOf_17 (fun H locs hP hD hS => ?_)
        have hP : va_P D vwCl (wX9_lookOf cy aM qM vM (upd vM_counts_4 y2_4.toNatClampNeg (0 : Int32)) vM_r) H := hP
        have hD : va_D A (wX9_lookOf cy aM qM vM (upd vM_counts_4 y2_4.toNatClampNeg (0 : Int32)) vM_r) := hD
        refine lv_iinc (v := (y2_4 + 1)) (lv' := [(2, .int (y2_4 + 1)), (0, .ref aM), (1, .int 0)]) hx hb dX9_lookOf_18 hl (k := 2) rfl (by first | rfl | decide) (by decide) rfl (fun ls hl => ?_)
        refine lv_goto (tgt := 4) hx hb dX9_lookOf_21 (by decide) ?_
        exact ih4 (y2_4 + 1) (upd vM_counts_4 y2_4.toNatClampNeg (0 : Int32)) H locs ls hP hD hS (lv_sub hl [1, 2, 0] rfl) (hR4 _ (Option.some.inj hok).symm)
  unfold fX9_lookOf at hok
  obtain ⟨H, hH⟩ : ∃ H, H = s.heap := ⟨_, rfl⟩
  obtain ⟨locs, hlc⟩ : ∃ x : List Loc, x = [] := ⟨_, rfl⟩
  have hP : va_P D vwCl (wX9_lookOf cy aM qM vM vM_counts vM_r) H := by rw [hH]; exact hP
  have hS : va_S A s.heap H locs := by rw [hH, hlc]; exact hS
  rw [show W p l e _ s m _ below meth c s.heap [] = W p l e _ s m _ below meth c H locs from by rw [hH, hlc]]
  refine lv_iconst (v := 0) hx hb dX9_lookOf_0 (by decide) ?_
  refine lv_istore_n (lv' := [(1, .int 0), (0, .ref aM)]) hx hb dX9_lookOf_1 rfl hl (by decide) rfl (fun ls hl => ?_)
  refine lv_iconst (v := 0) hx hb dX9_lookOf_2 (by decide) ?_
  refine lv_istore_n (lv' := [(2, .int 0), (1, .int 0), (0, .ref aM)]) hx hb dX9_lookOf_3 rfl hl (by decide) rfl (fun ls hl => ?_)
  exact L4 5000 (0 : Int32) vM_counts H locs ls hP hD hS (lv_sub hl [2, 1, 0] rfl) hok
def wsX9_look : List Cond := .code yX9_look cX9_look 1 (some .int) :: W0
abbrev wX9_look (cy : Nat → ClassId) (aM : Nat) (qM : Nat → Nat) (vM : Nat → Int32) (vM_counts : Nat → Int32) (vM_r : Nat → Int32) : va_W := [(aM, oX9 vM qM), (qM 24, rI cy 1200 vM_counts), (qM 15, rI cy 224 vM_r)]
set_option maxHeartbeats 4000000 in
set_option maxRecDepth 100000 in
theorem kX9_look (l : Launch) (D : va_G) (cy : Nat → ClassId) (sz : Nat) (aM : Nat) (qM : Nat → Nat) (vM : Nat → Int32) (vM_counts : Nat → Int32) (vM_r : Nat → Int32) (zr : Int32) (z_vM : Nat → Int32) (z_vM_counts : Nat → Int32) (hok : fX9_look vM vM_counts vM_r = some (zr, z_vM, z_vM_counts)) (A : Nat → Prop) (hAe : va_A (wX9_look cy aM qM vM vM_counts vM_r) sz = A) : Met l yX9_look wsX9_look ({ frames := 2, cells := 0, slots := 0, locals := 50 } : Room) (kPre D cy [.ref aM] (wX9_look cy aM qM vM vM_counts vM_r) sz) (kQi D cy zr A (wX9_look cy aM qM z_vM z_vM_counts vM_r)) 0 0 A := by
  refine Met.ofW (cc := cX9_look) (maxL := 1) (ret := (some .int)) (by decide) rfl ?_
  intro p e s m args below meth c s₁ B hml hv
  obtain ⟨rfl, hsz, hP, hK, hD0, hN⟩ := hv
  have hx := B.exec
  have hb := B.bytes
  have hr := B.returns
  have ht0 : ∀ w ∈ W0, w.before _ s = true := fun w h => atoms_spec (ws := wsX9_look) B.pre w (List.mem_cons_of_mem _ h)
  have hown : s.vm.findClass RX9 = some m.cls := findClass_of_methodNamed B.named
  have hlocks := B.notSynchronized
  subst hsz
  have hD : va_D A (wX9_look cy aM qM vM vM_counts vM_r) := by rw [← hAe]; exact hD0.self
  have hA : ∀ q : Nat, s.heap.size ≤ q → A q := fun q h => by rw [← hAe]; exact Or.inr h
  have hS : va_S A s.heap s.heap [] := va_S.rf
  have hl := lv_entry ([.ref aM]) (n := 1) (Nat.le_of_ble_eq_true rfl)
  rw [lg_entry_eq]
  generalize (lg_sl ([.ref aM]) ++ List.replicate (1 - (lg_sl ([.ref aM])).length) Slot.unset).toArray = ls at hl ⊢
  have hl : lv_has ls 1 [(0, .ref aM)] := hl
  generalize hQe : MQ below (kQi D cy zr A (wX9_look cy aM qM z_vM z_vM_counts vM_r)) ([.ref aM] : List Value).toArray s 0 0 A = Q
  have J23 : ∀ (t0_23 : Int32) (vM_counts_23 : Nat → Int32) (vM_23 : Nat → Int32), ∀ (H : Heap) (locs : List Loc) (ls : Array Slot), va_P D vwCl (wX9_look cy aM qM vM_23 vM_counts_23 vM_r) H → va_D A (wX9_look cy aM qM vM_23 vM_counts_23 vM_r) → va_S A s.heap H locs → lv_has ls 1 [] → fX9_look_J23 t0_23 vM_counts_23 vM_23 = some (zr, z_vM, z_vM_counts) → W p l e ({ frames := 2, cells := 0, slots := 0, locals := 50 } : Room) s m ([.ref aM] : List Value).toArray below meth c H locs 0 0 Q (F0 m 23 ls [.int t0_23]) := by
    intro t0_23 vM_counts_23 vM_23 H locs ls hP hD hS hl hok
    unfold fX9_look_J23 at hok
    cases hok
    subst hQe; exact W.iret hx hb hr (fun t ht hW => ⟨⟨_, (), rfl, rfl, by rw [ht]; exact hP, va_K.moved hW.alike hK, hD⟩, hS.F ht⟩) hS.2.2 dX9_look_23
  unfold fX9_look at hok
  obtain ⟨H, hH⟩ : ∃ H, H = s.heap := ⟨_, rfl⟩
  obtain ⟨locs, hlc⟩ : ∃ x : List Loc, x = [] := ⟨_, rfl⟩
  have hP : va_P D vwCl (wX9_look cy aM qM vM vM_counts vM_r) H := by rw [hH]; exact hP
  have hS : va_S A s.heap H locs := by rw [hH, hlc]; exact hS
  rw [show W p l e _ s m _ below meth c s.heap [] = W p l e _ s m _ below meth c H locs from by rw [hH, hlc]]
  refine lv_aload_n hx hb dX9_look_0 rfl (lv_at hl 0 rfl) ?_
  obtain ⟨vM_1, hc1, hok⟩ := k_bind hok
  refine kCv (wc := (wX9_good cy aM qM vM)) (wc2 := (wX9_good cy aM qM vM_1)) (wr := [(qM 24, rI cy 1200 vM_counts), (qM 15, rI cy 224 vM_r)]) (ws2 := (wX9_look cy aM qM vM_1 vM_counts vM_r)) (kRunV (As := []) (rest := []) ⟨hx, hb, hml, hown, ht0⟩ (kX9_good l D cy _ aM qM vM vM_1 hc1 _ rfl) (cwV 0 ht0 (gV wd870 wd871 wd872 wd744 wd873) rfl rfl rfl (by decide +kernel) ⟨Nat.le_of_ble_eq_true rfl, Nat.le_of_ble_eq_true rfl⟩) hK hN hP hD [0] rfl (by decide) 0 8 rfl rfl rfl hl.1 rfl (Nat.le_of_ble_eq_true rfl) dX9_look_1 ⟨Nat.zero_le _, Nat.zero_le _⟩) hP hD hS hA [0] [1, 2] rfl rfl (by decide) (by decide) [2, 0, 1] (by decide) rfl rfl (fun H locs hP hD hS => ?_)
  refine lv_aload_n hx hb dX9_look_4 rfl (lv_at hl 0 rfl) ?_
  refine va_get (D := D) (ci := 8) (v := .int (vM_1 14)) (C := RX9) (T := TX9) (N := 29) hx hb ht0 niX9 hown hK hP 0 rfl rfl 14 (by decide) (ht0 _ wd855) (fun _ h9 => h9) rfl dX9_look_5 ?_
  refine lv_if_eq (tgt := 18) hx hb dX9_look_8 (by decide) (fun c8 => ?_) (fun c8 => ?_)
  · have hok := k_pos c8 hok
    refine lv_aload_n hx hb dX9_look_18 rfl (lv_at hl 0 rfl) ?_
    refine lv_iconst (v := 1) hx hb dX9_look_19 (by decide) ?_
    obtain ⟨⟨r20, vM_20⟩, hc20, hok⟩ := k_bind hok
    try dsimp only at hok
    refine kCi (wc := (wX9_no cy aM qM vM_1)) (wc2 := (wX9_no cy aM qM vM_20)) (wr := [(qM 24, rI cy 1200 vM_counts), (qM 15, rI cy 224 vM_r)]) (ws2 := (wX9_look cy aM qM vM_20 vM_counts vM_r)) (kRunV (As := [.int 1]) (rest := []) ⟨hx, hb, hml, hown, ht0⟩ (kX9_no l D cy _ aM qM vM_1 (1 : Int32) r20 vM_20 hc20 _ rfl) (cwV 1 ht0 (gV wd862 wd863 wd864 wd744 wd865) rfl rfl rfl (by decide +kernel) ⟨Nat.le_of_ble_eq_true rfl, Nat.le_of_ble_eq_true rfl⟩) hK hN hP hD [0] rfl (by decide) 0 8 rfl rfl rfl hl.1 rfl (Nat.le_of_ble_eq_true rfl) dX9_look_20 ⟨Nat.zero_le _, Nat.zero_le _⟩) hP hD hS hA [0] [1, 2] rfl rfl (by decide) (by decide) [2, 0, 1] (by decide) rfl rfl (fun H locs hP hD hS => ?_)
    exact J23 r20 vM_counts vM_20 H locs ls hP hD hS (lv_sub hl [] rfl) hok
  · have hok := k_neg c8 hok
    refine lv_aload_n hx hb dX9_look_11 rfl (lv_at hl 0 rfl) ?_
    obtain ⟨⟨r12, vM_12, vM_counts_12⟩, hc12, hok⟩ := k_bind hok
    try dsimp only at hok
    refine kCi (wc := (wX9_lookOf cy aM qM vM_1 vM_counts vM_r)) (wc2 := (wX9_lookOf cy aM qM vM_12 vM_counts_12 vM_r)) (wr := []) (ws2 := (wX9_look cy aM qM vM_12 vM_counts_12 vM_r)) (kRunV (As := []) (rest := []) ⟨hx, hb, hml, hown, ht0⟩ (kX9_lookOf l D cy _ aM qM vM_1 vM_counts vM_r r12 vM_12 vM_counts_12 hc12 _ rfl) (cwV 0 ht0 (gV wd996 wd997 wd998 wd744 wd999) rfl rfl rfl (by decide +kernel) ⟨Nat.le_of_ble_eq_true rfl, Nat.le_of_ble_eq_true rfl⟩) hK hN hP hD [0, 1, 2] rfl (by decide) 0 8 rfl rfl rfl hl.1 rfl (Nat.le_of_ble_eq_true rfl) dX9_look_12 ⟨Nat.zero_le _, Nat.zero_le _⟩) hP hD hS hA [0, 1, 2] [] rfl rfl (by decide) (by decide) [0, 1, 2] (by decide) rfl rfl (fun H locs hP hD hS => ?_)
    refine lv_goto (tgt := 23) hx hb dX9_look_15 (by decide) ?_
    exact J23 r12 vM_counts_12 vM_12 H locs ls hP hD hS (lv_sub hl [] rfl) hok
def wsX9_lookLeaves : List Cond := .code yX9_lookLeaves cX9_lookLeaves 1 (some .int) :: W0
abbrev wX9_lookLeaves (cy : Nat → ClassId) (aM : Nat) (qM : Nat → Nat) (vM : Nat → Int32) (vM_counts : Nat → Int32) (vM_r : Nat → Int32) : va_W := [(aM, oX9 vM qM), (qM 24, rI cy 1200 vM_counts), (qM 15, rI cy 224 vM_r)]
set_option maxHeartbeats 4000000 in
set_option maxRecDepth 100000 in
theorem kX9_lookLeaves (l : Launch) (D : va_G) (cy : Nat → ClassId) (sz : Nat) (aM : Nat) (qM : Nat → Nat) (vM : Nat → Int32) (vM_counts : Nat → Int32) (vM_r : Nat → Int32) (zr : Int32) (z_vM : Nat → Int32) (z_vM_counts : Nat → Int32) (hok : fX9_lookLeaves vM vM_counts vM_r = some (zr, z_vM, z_vM_counts)) (A : Nat → Prop) (hAe : va_A (wX9_lookLeaves cy aM qM vM vM_counts vM_r) sz = A) : Met l yX9_lookLeaves wsX9_lookLeaves ({ frames := 2, cells := 0, slots := 0, locals := 50 } : Room) (kPre D cy [.ref aM] (wX9_lookLeaves cy aM qM vM vM_counts vM_r) sz) (kQi D cy zr A (wX9_lookLeaves cy aM qM z_vM z_vM_counts vM_r)) 0 0 A := by
  refine Met.ofW (cc := cX9_lookLeaves) (maxL := 1) (ret := (some .int)) (by decide) rfl ?_
  intro p e s m args below meth c s₁ B hml hv
  obtain ⟨rfl, hsz, hP, hK, hD0, hN⟩ := hv
  have hx := B.exec
  have hb := B.bytes
  have hr := B.returns
  have ht0 : ∀ w ∈ W0, w.before _ s = true := fun w h => atoms_spec (ws := wsX9_lookLeaves) B.pre w (List.mem_cons_of_mem _ h)
  have hown : s.vm.findClass RX9 = some m.cls := findClass_of_methodNamed B.named
  have hlocks := B.notSynchronized
  subst hsz
  have hD : va_D A (wX9_lookLeaves cy aM qM vM vM_counts vM_r) := by rw [← hAe]; exact hD0.self
  have hA : ∀ q : Nat, s.heap.size ≤ q → A q := fun q h => by rw [← hAe]; exact Or.inr h
  have hS : va_S A s.heap s.heap [] := va_S.rf
  have hl := lv_entry ([.ref aM]) (n := 1) (Nat.le_of_ble_eq_true rfl)
  rw [lg_entry_eq]
  generalize (lg_sl ([.ref aM]) ++ List.replicate (1 - (lg_sl ([.ref aM])).length) Slot.unset).toArray = ls at hl ⊢
  have hl : lv_has ls 1 [(0, .ref aM)] := hl
  unfold fX9_lookLeaves at hok
  obtain ⟨H, hH⟩ : ∃ H, H = s.heap := ⟨_, rfl⟩
  obtain ⟨locs, hlc⟩ : ∃ x : List Loc, x = [] := ⟨_, rfl⟩
  have hP : va_P D vwCl (wX9_lookLeaves cy aM qM vM vM_counts vM_r) H := by rw [hH]; exact hP
  have hS : va_S A s.heap H locs := by rw [hH, hlc]; exact hS
  rw [show W p l e _ s m _ below meth c s.heap [] = W p l e _ s m _ below meth c H locs from by rw [hH, hlc]]
  refine lv_aload_n hx hb dX9_lookLeaves_0 rfl (lv_at hl 0 rfl) ?_
  obtain ⟨vM_1, hc1, hok⟩ := k_bind hok
  refine kCv (wc := (wX9_good cy aM qM vM)) (wc2 := (wX9_good cy aM qM vM_1)) (wr := [(qM 24, rI cy 1200 vM_counts), (qM 15, rI cy 224 vM_r)]) (ws2 := (wX9_lookLeaves cy aM qM vM_1 vM_counts vM_r)) (kRunV (As := []) (rest := []) ⟨hx, hb, hml, hown, ht0⟩ (kX9_good l D cy _ aM qM vM vM_1 hc1 _ rfl) (cwV 0 ht0 (gV wd870 wd871 wd872 wd744 wd873) rfl rfl rfl (by decide +kernel) ⟨Nat.le_of_ble_eq_true rfl, Nat.le_of_ble_eq_true rfl⟩) hK hN hP hD [0] rfl (by decide) 0 8 rfl rfl rfl hl.1 rfl (Nat.le_of_ble_eq_true rfl) dX9_lookLeaves_1 ⟨Nat.zero_le _, Nat.zero_le _⟩) hP hD hS hA [0] [1, 2] rfl rfl (by decide) (by decide) [2, 0, 1] (by decide) rfl rfl (fun H locs hP hD hS => ?_)
  refine lv_aload_n hx hb dX9_lookLeaves_4 rfl (lv_at hl 0 rfl) ?_
  refine va_get (D := D) (ci := 8) (v := .int (vM_1 14)) (C := RX9) (T := TX9) (N := 29) hx hb ht0 niX9 hown hK hP 0 rfl rfl 14 (by decide) (ht0 _ wd855) (fun _ h9 => h9) rfl dX9_lookLeaves_5 ?_
  refine lv_if_ne (tgt := 17) hx hb dX9_lookLeaves_8 (by decide) (fun c8 => ?_) (fun c8 => ?_)
  · have hok := k_neg c8 hok
    refine lv_aload_n hx hb dX9_lookLeaves_17 rfl (lv_at hl 0 rfl) ?_
    obtain ⟨⟨r18, vM_18, vM_counts_18⟩, hc18, hok⟩ := k_bind hok
    try dsimp only at hok
    refine kCi (wc := (wX9_lookOf cy aM qM vM_1 vM_counts vM_r)) (wc2 := (wX9_lookOf cy aM qM vM_18 vM_counts_18 vM_r)) (wr := []) (ws2 := (wX9_lookLeaves cy aM qM vM_18 vM_counts_18 vM_r)) (kRunV (As := []) (rest := []) ⟨hx, hb, hml, hown, ht0⟩ (kX9_lookOf l D cy _ aM qM vM_1 vM_counts vM_r r18 vM_18 vM_counts_18 hc18 _ rfl) (cwV 0 ht0 (gV wd996 wd997 wd998 wd744 wd999) rfl rfl rfl (by decide +kernel) ⟨Nat.le_of_ble_eq_true rfl, Nat.le_of_ble_eq_true rfl⟩) hK hN hP hD [0, 1, 2] rfl (by decide) 0 8 rfl rfl rfl hl.1 rfl (Nat.le_of_ble_eq_true rfl) dX9_lookLeaves_18 ⟨Nat.zero_le _, Nat.zero_le _⟩) hP hD hS hA [0, 1, 2] [] rfl rfl (by decide) (by decide) [0, 1, 2] (by decide) rfl rfl (fun H locs hP hD hS => ?_)
    refine lv_pop hx hb dX9_lookLeaves_21 rfl ?_
    refine lv_aload_n hx hb dX9_lookLeaves_22 rfl (lv_at hl 0 rfl) ?_
    refine va_get (D := D) (ci := 8) (v := .int (vM_18 25)) (C := RX9) (T := TX9) (N := 29) hx hb ht0 niX9 hown hK hP 0 rfl rfl 25 (by decide) (ht0 _ wd994) (fun _ h9 => h9) rfl dX9_lookLeaves_23 ?_
    cases hok
    exact W.iret hx hb hr (fun t ht hW => ⟨⟨_, (), rfl, rfl, by rw [ht]; exact hP, va_K.moved hW.alike hK, hD⟩, hS.F ht⟩) hS.2.2 dX9_lookLeaves_26
  · have hok := k_pos c8 hok
    refine lv_aload_n hx hb dX9_lookLeaves_11 rfl (lv_at hl 0 rfl) ?_
    refine lv_iconst (v := 1) hx hb dX9_lookLeaves_12 (by decide) ?_
    obtain ⟨⟨r13, vM_13⟩, hc13, hok⟩ := k_bind hok
    try dsimp only at hok
    refine kCi (wc := (wX9_no cy aM qM vM_1)) (wc2 := (wX9_no cy aM qM vM_13)) (wr := [(qM 24, rI cy 1200 vM_counts), (qM 15, rI cy 224 vM_r)]) (ws2 := (wX9_lookLeaves cy aM qM vM_13 vM_counts vM_r)) (kRunV (As := [.int 1]) (rest := []) ⟨hx, hb, hml, hown, ht0⟩ (kX9_no l D cy _ aM qM vM_1 (1 : Int32) r13 vM_13 hc13 _ rfl) (cwV 1 ht0 (gV wd862 wd863 wd864 wd744 wd865) rfl rfl rfl (by decide +kernel) ⟨Nat.le_of_ble_eq_true rfl, Nat.le_of_ble_eq_true rfl⟩) hK hN hP hD [0] rfl (by decide) 0 8 rfl rfl rfl hl.1 rfl (Nat.le_of_ble_eq_true rfl) dX9_lookLeaves_13 ⟨Nat.zero_le _, Nat.zero_le _⟩) hP hD hS hA [0] [1, 2] rfl rfl (by decide) (by decide) [2, 0, 1] (by decide) rfl rfl (fun H locs hP hD hS => ?_)
    cases hok
    exact W.iret hx hb hr (fun t ht hW => ⟨⟨_, (), rfl, rfl, by rw [ht]; exact hP, va_K.moved hW.alike hK, hD⟩, hS.F ht⟩) hS.2.2 dX9_lookLeaves_16
def wsX9_heirOf : List Cond := .code yX9_heirOf cX9_heirOf 3 (some .int) :: W0
abbrev wX9_heirOf (cy : Nat → ClassId)  : va_W := []
set_option maxHeartbeats 4000000 in
set_option maxRecDepth 100000 in
theorem kX9_heirOf (l : Launch) (D : va_G) (cy : Nat → ClassId) (sz : Nat) (x0 : Int32) (x1 : Int32) (x2 : Int32) (zr : Int32) (hok : fX9_heirOf x0 x1 x2 = some zr) (A : Nat → Prop) (hAe : va_A (wX9_heirOf cy ) sz = A) : Met l yX9_heirOf wsX9_heirOf ({ frames := 0, cells := 0, slots := 0, locals := 0 } : Room) (kPre D cy [.int x0, .int x1, .int x2] (wX9_heirOf cy ) sz) (kQi D cy zr A (wX9_heirOf cy )) 0 0 A := by
  refine Met.ofW (cc := cX9_heirOf) (maxL := 3) (ret := (some .int)) (by decide) rfl ?_
  intro p e s m args below meth c s₁ B hml hv
  obtain ⟨rfl, hsz, hP, hK, hD0, hN⟩ := hv
  have hx := B.exec
  have hb := B.bytes
  have hr := B.returns
  have ht0 : ∀ w ∈ W0, w.before _ s = true := fun w h => atoms_spec (ws := wsX9_heirOf) B.pre w (List.mem_cons_of_mem _ h)
  have hown : s.vm.findClass RX9 = some m.cls := findClass_of_methodNamed B.named
  have hlocks := B.notSynchronized
  subst hsz
  have hD : va_D A (wX9_heirOf cy ) := by rw [← hAe]; exact hD0.self
  have hA : ∀ q : Nat, s.heap.size ≤ q → A q := fun q h => by rw [← hAe]; exact Or.inr h
  have hS : va_S A s.heap s.heap [] := va_S.rf
  have hl := lv_entry ([.int x0, .int x1, .int x2]) (n := 3) (Nat.le_of_ble_eq_true rfl)
  rw [lg_entry_eq]
  generalize (lg_sl ([.int x0, .int x1, .int x2]) ++ List.replicate (3 - (lg_sl ([.int x0, .int x1, .int x2])).length) Slot.unset).toArray = ls at hl ⊢
  have hl : lv_has ls 3 [(0, .int x0), (1, .int x1), (2, .int x2)] := hl
  generalize hQe : MQ below (kQi D cy zr A (wX9_heirOf cy )) ([.int x0, .int x1, .int x2] : List Value).toArray s 0 0 A = Q
  have J21 : ∀ (t0_21 : Int32), ∀ (H : Heap) (locs : List Loc) (ls : Array Slot), va_P D vwCl (wX9_heirOf cy ) H → va_D A (wX9_heirOf cy ) → va_S A s.heap H locs → lv_has ls 3 [(1, .int x1)] → fX9_heirOf_J21 x1 t0_21 = some zr → W p l e ({ frames := 0, cells := 0, slots := 0, locals := 0 } : Room) s m ([.int x0, .int x1, .int x2] : List Value).toArray below meth c H locs 0 0 Q (F0 m 21 ls [.int t0_21]) := by
    intro t0_21 H locs ls hP hD hS hl hok
    unfold fX9_heirOf_J21 at hok
    refine lv_iload_n hx hb dX9_heirOf_21 rfl (lv_at hl 0 rfl) ?_
    refine lv_iload_n hx hb dX9_heirOf_22 rfl (lv_at hl 0 rfl) ?_
    refine lv_imul hx hb dX9_heirOf_23 ?_
    refine lv_isub hx hb dX9_heirOf_24 ?_
    cases hok
    subst hQe; exact W.iret hx hb hr (fun t ht hW => ⟨⟨_, (), rfl, rfl, by rw [ht]; exact hP, va_K.moved hW.alike hK, hD⟩, hS.F ht⟩) hS.2.2 dX9_heirOf_25
  unfold fX9_heirOf at hok
  obtain ⟨H, hH⟩ : ∃ H, H = s.heap := ⟨_, rfl⟩
  obtain ⟨locs, hlc⟩ : ∃ x : List Loc, x = [] := ⟨_, rfl⟩
  have hP : va_P D vwCl (wX9_heirOf cy ) H := by rw [hH]; exact hP
  have hS : va_S A s.heap H locs := by rw [hH, hlc]; exact hS
  rw [show W p l e _ s m _ below meth c s.heap [] = W p l e _ s m _ below meth c H locs from by rw [hH, hlc]]
  refine lv_iload_n hx hb dX9_heirOf_0 rfl (lv_at hl 1 rfl) ?_
  refine lv_iload_n hx hb dX9_heirOf_1 rfl (lv_at hl 2 rfl) ?_
  refine lv_icmp_le (tgt := 9) hx hb dX9_heirOf_2 (by decide) (fun c2 => ?_) (fun c2 => ?_)
  · have hok := k_pos c2 hok
    refine lv_iload_n hx hb dX9_heirOf_9 rfl (lv_at hl 1 rfl) ?_
    refine lv_iload_n hx hb dX9_heirOf_10 rfl (lv_at hl 2 rfl) ?_
    refine lv_icmp_ne (tgt := 20) hx hb dX9_heirOf_11 (by decide) (fun c11 => ?_) (fun c11 => ?_)
    · have hok := k_neg c11 hok
      refine lv_iconst (v := 0) hx hb dX9_heirOf_20 (by decide) ?_
      exact J21 (0 : Int32) H locs ls hP hD hS (lv_sub hl [1] rfl) hok
    · have hok := k_pos c11 hok
      refine lv_iload_n hx hb dX9_heirOf_14 rfl (lv_at hl 0 rfl) ?_
      refine lv_iconst (v := 2) hx hb dX9_heirOf_15 (by decide) ?_
      refine lv_idiv hx hb dX9_heirOf_16 (by decide) ?_
      refine lv_goto (tgt := 21) hx hb dX9_heirOf_17 (by decide) ?_
      exact J21 (x0 / (2 : Int32)) H locs ls hP hD hS (lv_sub hl [1] rfl) hok
  · have hok := k_neg c2 hok
    refine lv_iload_n hx hb dX9_heirOf_5 rfl (lv_at hl 0 rfl) ?_
    refine lv_goto (tgt := 21) hx hb dX9_heirOf_6 (by decide) ?_
    exact J21 x0 H locs ls hP hD hS (lv_sub hl [1] rfl) hok
def wsX9_heir : List Cond := .code yX9_heir cX9_heir 6 (some .int) :: W0
abbrev wX9_heir (cy : Nat → ClassId) (aM : Nat) (qM : Nat → Nat) (vM : Nat → Int32) : va_W := [(aM, oX9 vM qM)]
set_option maxHeartbeats 4000000 in
set_option maxRecDepth 100000 in
theorem kX9_heir (l : Launch) (D : va_G) (cy : Nat → ClassId) (sz : Nat) (aM : Nat) (qM : Nat → Nat) (vM : Nat → Int32) (x1 : Int32) (x2 : Int32) (x3 : Int32) (x4 : Int32) (zr : Int32) (z_vM : Nat → Int32) (hok : fX9_heir vM x1 x2 x3 x4 = some (zr, z_vM)) (A : Nat → Prop) (hAe : va_A (wX9_heir cy aM qM vM) sz = A) : Met l yX9_heir wsX9_heir ({ frames := 2, cells := 0, slots := 0, locals := 45 } : Room) (kPre D cy [.ref aM, .int x1, .int x2, .int x3, .int x4] (wX9_heir cy aM qM vM) sz) (kQi D cy zr A (wX9_heir cy aM qM z_vM)) 0 0 A := by
  refine Met.ofW (cc := cX9_heir) (maxL := 6) (ret := (some .int)) (by decide) rfl ?_
  intro p e s m args below meth c s₁ B hml hv
  obtain ⟨rfl, hsz, hP, hK, hD0, hN⟩ := hv
  have hx := B.exec
  have hb := B.bytes
  have hr := B.returns
  have ht0 : ∀ w ∈ W0, w.before _ s = true := fun w h => atoms_spec (ws := wsX9_heir) B.pre w (List.mem_cons_of_mem _ h)
  have hown : s.vm.findClass RX9 = some m.cls := findClass_of_methodNamed B.named
  have hlocks := B.notSynchronized
  subst hsz
  have hD : va_D A (wX9_heir cy aM qM vM) := by rw [← hAe]; exact hD0.self
  have hA : ∀ q : Nat, s.heap.size ≤ q → A q := fun q h => by rw [← hAe]; exact Or.inr h
  have hS : va_S A s.heap s.heap [] := va_S.rf
  have hl := lv_entry ([.ref aM, .int x1, .int x2, .int x3, .int x4]) (n := 6) (Nat.le_of_ble_eq_true rfl)
  rw [lg_entry_eq]
  generalize (lg_sl ([.ref aM, .int x1, .int x2, .int x3, .int x4]) ++ List.replicate (6 - (lg_sl ([.ref aM, .int x1, .int x2, .int x3, .int x4])).length) Slot.unset).toArray = ls at hl ⊢
  have hl : lv_has ls 6 [(0, .ref aM), (1, .int x1), (2, .int x2), (3, .int x3), (4, .int x4)] := hl
  generalize hQe : MQ below (kQi D cy zr A (wX9_heir cy aM qM z_vM)) ([.ref aM, .int x1, .int x2, .int x3, .int x4] : List Value).toArray s 0 0 A = Q
  have J70 : ∀ (t0_70 : Int32) (vM_70 : Nat → Int32), ∀ (H : Heap) (locs : List Loc) (ls : Array Slot), va_P D vwCl (wX9_heir cy aM qM vM_70) H → va_D A (wX9_heir cy aM qM vM_70) → va_S A s.heap H locs → lv_has ls 6 [] → fX9_heir_J70 t0_70 vM_70 = some (zr, z_vM) → W p l e ({ frames := 2, cells := 0, slots := 0, locals := 45 } : Room) s m ([.ref aM, .int x1, .int x2, .int x3, .int x4] : List Value).toArray below meth c H locs 0 0 Q (F0 m 70 ls [.int t0_70]) := by
    intro t0_70 vM_70 H locs ls hP hD hS hl hok
    unfold fX9_heir_J70 at hok
    cases hok
    subst hQe; exact W.iret hx hb hr (fun t ht hW => ⟨⟨_, (), rfl, rfl, by rw [ht]; exact hP, va_K.moved hW.alike hK, hD⟩, hS.F ht⟩) hS.2.2 dX9_heir_70
  have J45 : ∀ (y5_45 : Int32) (vM_45 : Nat → Int32), ∀ (H : Heap) (locs : List Loc) (ls : Array Slot), va_P D vwCl (wX9_heir cy aM qM vM_45) H → va_D A (wX9_heir cy aM qM vM_45) → va_S A s.heap H locs → lv_has ls 6 [(0, .ref aM), (1, .int x1), (2, .int x2), (3, .int x3), (4, .int x4), (5, .int y5_45)] → fX9_heir_J45 x1 x2 x3 x4 y5_45 vM_45 = some (zr, z_vM) → W p l e ({ frames := 2, cells := 0, slots := 0, locals := 45 } : Room) s m ([.ref aM, .int x1, .int x2, .int x3, .int x4] : List Value).toArray below meth c H locs 0 0 Q (F0 m 45 ls []) := by
    intro y5_45 vM_45 H locs ls hP hD hS hl hok
    unfold fX9_heir_J45 at hok
    refine lv_iload hx hb dX9_heir_45 (lv_at hl 5 rfl) ?_
    refine lv_if_ne (tgt := 71) hx hb dX9_heir_47 (by decide) (fun c47 => ?_) (fun c47 => ?_)
    · have hok := k_neg c47 hok
      refine lv_aload_n hx hb dX9_heir_71 rfl (lv_at hl 0 rfl) ?_
      refine lv_iload hx hb dX9_heir_72 (lv_at hl 5 rfl) ?_
      refine va_put (D := D) (ci := 8) (v := .int y5_45) (ty := .int) (C := RX9) (T := TX9) (N := 29) hx hb ht0 niX9 tyX9 tyX9_ok nmX9 hown hK hP hD hS 0 rfl rfl 11 (by decide) (ht0 _ wd736) (fun _ h9 => h9) rfl (by decide +kernel) rfl rfl (Nat.le_of_ble_eq_true rfl) dX9_heir_74 (fun H locs hP hD hS => ?_)
      have hP : va_P D vwCl (wX9_heir cy aM qM (upd vM_45 11 y5_45)) H := hP
      have hD : va_D A (wX9_heir cy aM qM (upd vM_45 11 y5_45)) := hD
      refine lv_bipush (v := -100) hx hb dX9_heir_77 (by decide) ?_
      cases hok
      subst hQe; exact W.iret hx hb hr (fun t ht hW => ⟨⟨_, (), rfl, rfl, by rw [ht]; exact hP, va_K.moved hW.alike hK, hD⟩, hS.F ht⟩) hS.2.2 dX9_heir_79
    · have hok := k_pos c47 hok
      refine lv_iload hx hb dX9_heir_50 (lv_at hl 4 rfl) ?_
      refine lv_if_eq (tgt := 64) hx hb dX9_heir_52 (by decide) (fun c52 => ?_) (fun c52 => ?_)
      · have hok := k_pos c52 hok
        refine lv_iload_n hx hb dX9_heir_64 rfl (lv_at hl 1 rfl) ?_
        refine lv_iload_n hx hb dX9_heir_65 rfl (lv_at hl 2 rfl) ?_
        refine lv_iload_n hx hb dX9_heir_66 rfl (lv_at hl 3 rfl) ?_
        obtain ⟨r67, hc67, hok⟩ := k_bind hok
        refine kCi (wc := (wX9_heirOf cy )) (wc2 := (wX9_heirOf cy )) (wr := [(aM, oX9 vM_45 qM)]) (ws2 := (wX9_heir cy aM qM vM_45)) (kRunS (As := [.int x1, .int x2, .int x3]) (rest := []) ⟨hx, hb, hml, hown, ht0⟩ (kX9_heirOf l D cy _ x1 x2 x3 r67 hc67 _ rfl) (va_cwS 3 ht0 (gS wd1000 wd1001 wd744 wd1002) rfl rfl rfl (by decide +kernel) ⟨Nat.le_of_ble_eq_true rfl, Nat.le_of_ble_eq_true rfl⟩) hK hN hP hD [] rfl (by decide) rfl hl.1 rfl (Nat.le_of_ble_eq_true rfl) dX9_heir_67 ⟨Nat.zero_le _, Nat.zero_le _⟩) hP hD hS hA [] [0] rfl rfl (by decide) (by decide) [0] (by decide) rfl rfl (fun H locs hP hD hS => ?_)
        exact J70 r67 vM_45 H locs ls hP hD hS (lv_sub hl [] rfl) hok
      · have hok := k_neg c52 hok
        refine lv_iload_n hx hb dX9_heir_55 rfl (lv_at hl 1 rfl) ?_
        refine lv_iload_n hx hb dX9_heir_56 rfl (lv_at hl 3 rfl) ?_
        refine lv_iload_n hx hb dX9_heir_57 rfl (lv_at hl 2 rfl) ?_
        obtain ⟨r58, hc58, hok⟩ := k_bind hok
        refine kCi (wc := (wX9_heirOf cy )) (wc2 := (wX9_heirOf cy )) (wr := [(aM, oX9 vM_45 qM)]) (ws2 := (wX9_heir cy aM qM vM_45)) (kRunS (As := [.int x1, .int x3, .int x2]) (rest := []) ⟨hx, hb, hml, hown, ht0⟩ (kX9_heirOf l D cy _ x1 x3 x2 r58 hc58 _ rfl) (va_cwS 3 ht0 (gS wd1000 wd1001 wd744 wd1002) rfl rfl rfl (by decide +kernel) ⟨Nat.le_of_ble_eq_true rfl, Nat.le_of_ble_eq_true rfl⟩) hK hN hP hD [] rfl (by decide) rfl hl.1 rfl (Nat.le_of_ble_eq_true rfl) dX9_heir_58 ⟨Nat.zero_le _, Nat.zero_le _⟩) hP hD hS hA [] [0] rfl rfl (by decide) (by decide) [0] (by decide) rfl rfl (fun H locs hP hD hS => ?_)
        refine lv_goto (tgt := 70) hx hb dX9_heir_61 (by decide) ?_
        exact J70 r58 vM_45 H locs ls hP hD hS (lv_sub hl [] rfl) hok
  have J42 : ∀ (vM_42 : Nat → Int32), ∀ (H : Heap) (locs : List Loc) (ls : Array Slot), va_P D vwCl (wX9_heir cy aM qM vM_42) H → va_D A (wX9_heir cy aM qM vM_42) → va_S A s.heap H locs → lv_has ls 6 [(0, .ref aM), (1, .int x1), (2, .int x2), (3, .int x3), (4, .int x4)] → fX9_heir_J42 x1 x2 x3 x4 vM_42 = some (zr, z_vM) → W p l e ({ frames := 2, cells := 0, slots := 0, locals := 45 } : Room) s m ([.ref aM, .int x1, .int x2, .int x3, .int x4] : List Value).toArray below meth c H locs 0 0 Q (F0 m 42 ls []) := by
    intro vM_42 H locs ls hP hD hS hl hok
    unfold fX9_heir_J42 at hok
    refine lv_iconst (v := 2) hx hb dX9_heir_42 (by decide) ?_
    refine lv_istore (lv' := [(5, .int 2), (0, .ref aM), (1, .int x1), (2, .int x2), (3, .int x3), (4, .int x4)]) hx hb dX9_heir_43 hl (by decide) rfl (fun ls hl => ?_)
    exact J45 (2 : Int32) vM_42 H locs ls hP hD hS (lv_sub hl [1, 2, 3, 4, 5, 0] rfl) hok
  unfold fX9_heir at hok
  obtain ⟨H, hH⟩ : ∃ H, H = s.heap := ⟨_, rfl⟩
  obtain ⟨locs, hlc⟩ : ∃ x : List Loc, x = [] := ⟨_, rfl⟩
  have hP : va_P D vwCl (wX9_heir cy aM qM vM) H := by rw [hH]; exact hP
  have hS : va_S A s.heap H locs := by rw [hH, hlc]; exact hS
  rw [show W p l e _ s m _ below meth c s.heap [] = W p l e _ s m _ below meth c H locs from by rw [hH, hlc]]
  refine lv_aload_n hx hb dX9_heir_0 rfl (lv_at hl 0 rfl) ?_
  obtain ⟨vM_1, hc1, hok⟩ := k_bind hok
  refine kCv (wc := (wX9_good cy aM qM vM)) (wc2 := (wX9_good cy aM qM vM_1)) (wr := []) (ws2 := (wX9_heir cy aM qM vM_1)) (kRunV (As := []) (rest := []) ⟨hx, hb, hml, hown, ht0⟩ (kX9_good l D cy _ aM qM vM vM_1 hc1 _ rfl) (cwV 0 ht0 (gV wd870 wd871 wd872 wd744 wd873) rfl rfl rfl (by decide +kernel) ⟨Nat.le_of_ble_eq_true rfl, Nat.le_of_ble_eq_true rfl⟩) hK hN hP hD [0] rfl (by decide) 0 8 rfl rfl rfl hl.1 rfl (Nat.le_of_ble_eq_true rfl) dX9_heir_1 ⟨Nat.zero_le _, Nat.zero_le _⟩) hP hD hS hA [0] [] rfl rfl (by decide) (by decide) [0] (by decide) rfl rfl (fun H locs hP hD hS => ?_)
  refine lv_aload_n hx hb dX9_heir_4 rfl (lv_at hl 0 rfl) ?_
  refine lv_aload_n hx hb dX9_heir_5 rfl (lv_at hl 0 rfl) ?_
  refine va_get (D := D) (ci := 8) (v := .int (vM_1 14)) (C := RX9) (T := TX9) (N := 29) hx hb ht0 niX9 hown hK hP 0 rfl rfl 14 (by decide) (ht0 _ wd855) (fun _ h9 => h9) rfl dX9_heir_6 ?_
  refine lv_iload_n hx hb dX9_heir_9 rfl (lv_at hl 1 rfl) ?_
  refine lv_bipush (v := 99) hx hb dX9_heir_10 (by decide) ?_
  obtain ⟨r12, hc12, hok⟩ := k_bind hok
  refine kCi (wc := (wX9_why cy aM)) (wc2 := (wX9_why cy aM)) (wr := [(aM, oX9 vM_1 qM)]) (ws2 := (wX9_heir cy aM qM vM_1)) (kRunV (As := [.int (vM_1 14), .int x1, .int 99]) (rest := []) ⟨hx, hb, hml, hown, ht0⟩ (kX9_why l D cy _ aM (vM_1 14) x1 (99 : Int32) r12 hc12 _ rfl) (cwV 3 ht0 (gV wd944 wd945 wd946 wd744 wd947) rfl rfl rfl (by decide +kernel) ⟨Nat.le_of_ble_eq_true rfl, Nat.le_of_ble_eq_true rfl⟩) hK hN hP hD [] rfl (by decide) 0 8 rfl rfl rfl hl.1 rfl (Nat.le_of_ble_eq_true rfl) dX9_heir_12 ⟨Nat.zero_le _, Nat.zero_le _⟩) hP hD hS hA [] [0] rfl rfl (by decide) (by decide) [0] (by decide) rfl rfl (fun H locs hP hD hS => ?_)
  refine lv_istore (lv' := [(5, .int r12), (0, .ref aM), (1, .int x1), (2, .int x2), (3, .int x3), (4, .int x4)]) hx hb dX9_heir_15 hl (by decide) rfl (fun ls hl => ?_)
  refine lv_iload hx hb dX9_heir_17 (lv_at hl 0 rfl) ?_
  refine lv_if_ne (tgt := 45) hx hb dX9_heir_19 (by decide) (fun c19 => ?_) (fun c19 => ?_)
  · have hok := k_neg c19 hok
    exact J45 r12 vM_1 H locs ls hP hD hS (lv_sub hl [1, 2, 3, 4, 5, 0] rfl) hok
  · have hok := k_pos c19 hok
    refine lv_iload_n hx hb dX9_heir_22 rfl (lv_at hl 3 rfl) ?_
    refine lv_iconst (v := 0) hx hb dX9_heir_23 (by decide) ?_
    refine lv_bipush (v := 6) hx hb dX9_heir_24 (by decide) ?_
    obtain ⟨r26, hc26, hok⟩ := k_bind hok
    refine kCi (wc := (wX9_in cy )) (wc2 := (wX9_in cy )) (wr := [(aM, oX9 vM_1 qM)]) (ws2 := (wX9_heir cy aM qM vM_1)) (kRunS (As := [.int x2, .int 0, .int 6]) (rest := []) ⟨hx, hb, hml, hown, ht0⟩ (kX9_in l D cy _ x2 (0 : Int32) (6 : Int32) r26 hc26 _ rfl) (va_cwS 3 ht0 (gS wd787 wd788 wd744 wd789) rfl rfl rfl (by decide +kernel) ⟨Nat.le_of_ble_eq_true rfl, Nat.le_of_ble_eq_true rfl⟩) hK hN hP hD [] rfl (by decide) rfl hl.1 rfl (Nat.le_of_ble_eq_true rfl) dX9_heir_26 ⟨Nat.zero_le _, Nat.zero_le _⟩) hP hD hS hA [] [0] rfl rfl (by decide) (by decide) [0] (by decide) rfl rfl (fun H locs hP hD hS => ?_)
    refine lv_if_eq (tgt := 42) hx hb dX9_heir_29 (by decide) (fun c29 => ?_) (fun c29 => ?_)
    · have hok := k_pos c29 hok
      exact J42 vM_1 H locs ls hP hD hS (lv_sub hl [1, 2, 3, 4, 5] rfl) hok
    · have hok := k_neg c29 hok
      refine lv_iload_n hx hb dX9_heir_32 rfl (lv_at hl 4 rfl) ?_
      refine lv_iconst (v := 0) hx hb dX9_heir_33 (by decide) ?_
      refine lv_bipush (v := 6) hx hb dX9_heir_34 (by decide) ?_
      obtain ⟨r36, hc36, hok⟩ := k_bind hok
      refine kCi (wc := (wX9_in cy )) (wc2 := (wX9_in cy )) (wr := [(aM, oX9 vM_1 qM)]) (ws2 := (wX9_heir cy aM qM vM_1)) (kRunS (As := [.int x3, .int 0, .int 6]) (rest := []) ⟨hx, hb, hml, hown, ht0⟩ (kX9_in l D cy _ x3 (0 : Int32) (6 : Int32) r36 hc36 _ rfl) (va_cwS 3 ht0 (gS wd787 wd788 wd744 wd789) rfl rfl rfl (by decide +kernel) ⟨Nat.le_of_ble_eq_true rfl, Nat.le_of_ble_eq_true rfl⟩) hK hN hP hD [] rfl (by decide) rfl hl.1 rfl (Nat.le_of_ble_eq_true rfl) dX9_heir_36 ⟨Nat.zero_le _, Nat.zero_le _⟩) hP hD hS hA [] [0] rfl rfl (by decide) (by decide) [0] (by decide) rfl rfl (fun H locs hP hD hS => ?_)
      refine lv_if_ne (tgt := 45) hx hb dX9_heir_39 (by decide) (fun c39 => ?_) (fun c39 => ?_)
      · have hok := k_neg c39 hok
        exact J45 r12 vM_1 H locs ls hP hD hS (lv_sub hl [1, 2, 3, 4, 5, 0] rfl) hok
      · have hok := k_pos c39 hok
        exact J42 vM_1 H locs ls hP hD hS (lv_sub hl [1, 2, 3, 4, 5] rfl) hok
def wsX9_isRest : List Cond := .code yX9_isRest cX9_isRest 5 (some .boolean) :: W0
abbrev wX9_isRest (cy : Nat → ClassId)  : va_W := []
set_option maxHeartbeats 4000000 in
set_option maxRecDepth 100000 in
theorem kX9_isRest (l : Launch) (D : va_G) (cy : Nat → ClassId) (sz : Nat) (x0 : Int32) (x1 : Int32) (x2 : Int32) (zr : Int32) (hok : fX9_isRest x0 x1 x2 = some zr) (A : Nat → Prop) (hAe : va_A (wX9_isRest cy ) sz = A) : Met l yX9_isRest wsX9_isRest ({ frames := 1, cells := 0, slots := 0, locals := 22 } : Room) (kPre D cy [.int x0, .int x1, .int x2] (wX9_isRest cy ) sz) (kQi D cy zr A (wX9_isRest cy )) 0 0 A := by
  refine Met.ofW (cc := cX9_isRest) (maxL := 5) (ret := (some .boolean)) (by decide) rfl ?_
  intro p e s m args below meth c s₁ B hml hv
  obtain ⟨rfl, hsz, hP, hK, hD0, hN⟩ := hv
  have hx := B.exec
  have hb := B.bytes
  have hr := B.returns
  have ht0 : ∀ w ∈ W0, w.before _ s = true := fun w h => atoms_spec (ws := wsX9_isRest) B.pre w (List.mem_cons_of_mem _ h)
  have hown : s.vm.findClass RX9 = some m.cls := findClass_of_methodNamed B.named
  have hlocks := B.notSynchronized
  subst hsz
  have hD : va_D A (wX9_isRest cy ) := by rw [← hAe]; exact hD0.self
  have hA : ∀ q : Nat, s.heap.size ≤ q → A q := fun q h => by rw [← hAe]; exact Or.inr h
  have hS : va_S A s.heap s.heap [] := va_S.rf
  have hl := lv_entry ([.int x0, .int x1, .int x2]) (n := 5) (Nat.le_of_ble_eq_true rfl)
  rw [lg_entry_eq]
  generalize (lg_sl ([.int x0, .int x1, .int x2]) ++ List.replicate (5 - (lg_sl ([.int x0, .int x1, .int x2])).length) Slot.unset).toArray = ls at hl ⊢
  have hl : lv_has ls 5 [(0, .int x0), (1, .int x1), (2, .int x2)] := hl
  generalize hQe : MQ below (kQi D cy zr A (wX9_isRest cy )) ([.int x0, .int x1, .int x2] : List Value).toArray s 0 0 A = Q
  have L5 : ∀ (fuel : Nat) (y3_5 : Int32) (y4_5 : Int32), ∀ (H : Heap) (locs : List Loc) (ls : Array Slot), va_P D vwCl (wX9_isRest cy ) H → va_D A (wX9_isRest cy ) → va_S A s.heap H locs → lv_has ls 5 [(0, .int x0), (1, .int x1), (2, .int x2), (3, .int y3_5), (4, .int y4_5)] → lp (fX9_isRest_B5 x0 x1 x2) fuel (y3_5, y4_5) = some zr → W p l e ({ frames := 1, cells := 0, slots := 0, locals := 22 } : Room) s m ([.int x0, .int x1, .int x2] : List Value).toArray below meth c H locs 0 0 Q (F0 m 5 ls []) := by
    intro fuel
    induction fuel with
    | zero => intro y3_5 y4_5 H locs ls hP hD hS hl hok; exact (lp_0 hok).elim
    | succ fuel ih5 =>
      intro y3_5 y4_5 H locs ls hP hD hS hl hok
      obtain ⟨y5, hok, hL5, hR5⟩ := lp_step hok
      have J53 : ∀ (t0_53 : Int32), ∀ (H : Heap) (locs : List Loc) (ls : Array Slot), va_P D vwCl (wX9_isRest cy ) H → va_D A (wX9_isRest cy ) → va_S A s.heap H locs → lv_has ls 5 [(0, .int x0), (1, .int x1), (2, .int x2), (4, .int y4_5)] → fX9_isRest_J53 y4_5 t0_53 = some y5 → W p l e ({ frames := 1, cells := 0, slots := 0, locals := 22 } : Room) s m ([.int x0, .int x1, .int x2] : List Value).toArray below meth c H locs 0 0 Q (F0 m 53 ls [.int t0_53]) := by
        intro t0_53 H locs ls hP hD hS hl hok
        unfold fX9_isRest_J53 at hok
        refine lv_istore_n (lv' := [(3, .int t0_53), (0, .int x0), (1, .int x1), (2, .int x2), (4, .int y4_5)]) hx hb dX9_isRest_53 rfl hl (by decide) rfl (fun ls hl => ?_)
        refine lv_iinc (v := (y4_5 + 1)) (lv' := [(4, .int (y4_5 + 1)), (3, .int t0_53), (0, .int x0), (1, .int x1), (2, .int x2)]) hx hb dX9_isRest_54 hl (k := 4) rfl (by first | rfl | decide) (by decide) rfl (fun ls hl => ?_)
        refine lv_goto (tgt := 5) hx hb dX9_isRest_57 (by decide) ?_
        exact ih5 t0_53 (y4_5 + 1) H locs ls hP hD hS (lv_sub hl [2, 3, 4, 1, 0] rfl) (hR5 _ (Option.some.inj hok).symm)
      have J52 : ∀ (H : Heap) (locs : List Loc) (ls : Array Slot), va_P D vwCl (wX9_isRest cy ) H → va_D A (wX9_isRest cy ) → va_S A s.heap H locs → lv_has ls 5 [(0, .int x0), (1, .int x1), (2, .int x2), (4, .int y4_5)] → fX9_isRest_J52 y4_5 = some y5 → W p l e ({ frames := 1, cells := 0, slots := 0, locals := 22 } : Room) s m ([.int x0, .int x1, .int x2] : List Value).toArray below meth c H locs 0 0 Q (F0 m 52 ls []) := by
        intro  H locs ls hP hD hS hl hok
        unfold fX9_isRest_J52 at hok
        refine lv_iconst (v := 0) hx hb dX9_isRest_52 (by decide) ?_
        exact J53 (0 : Int32) H locs ls hP hD hS (lv_sub hl [0, 1, 2, 3] rfl) hok
      unfold fX9_isRest_B5 at hok
      try dsimp only at hok
      refine lv_iload hx hb dX9_isRest_5 (lv_at hl 4 rfl) ?_
      refine lv_bipush (v := 6) hx hb dX9_isRest_7 (by decide) ?_
      refine lv_icmp_gt (tgt := 60) hx hb dX9_isRest_9 (by decide) (fun c9 => ?_) (fun c9 => ?_)
      · have hok := k_pos c9 hok
        obtain ⟨e5, hok, he5⟩ := ex_some hok
        have hok := hok.trans (congrArg some (hL5 _ he5))
        refine lv_iload_n hx hb dX9_isRest_60 rfl (lv_at hl 3 rfl) ?_
        obtain ⟨g61, hok⟩ := gd_some hok
        cases hok
        subst hQe; exact W.zret hx hb hr (isB_nar g61) (fun t ht hW => ⟨⟨_, (), rfl, rfl, by rw [ht]; exact hP, va_K.moved hW.alike hK, hD⟩, hS.F ht⟩) hS.2.2 dX9_isRest_61
      · have hok := k_neg c9 hok
        refine lv_iload_n hx hb dX9_isRest_12 rfl (lv_at hl 3 rfl) ?_
        refine lv_if_eq (tgt := 52) hx hb dX9_isRest_13 (by decide) (fun c13 => ?_) (fun c13 => ?_)
        · have hok := k_pos c13 hok
          exact J52  H locs ls hP hD hS (lv_sub hl [0, 1, 2, 4] rfl) hok
        · have hok := k_neg c13 hok
          refine lv_iload_n hx hb dX9_isRest_16 rfl (lv_at hl 0 rfl) ?_
          refine lv_iload hx hb dX9_isRest_17 (lv_at hl 4 rfl) ?_
          refine lv_iload_n hx hb dX9_isRest_19 rfl (lv_at hl 2 rfl) ?_
          obtain ⟨r20, hc20, hok⟩ := k_bind hok
          refine kCi (wc := (wX9_heirOf cy )) (wc2 := (wX9_heirOf cy )) (wr := []) (ws2 := (wX9_isRest cy )) (kRunS (As := [.int x0, .int y4_5, .int x2]) (rest := []) ⟨hx, hb, hml, hown, ht0⟩ (kX9_heirOf l D cy _ x0 y4_5 x2 r20 hc20 _ rfl) (va_cwS 3 ht0 (gS wd1000 wd1001 wd744 wd1002) rfl rfl rfl (by decide +kernel) ⟨Nat.le_of_ble_eq_true rfl, Nat.le_of_ble_eq_true rfl⟩) hK hN hP hD [] rfl (by decide) rfl hl.1 rfl (Nat.le_of_ble_eq_true rfl) dX9_isRest_20 ⟨Nat.zero_le _, Nat.zero_le _⟩) hP hD hS hA [] [] rfl rfl (by decide) (by decide) [] (by decide) rfl rfl (fun H locs hP hD hS => ?_)
          refine lv_iload_n hx hb dX9_isRest_23 rfl (lv_at hl 0 rfl) ?_
          refine lv_iload_n hx hb dX9_isRest_24 rfl (lv_at hl 1 rfl) ?_
          refine lv_iload_n hx hb dX9_isRest_25 rfl (lv_at hl 2 rfl) ?_
          obtain ⟨r26, hc26, hok⟩ := k_bind hok
          refine kCi (wc := (wX9_heirOf cy )) (wc2 := (wX9_heirOf cy )) (wr := []) (ws2 := (wX9_isRest cy )) (kRunS (As := [.int x0, .int x1, .int x2]) (rest := [.int r20]) ⟨hx, hb, hml, hown, ht0⟩ (kX9_heirOf l D cy _ x0 x1 x2 r26 hc26 _ rfl) (va_cwS 3 ht0 (gS wd1000 wd1001 wd744 wd1002) rfl rfl rfl (by decide +kernel) ⟨Nat.le_of_ble_eq_true rfl, Nat.le_of_ble_eq_true rfl⟩) hK hN hP hD [] rfl (by decide) rfl hl.1 rfl (Nat.le_of_ble_eq_true rfl) dX9_isRest_26 ⟨Nat.zero_le _, Nat.zero_le _⟩) hP hD hS hA [] [] rfl rfl (by decide) (by decide) [] (by decide) rfl rfl (fun H locs hP hD hS => ?_)
          refine lv_icmp_gt (tgt := 52) hx hb dX9_isRest_29 (by decide) (fun c29 => ?_) (fun c29 => ?_)
          · have hok := k_pos c29 hok
            exact J52  H locs ls hP hD hS (lv_sub hl [0, 1, 2, 4] rfl) hok
          · have hok := k_neg c29 hok
            refine lv_iload_n hx hb dX9_isRest_32 rfl (lv_at hl 0 rfl) ?_
            refine lv_iload hx hb dX9_isRest_33 (lv_at hl 4 rfl) ?_
            refine lv_iload_n hx hb dX9_isRest_35 rfl (lv_at hl 1 rfl) ?_
            obtain ⟨r36, hc36, hok⟩ := k_bind hok
            refine kCi (wc := (wX9_heirOf cy )) (wc2 := (wX9_heirOf cy )) (wr := []) (ws2 := (wX9_isRest cy )) (kRunS (As := [.int x0, .int y4_5, .int x1]) (rest := []) ⟨hx, hb, hml, hown, ht0⟩ (kX9_heirOf l D cy _ x0 y4_5 x1 r36 hc36 _ rfl) (va_cwS 3 ht0 (gS wd1000 wd1001 wd744 wd1002) rfl rfl rfl (by decide +kernel) ⟨Nat.le_of_ble_eq_true rfl, Nat.le_of_ble_eq_true rfl⟩) hK hN hP hD [] rfl (by decide) rfl hl.1 rfl (Nat.le_of_ble_eq_true rfl) dX9_isRest_36 ⟨Nat.zero_le _, Nat.zero_le _⟩) hP hD hS hA [] [] rfl rfl (by decide) (by decide) [] (by decide) rfl rfl (fun H locs hP hD hS => ?_)
            refine lv_iload_n hx hb dX9_isRest_39 rfl (lv_at hl 0 rfl) ?_
            refine lv_iload_n hx hb dX9_isRest_40 rfl (lv_at hl 2 rfl) ?_
            refine lv_iload_n hx hb dX9_isRest_41 rfl (lv_at hl 1 rfl) ?_
            obtain ⟨r42, hc42, hok⟩ := k_bind hok
            refine kCi (wc := (wX9_heirOf cy )) (wc2 := (wX9_heirOf cy )) (wr := []) (ws2 := (wX9_isRest cy )) (kRunS (As := [.int x0, .int x2, .int x1]) (rest := [.int r36]) ⟨hx, hb, hml, hown, ht0⟩ (kX9_heirOf l D cy _ x0 x2 x1 r42 hc42 _ rfl) (va_cwS 3 ht0 (gS wd1000 wd1001 wd744 wd1002) rfl rfl rfl (by decide +kernel) ⟨Nat.le_of_ble_eq_true rfl, Nat.le_of_ble_eq_true rfl⟩) hK hN hP hD [] rfl (by decide) rfl hl.1 rfl (Nat.le_of_ble_eq_true rfl) dX9_isRest_42 ⟨Nat.zero_le _, Nat.zero_le _⟩) hP hD hS hA [] [] rfl rfl (by decide) (by decide) [] (by decide) rfl rfl (fun H locs hP hD hS => ?_)
            refine lv_icmp_gt (tgt := 52) hx hb dX9_isRest_45 (by decide) (fun c45 => ?_) (fun c45 => ?_)
            · have hok := k_pos c45 hok
              exact J52  H locs ls hP hD hS (lv_sub hl [0, 1, 2, 4] rfl) hok
            · have hok := k_neg c45 hok
              refine lv_iconst (v := 1) hx hb dX9_isRest_48 (by decide) ?_
              refine lv_goto (tgt := 53) hx hb dX9_isRest_49 (by decide) ?_
              exact J53 (1 : Int32) H locs ls hP hD hS (lv_sub hl [0, 1, 2, 4] rfl) hok
  unfold fX9_isRest at hok
  obtain ⟨H, hH⟩ : ∃ H, H = s.heap := ⟨_, rfl⟩
  obtain ⟨locs, hlc⟩ : ∃ x : List Loc, x = [] := ⟨_, rfl⟩
  have hP : va_P D vwCl (wX9_isRest cy ) H := by rw [hH]; exact hP
  have hS : va_S A s.heap H locs := by rw [hH, hlc]; exact hS
  rw [show W p l e _ s m _ below meth c s.heap [] = W p l e _ s m _ below meth c H locs from by rw [hH, hlc]]
  refine lv_iconst (v := 1) hx hb dX9_isRest_0 (by decide) ?_
  refine lv_istore_n (lv' := [(3, .int 1), (0, .int x0), (1, .int x1), (2, .int x2)]) hx hb dX9_isRest_1 rfl hl (by decide) rfl (fun ls hl => ?_)
  refine lv_iconst (v := 0) hx hb dX9_isRest_2 (by decide) ?_
  refine lv_istore (lv' := [(4, .int 0), (3, .int 1), (0, .int x0), (1, .int x1), (2, .int x2)]) hx hb dX9_isRest_3 hl (by decide) rfl (fun ls hl => ?_)
  exact L5 5000 (1 : Int32) (0 : Int32) H locs ls hP hD hS (lv_sub hl [2, 3, 4, 1, 0] rfl) hok
