def wsX9_putFor : List Cond := .code yX9_putFor cX9_putFor 8 (some .int) :: W0
abbrev wX9_putFor (cy : Nat → ClassId) (aM : Nat) (qM : Nat → Nat) (vM : Nat → Int32) (vM_r : Nat → Int32) (vM_st : Nat → Int32) (vM_trial : Nat → Int32) : va_W := [(aM, oX9 vM qM), (qM 15, rI cy 224 vM_r), (qM 17, rI cy 9 vM_st), (qM 22, rI cy 9 vM_trial)]
set_option maxHeartbeats 4000000 in
set_option maxRecDepth 100000 in
theorem kX9_putFor (l : Launch) (D : va_G) (cy : Nat → ClassId) (sz : Nat) (aM : Nat) (qM : Nat → Nat) (vM : Nat → Int32) (vM_r : Nat → Int32) (vM_st : Nat → Int32) (vM_trial : Nat → Int32) (x1 : Int32) (x2 : Int32) (x3 : Int32) (zr : Int32) (z_vM : Nat → Int32) (z_vM_trial : Nat → Int32) (hok : fX9_putFor vM vM_r vM_st vM_trial x1 x2 x3 = some (zr, z_vM, z_vM_trial)) (A : Nat → Prop) (hAe : va_A (wX9_putFor cy aM qM vM vM_r vM_st vM_trial) sz = A) : Met l yX9_putFor wsX9_putFor ({ frames := 5, cells := 0, slots := 0, locals := 114 } : Room) (kPre D cy [.ref aM, .int x1, .int x2, .int x3] (wX9_putFor cy aM qM vM vM_r vM_st vM_trial) sz) (kQi D cy zr A (wX9_putFor cy aM qM z_vM vM_r vM_st z_vM_trial)) 0 0 A := by
  refine Met.ofW (cc := cX9_putFor) (maxL := 8) (ret := (some .int)) (by decide) rfl ?_
  intro p e s m args below meth c s₁ B hml hv
  obtain ⟨rfl, hsz, hP, hK, hD0, hN⟩ := hv
  have hx := B.exec
  have hb := B.bytes
  have hr := B.returns
  have ht0 : ∀ w ∈ W0, w.before _ s = true := fun w h => atoms_spec (ws := wsX9_putFor) B.pre w (List.mem_cons_of_mem _ h)
  have hown : s.vm.findClass RX9 = some m.cls := findClass_of_methodNamed B.named
  have hlocks := B.notSynchronized
  subst hsz
  have hD : va_D A (wX9_putFor cy aM qM vM vM_r vM_st vM_trial) := by rw [← hAe]; exact hD0.self
  have hA : ∀ q : Nat, s.heap.size ≤ q → A q := fun q h => by rw [← hAe]; exact Or.inr h
  have hS : va_S A s.heap s.heap [] := va_S.rf
  have hl := lv_entry ([.ref aM, .int x1, .int x2, .int x3]) (n := 8) (Nat.le_of_ble_eq_true rfl)
  rw [lg_entry_eq]
  generalize (lg_sl ([.ref aM, .int x1, .int x2, .int x3]) ++ List.replicate (8 - (lg_sl ([.ref aM, .int x1, .int x2, .int x3])).length) Slot.unset).toArray = ls at hl ⊢
  have hl : lv_has ls 8 [(0, .ref aM), (1, .int x1), (2, .int x2), (3, .int x3)] := hl
  generalize hQe : MQ below (kQi D cy zr A (wX9_putFor cy aM qM z_vM vM_r vM_st z_vM_trial)) ([.ref aM, .int x1, .int x2, .int x3] : List Value).toArray s 0 0 A = Q
  have L65 : ∀ (fuel : Nat) (y5_65 : Int32) (vM_trial_65 : Nat → Int32) (vM_65 : Nat → Int32), ∀ (H : Heap) (locs : List Loc) (ls : Array Slot), va_P D vwCl (wX9_putFor cy aM qM vM_65 vM_r vM_st vM_trial_65) H → va_D A (wX9_putFor cy aM qM vM_65 vM_r vM_st vM_trial_65) → va_S A s.heap H locs → lv_has ls 8 [(0, .ref aM), (1, .int x1), (2, .int x2), (3, .int x3), (4, .int ((vM_st x1.toNatClampNeg) / (9 : Int32))), (5, .int y5_65)] → lp (fX9_putFor_B65 vM_r vM_st x1 x2 x3) fuel (y5_65, vM_trial_65, vM_65) = some (zr, z_vM, z_vM_trial) → W p l e ({ frames := 5, cells := 0, slots := 0, locals := 114 } : Room) s m ([.ref aM, .int x1, .int x2, .int x3] : List Value).toArray below meth c H locs 0 0 Q (F0 m 65 ls []) := by
    intro fuel
    induction fuel with
    | zero => intro y5_65 vM_trial_65 vM_65 H locs ls hP hD hS hl hok; exact (lp_0 hok).elim
    | succ fuel ih65 =>
      intro y5_65 vM_trial_65 vM_65 H locs ls hP hD hS hl hok
      obtain ⟨y65, hok, hL65, hR65⟩ := lp_step hok
      have J169 : ∀ (vM_trial_169 : Nat → Int32), ∀ (H : Heap) (locs : List Loc) (ls : Array Slot), va_P D vwCl (wX9_putFor cy aM qM vM_65 vM_r vM_st vM_trial_169) H → va_D A (wX9_putFor cy aM qM vM_65 vM_r vM_st vM_trial_169) → va_S A s.heap H locs → lv_has ls 8 [(0, .ref aM), (1, .int x1), (2, .int x2), (3, .int x3), (4, .int ((vM_st x1.toNatClampNeg) / (9 : Int32))), (5, .int y5_65)] → fX9_putFor_J169 y5_65 vM_65 vM_trial_169 = some y65 → W p l e ({ frames := 5, cells := 0, slots := 0, locals := 114 } : Room) s m ([.ref aM, .int x1, .int x2, .int x3] : List Value).toArray below meth c H locs 0 0 Q (F0 m 169 ls []) := by
        intro vM_trial_169 H locs ls hP hD hS hl hok
        unfold fX9_putFor_J169 at hok
        refine lv_iinc (v := (y5_65 + 1)) (lv' := [(5, .int (y5_65 + 1)), (0, .ref aM), (1, .int x1), (2, .int x2), (3, .int x3), (4, .int ((vM_st x1.toNatClampNeg) / (9 : Int32)))]) hx hb dX9_putFor_169 hl (k := 5) rfl (by first | rfl | decide) (by decide) rfl (fun ls hl => ?_)
        refine lv_goto (tgt := 65) hx hb dX9_putFor_172 (by decide) ?_
        exact ih65 (y5_65 + 1) vM_trial_169 vM_65 H locs ls hP hD hS (lv_sub hl [1, 2, 3, 4, 5, 0] rfl) (hR65 _ (Option.some.inj hok).symm)
      have L129 : ∀ (fuel : Nat) (y7_129 : Int32) (vM_trial_129 : Nat → Int32), ∀ (H : Heap) (locs : List Loc) (ls : Array Slot), va_P D vwCl (wX9_putFor cy aM qM vM_65 vM_r vM_st vM_trial_129) H → va_D A (wX9_putFor cy aM qM vM_65 vM_r vM_st vM_trial_129) → va_S A s.heap H locs → lv_has ls 8 [(0, .ref aM), (1, .int x1), (2, .int x2), (3, .int x3), (4, .int ((vM_st x1.toNatClampNeg) / (9 : Int32))), (5, .int y5_65), (7, .int y7_129)] → lp (fX9_putFor_B129 vM_r vM_st x1 x2 x3 y5_65 vM_65) fuel (y7_129, vM_trial_129) = some y65 → W p l e ({ frames := 5, cells := 0, slots := 0, locals := 114 } : Room) s m ([.ref aM, .int x1, .int x2, .int x3] : List Value).toArray below meth c H locs 0 0 Q (F0 m 129 ls []) := by
        intro fuel
        induction fuel with
        | zero => intro y7_129 vM_trial_129 H locs ls hP hD hS hl hok; exact (lp_0 hok).elim
        | succ fuel ih129 =>
          intro y7_129 vM_trial_129 H locs ls hP hD hS hl hok
          obtain ⟨y129, hok, hL129, hR129⟩ := lp_step hok
          unfold fX9_putFor_B129 at hok
          try dsimp only at hok
          refine lv_iload hx hb dX9_putFor_129 (lv_at hl 6 rfl) ?_
          refine lv_iload_n hx hb dX9_putFor_131 rfl (lv_at hl 3 rfl) ?_
          refine lv_icmp_ge (tgt := 150) hx hb dX9_putFor_132 (by decide) (fun c132 => ?_) (fun c132 => ?_)
          · have hok := k_pos c132 hok
            obtain ⟨e129, hok, he129⟩ := ex_some hok
            have hok := hok.trans (congrArg some (hL129 _ he129))
            refine lv_aload_n hx hb dX9_putFor_150 rfl (lv_at hl 0 rfl) ?_
            refine va_get (D := D) (ci := 8) (v := .ref (qM 22)) (C := RX9) (T := TX9) (N := 29) hx hb ht0 niX9 hown hK hP 0 rfl rfl 22 (by decide) (ht0 _ wd921) (fun _ h9 => h9) rfl dX9_putFor_151 ?_
            refine lv_iload_n hx hb dX9_putFor_154 rfl (lv_at hl 1 rfl) ?_
            obtain ⟨g155, hok⟩ := gd_some hok
            refine va_iald hx hb hK hP 3 0 rfl rfl (okI_in g155) dX9_putFor_155 ?_
            refine lv_bipush (v := 9) hx hb dX9_putFor_156 (by decide) ?_
            refine lv_iload hx hb dX9_putFor_158 (lv_at hl 4 rfl) ?_
            refine lv_imul hx hb dX9_putFor_160 ?_
            refine lv_iload_n hx hb dX9_putFor_161 rfl (lv_at hl 2 rfl) ?_
            refine lv_iadd hx hb dX9_putFor_162 ?_
            refine lv_icmp_ne (tgt := 169) hx hb dX9_putFor_163 (by decide) (fun c163 => ?_) (fun c163 => ?_)
            · have hok := k_neg c163 hok
              exact J169 vM_trial_129 H locs ls hP hD hS (lv_sub hl [0, 1, 2, 3, 4, 5] rfl) hok
            · have hok := k_pos c163 hok
              obtain ⟨e65, hok, he65⟩ := ex_some hok
              have hok := hok.trans (congrArg some (hL65 _ he65))
              refine lv_iload hx hb dX9_putFor_166 (lv_at hl 5 rfl) ?_
              cases hok
              subst hQe; exact W.iret hx hb hr (fun t ht hW => ⟨⟨_, (), rfl, rfl, by rw [ht]; exact hP, va_K.moved hW.alike hK, hD⟩, hS.F ht⟩) hS.2.2 dX9_putFor_168
          · have hok := k_neg c132 hok
            refine lv_aload_n hx hb dX9_putFor_135 rfl (lv_at hl 0 rfl) ?_
            refine lv_aload_n hx hb dX9_putFor_136 rfl (lv_at hl 0 rfl) ?_
            refine va_get (D := D) (ci := 8) (v := .ref (qM 22)) (C := RX9) (T := TX9) (N := 29) hx hb ht0 niX9 hown hK hP 0 rfl rfl 22 (by decide) (ht0 _ wd921) (fun _ h9 => h9) rfl dX9_putFor_137 ?_
            obtain ⟨⟨r140, p1_140⟩, hc140, hok⟩ := k_bind hok
            try dsimp only at hok
            refine kCi (wc := (wX9_nightOf cy aM (qM 22) qM vM_65 vM_r 9 vM_trial_129)) (wc2 := (wX9_nightOf cy aM (qM 22) qM vM_65 vM_r 9 p1_140)) (wr := [(qM 17, rI cy 9 vM_st)]) (ws2 := (wX9_putFor cy aM qM vM_65 vM_r vM_st p1_140)) (kRunV (As := [.ref (qM 22)]) (rest := []) ⟨hx, hb, hml, hown, ht0⟩ (kX9_nightOf l D cy _ aM (qM 22) qM vM_65 vM_r 9 vM_trial_129 r140 p1_140 hc140 _ rfl) (cwV 1 ht0 (gV wd940 wd941 wd942 wd744 wd943) rfl rfl rfl (by decide +kernel) ⟨Nat.le_of_ble_eq_true rfl, Nat.le_of_ble_eq_true rfl⟩) hK hN hP hD [0, 1, 3] rfl (by decide) 0 8 rfl rfl rfl hl.1 rfl (Nat.le_of_ble_eq_true rfl) dX9_putFor_140 ⟨Nat.zero_le _, Nat.zero_le _⟩) hP hD hS hA [0, 1, 3] [2] rfl rfl (by decide) (by decide) [1, 2, 0, 3] (by decide) rfl rfl (fun H locs hP hD hS => ?_)
            refine lv_pop hx hb dX9_putFor_143 rfl ?_
            refine lv_iinc (v := (y7_129 + 1)) (lv' := [(7, .int (y7_129 + 1)), (0, .ref aM), (1, .int x1), (2, .int x2), (3, .int x3), (4, .int ((vM_st x1.toNatClampNeg) / (9 : Int32))), (5, .int y5_65)]) hx hb dX9_putFor_144 hl (k := 6) rfl (by first | rfl | decide) (by decide) rfl (fun ls hl => ?_)
            refine lv_goto (tgt := 129) hx hb dX9_putFor_147 (by decide) ?_
            exact ih129 (y7_129 + 1) p1_140 H locs ls hP hD hS (lv_sub hl [1, 2, 3, 4, 5, 6, 0] rfl) (hR129 _ (Option.some.inj hok).symm)
      have J108 : ∀ (H : Heap) (locs : List Loc) (ls : Array Slot), va_P D vwCl (wX9_putFor cy aM qM vM_65 vM_r vM_st vM_trial_65) H → va_D A (wX9_putFor cy aM qM vM_65 vM_r vM_st vM_trial_65) → va_S A s.heap H locs → lv_has ls 8 [(0, .ref aM), (1, .int x1), (2, .int x2), (3, .int x3), (4, .int ((vM_st x1.toNatClampNeg) / (9 : Int32))), (5, .int y5_65)] → fX9_putFor_J108 vM_r vM_st x1 x2 x3 y5_65 vM_trial_65 vM_65 = some y65 → W p l e ({ frames := 5, cells := 0, slots := 0, locals := 114 } : Room) s m ([.ref aM, .int x1, .int x2, .int x3] : List Value).toArray below meth c H locs 0 0 Q (F0 m 108 ls []) := by
        intro  H locs ls hP hD hS hl hok
        unfold fX9_putFor_J108 at hok
        refine lv_aload_n hx hb dX9_putFor_108 rfl (lv_at hl 0 rfl) ?_
        obtain ⟨vM_trial_109, hc109, hok⟩ := k_bind hok
        refine kCv (wc := (wX9_begin cy aM qM vM_65 vM_st vM_trial_65)) (wc2 := (wX9_begin cy aM qM vM_65 vM_st vM_trial_109)) (wr := [(qM 15, rI cy 224 vM_r)]) (ws2 := (wX9_putFor cy aM qM vM_65 vM_r vM_st vM_trial_109)) (kRunV (As := []) (rest := []) ⟨hx, hb, hml, hown, ht0⟩ (kX9_begin l D cy _ aM qM vM_65 vM_st vM_trial_65 vM_trial_109 hc109 _ rfl) (cwV 0 ht0 (gV wd948 wd949 wd950 wd744 wd951) rfl rfl rfl (by decide +kernel) ⟨Nat.le_of_ble_eq_true rfl, Nat.le_of_ble_eq_true rfl⟩) hK hN hP hD [0, 2, 3] rfl (by decide) 0 8 rfl rfl rfl hl.1 rfl (Nat.le_of_ble_eq_true rfl) dX9_putFor_109 ⟨Nat.zero_le _, Nat.zero_le _⟩) hP hD hS hA [0, 2, 3] [1] rfl rfl (by decide) (by decide) [1, 0, 2, 3] (by decide) rfl rfl (fun H locs hP hD hS => ?_)
        refine lv_aload_n hx hb dX9_putFor_112 rfl (lv_at hl 0 rfl) ?_
        refine va_get (D := D) (ci := 8) (v := .ref (qM 22)) (C := RX9) (T := TX9) (N := 29) hx hb ht0 niX9 hown hK hP 0 rfl rfl 22 (by decide) (ht0 _ wd921) (fun _ h9 => h9) rfl dX9_putFor_113 ?_
        refine lv_iload_n hx hb dX9_putFor_116 rfl (lv_at hl 1 rfl) ?_
        refine lv_bipush (v := 9) hx hb dX9_putFor_117 (by decide) ?_
        refine lv_iload hx hb dX9_putFor_119 (lv_at hl 4 rfl) ?_
        refine lv_imul hx hb dX9_putFor_121 ?_
        refine lv_iload hx hb dX9_putFor_122 (lv_at hl 5 rfl) ?_
        refine lv_iadd hx hb dX9_putFor_124 ?_
        obtain ⟨g125, hok⟩ := gd_some hok
        refine va_iast hx hb hK hP hD hS 3 0 rfl rfl (okI_in g125) dX9_putFor_125 (fun H locs hP hD hS => ?_)
        have hP : va_P D vwCl (wX9_putFor cy aM qM vM_65 vM_r vM_st (upd vM_trial_109 x1.toNatClampNeg (((9 : Int32) * ((vM_st x1.toNatClampNeg) / (9 : Int32))) + y5_65))) H := hP
        have hD : va_D A (wX9_putFor cy aM qM vM_65 vM_r vM_st (upd vM_trial_109 x1.toNatClampNeg (((9 : Int32) * ((vM_st x1.toNatClampNeg) / (9 : Int32))) + y5_65))) := hD
        refine lv_iconst (v := 0) hx hb dX9_putFor_126 (by decide) ?_
        refine lv_istore (lv' := [(7, .int 0), (0, .ref aM), (1, .int x1), (2, .int x2), (3, .int x3), (4, .int ((vM_st x1.toNatClampNeg) / (9 : Int32))), (5, .int y5_65)]) hx hb dX9_putFor_127 hl (by decide) rfl (fun ls hl => ?_)
        exact L129 5000 (0 : Int32) (upd vM_trial_109 x1.toNatClampNeg (((9 : Int32) * ((vM_st x1.toNatClampNeg) / (9 : Int32))) + y5_65)) H locs ls hP hD hS (lv_sub hl [1, 2, 3, 4, 5, 6, 0] rfl) hok
      unfold fX9_putFor_B65 at hok
      try dsimp only at hok
      refine lv_iload hx hb dX9_putFor_65 (lv_at hl 5 rfl) ?_
      refine lv_aload_n hx hb dX9_putFor_67 rfl (lv_at hl 0 rfl) ?_
      refine lv_iload hx hb dX9_putFor_68 (lv_at hl 4 rfl) ?_
      obtain ⟨r70, hc70, hok⟩ := k_bind hok
      refine kCi (wc := (wX9_placesOf cy aM qM vM_65 vM_r)) (wc2 := (wX9_placesOf cy aM qM vM_65 vM_r)) (wr := [(qM 17, rI cy 9 vM_st), (qM 22, rI cy 9 vM_trial_65)]) (ws2 := (wX9_putFor cy aM qM vM_65 vM_r vM_st vM_trial_65)) (kRunV (As := [.int ((vM_st x1.toNatClampNeg) / (9 : Int32))]) (rest := [.int y5_65]) ⟨hx, hb, hml, hown, ht0⟩ (kX9_placesOf l D cy _ aM qM vM_65 vM_r ((vM_st x1.toNatClampNeg) / (9 : Int32)) r70 hc70 _ rfl) (cwV 1 ht0 (gV wd878 wd879 wd880 wd744 wd881) rfl rfl rfl (by decide +kernel) ⟨Nat.le_of_ble_eq_true rfl, Nat.le_of_ble_eq_true rfl⟩) hK hN hP hD [0, 1] rfl (by decide) 0 8 rfl rfl rfl hl.1 rfl (Nat.le_of_ble_eq_true rfl) dX9_putFor_70 ⟨Nat.zero_le _, Nat.zero_le _⟩) hP hD hS hA [0, 1] [2, 3] rfl rfl (by decide) (by decide) [2, 3, 0, 1] (by decide) rfl rfl (fun H locs hP hD hS => ?_)
      refine lv_icmp_ge (tgt := 175) hx hb dX9_putFor_73 (by decide) (fun c73 => ?_) (fun c73 => ?_)
      · have hok := k_pos c73 hok
        obtain ⟨e65, hok, he65⟩ := ex_some hok
        have hok := hok.trans (congrArg some (hL65 _ he65))
        refine lv_bipush (v := -2) hx hb dX9_putFor_175 (by decide) ?_
        cases hok
        subst hQe; exact W.iret hx hb hr (fun t ht hW => ⟨⟨_, (), rfl, rfl, by rw [ht]; exact hP, va_K.moved hW.alike hK, hD⟩, hS.F ht⟩) hS.2.2 dX9_putFor_177
      · have hok := k_neg c73 hok
        refine lv_aload_n hx hb dX9_putFor_76 rfl (lv_at hl 0 rfl) ?_
        refine lv_aload_n hx hb dX9_putFor_77 rfl (lv_at hl 0 rfl) ?_
        refine va_get (D := D) (ci := 8) (v := .ref (qM 17)) (C := RX9) (T := TX9) (N := 29) hx hb ht0 niX9 hown hK hP 0 rfl rfl 17 (by decide) (ht0 _ wd858) (fun _ h9 => h9) rfl dX9_putFor_78 ?_
        refine lv_bipush (v := 9) hx hb dX9_putFor_81 (by decide) ?_
        refine lv_iload hx hb dX9_putFor_83 (lv_at hl 4 rfl) ?_
        refine lv_imul hx hb dX9_putFor_85 ?_
        refine lv_iload hx hb dX9_putFor_86 (lv_at hl 5 rfl) ?_
        refine lv_iadd hx hb dX9_putFor_88 ?_
        obtain ⟨r89, hc89, hok⟩ := k_bind hok
        refine kCi (wc := (wX9_thingAt cy aM (qM 17) qM vM_65 vM_r 9 vM_st)) (wc2 := (wX9_thingAt cy aM (qM 17) qM vM_65 vM_r 9 vM_st)) (wr := [(qM 22, rI cy 9 vM_trial_65)]) (ws2 := (wX9_putFor cy aM qM vM_65 vM_r vM_st vM_trial_65)) (kRunV (As := [.ref (qM 17), .int (((9 : Int32) * ((vM_st x1.toNatClampNeg) / (9 : Int32))) + y5_65)]) (rest := []) ⟨hx, hb, hml, hown, ht0⟩ (kX9_thingAt l D cy _ aM (qM 17) qM vM_65 vM_r 9 vM_st (((9 : Int32) * ((vM_st x1.toNatClampNeg) / (9 : Int32))) + y5_65) r89 hc89 _ rfl) (cwV 2 ht0 (gV wd901 wd902 wd903 wd744 wd904) rfl rfl rfl (by decide +kernel) ⟨Nat.le_of_ble_eq_true rfl, Nat.le_of_ble_eq_true rfl⟩) hK hN hP hD [0, 1, 2] rfl (by decide) 0 8 rfl rfl rfl hl.1 rfl (Nat.le_of_ble_eq_true rfl) dX9_putFor_89 ⟨Nat.zero_le _, Nat.zero_le _⟩) hP hD hS hA [0, 1, 2] [3] rfl rfl (by decide) (by decide) [1, 2, 3, 0] (by decide) rfl rfl (fun H locs hP hD hS => ?_)
        refine lv_istore (lv' := [(6, .int r89), (0, .ref aM), (1, .int x1), (2, .int x2), (3, .int x3), (4, .int ((vM_st x1.toNatClampNeg) / (9 : Int32))), (5, .int y5_65)]) hx hb dX9_putFor_92 hl (by decide) rfl (fun ls hl => ?_)
        refine lv_iload hx hb dX9_putFor_94 (lv_at hl 0 rfl) ?_
        refine lv_if_lt (tgt := 108) hx hb dX9_putFor_96 (by decide) (fun c96 => ?_) (fun c96 => ?_)
        · have hok := k_pos c96 hok
          exact J108  H locs ls hP hD hS (lv_sub hl [1, 2, 3, 4, 5, 6] rfl) hok
        · have hok := k_neg c96 hok
          refine lv_iload hx hb dX9_putFor_99 (lv_at hl 0 rfl) ?_
          refine lv_iload_n hx hb dX9_putFor_101 rfl (lv_at hl 2 rfl) ?_
          refine lv_icmp_eq (tgt := 108) hx hb dX9_putFor_102 (by decide) (fun c102 => ?_) (fun c102 => ?_)
          · have hok := k_pos c102 hok
            exact J108  H locs ls hP hD hS (lv_sub hl [1, 2, 3, 4, 5, 6] rfl) hok
          · have hok := k_neg c102 hok
            refine lv_goto (tgt := 169) hx hb dX9_putFor_105 (by decide) ?_
            exact J169 vM_trial_65 H locs ls hP hD hS (lv_sub hl [1, 2, 3, 4, 5, 6] rfl) hok
  have J29 : ∀ (vM_29 : Nat → Int32), ∀ (H : Heap) (locs : List Loc) (ls : Array Slot), va_P D vwCl (wX9_putFor cy aM qM vM_29 vM_r vM_st vM_trial) H → va_D A (wX9_putFor cy aM qM vM_29 vM_r vM_st vM_trial) → va_S A s.heap H locs → lv_has ls 8 [(0, .ref aM)] → fX9_putFor_J29 vM_trial vM_29 = some (zr, z_vM, z_vM_trial) → W p l e ({ frames := 5, cells := 0, slots := 0, locals := 114 } : Room) s m ([.ref aM, .int x1, .int x2, .int x3] : List Value).toArray below meth c H locs 0 0 Q (F0 m 29 ls []) := by
    intro vM_29 H locs ls hP hD hS hl hok
    unfold fX9_putFor_J29 at hok
    refine lv_aload_n hx hb dX9_putFor_29 rfl (lv_at hl 0 rfl) ?_
    refine lv_iconst (v := 1) hx hb dX9_putFor_30 (by decide) ?_
    obtain ⟨⟨r31, vM_31⟩, hc31, hok⟩ := k_bind hok
    try dsimp only at hok
    refine kCi (wc := (wX9_no cy aM qM vM_29)) (wc2 := (wX9_no cy aM qM vM_31)) (wr := [(qM 15, rI cy 224 vM_r), (qM 17, rI cy 9 vM_st), (qM 22, rI cy 9 vM_trial)]) (ws2 := (wX9_putFor cy aM qM vM_31 vM_r vM_st vM_trial)) (kRunV (As := [.int 1]) (rest := []) ⟨hx, hb, hml, hown, ht0⟩ (kX9_no l D cy _ aM qM vM_29 (1 : Int32) r31 vM_31 hc31 _ rfl) (cwV 1 ht0 (gV wd862 wd863 wd864 wd744 wd865) rfl rfl rfl (by decide +kernel) ⟨Nat.le_of_ble_eq_true rfl, Nat.le_of_ble_eq_true rfl⟩) hK hN hP hD [0] rfl (by decide) 0 8 rfl rfl rfl hl.1 rfl (Nat.le_of_ble_eq_true rfl) dX9_putFor_31 ⟨Nat.zero_le _, Nat.zero_le _⟩) hP hD hS hA [0] [1, 2, 3] rfl rfl (by decide) (by decide) [3, 0, 1, 2] (by decide) rfl rfl (fun H locs hP hD hS => ?_)
    cases hok
    subst hQe; exact W.iret hx hb hr (fun t ht hW => ⟨⟨_, (), rfl, rfl, by rw [ht]; exact hP, va_K.moved hW.alike hK, hD⟩, hS.F ht⟩) hS.2.2 dX9_putFor_34
  unfold fX9_putFor at hok
  obtain ⟨H, hH⟩ : ∃ H, H = s.heap := ⟨_, rfl⟩
  obtain ⟨locs, hlc⟩ : ∃ x : List Loc, x = [] := ⟨_, rfl⟩
  have hP : va_P D vwCl (wX9_putFor cy aM qM vM vM_r vM_st vM_trial) H := by rw [hH]; exact hP
  have hS : va_S A s.heap H locs := by rw [hH, hlc]; exact hS
  rw [show W p l e _ s m _ below meth c s.heap [] = W p l e _ s m _ below meth c H locs from by rw [hH, hlc]]
  refine lv_aload_n hx hb dX9_putFor_0 rfl (lv_at hl 0 rfl) ?_
  obtain ⟨vM_1, hc1, hok⟩ := k_bind hok
  refine kCv (wc := (wX9_good cy aM qM vM)) (wc2 := (wX9_good cy aM qM vM_1)) (wr := [(qM 15, rI cy 224 vM_r), (qM 17, rI cy 9 vM_st), (qM 22, rI cy 9 vM_trial)]) (ws2 := (wX9_putFor cy aM qM vM_1 vM_r vM_st vM_trial)) (kRunV (As := []) (rest := []) ⟨hx, hb, hml, hown, ht0⟩ (kX9_good l D cy _ aM qM vM vM_1 hc1 _ rfl) (cwV 0 ht0 (gV wd870 wd871 wd872 wd744 wd873) rfl rfl rfl (by decide +kernel) ⟨Nat.le_of_ble_eq_true rfl, Nat.le_of_ble_eq_true rfl⟩) hK hN hP hD [0] rfl (by decide) 0 8 rfl rfl rfl hl.1 rfl (Nat.le_of_ble_eq_true rfl) dX9_putFor_1 ⟨Nat.zero_le _, Nat.zero_le _⟩) hP hD hS hA [0] [1, 2, 3] rfl rfl (by decide) (by decide) [3, 0, 1, 2] (by decide) rfl rfl (fun H locs hP hD hS => ?_)
  refine lv_aload_n hx hb dX9_putFor_4 rfl (lv_at hl 0 rfl) ?_
  refine lv_iload_n hx hb dX9_putFor_5 rfl (lv_at hl 1 rfl) ?_
  obtain ⟨r6, hc6, hok⟩ := k_bind hok
  refine kCi (wc := (wX9_isThing cy aM qM vM_1 vM_r)) (wc2 := (wX9_isThing cy aM qM vM_1 vM_r)) (wr := [(qM 17, rI cy 9 vM_st), (qM 22, rI cy 9 vM_trial)]) (ws2 := (wX9_putFor cy aM qM vM_1 vM_r vM_st vM_trial)) (kRunV (As := [.int x1]) (rest := []) ⟨hx, hb, hml, hown, ht0⟩ (kX9_isThing l D cy _ aM qM vM_1 vM_r x1 r6 hc6 _ rfl) (cwV 1 ht0 (gV wd925 wd926 wd927 wd744 wd928) rfl rfl rfl (by decide +kernel) ⟨Nat.le_of_ble_eq_true rfl, Nat.le_of_ble_eq_true rfl⟩) hK hN hP hD [0, 1] rfl (by decide) 0 8 rfl rfl rfl hl.1 rfl (Nat.le_of_ble_eq_true rfl) dX9_putFor_6 ⟨Nat.zero_le _, Nat.zero_le _⟩) hP hD hS hA [0, 1] [2, 3] rfl rfl (by decide) (by decide) [2, 3, 0, 1] (by decide) rfl rfl (fun H locs hP hD hS => ?_)
  refine lv_if_eq (tgt := 29) hx hb dX9_putFor_9 (by decide) (fun c9 => ?_) (fun c9 => ?_)
  · have hok := k_pos c9 hok
    exact J29 vM_1 H locs ls hP hD hS (lv_sub hl [0] rfl) hok
  · have hok := k_neg c9 hok
    refine lv_aload_n hx hb dX9_putFor_12 rfl (lv_at hl 0 rfl) ?_
    refine lv_aload_n hx hb dX9_putFor_13 rfl (lv_at hl 0 rfl) ?_
    refine va_get (D := D) (ci := 8) (v := .ref (qM 17)) (C := RX9) (T := TX9) (N := 29) hx hb ht0 niX9 hown hK hP 0 rfl rfl 17 (by decide) (ht0 _ wd858) (fun _ h9 => h9) rfl dX9_putFor_14 ?_
    refine lv_iload_n hx hb dX9_putFor_17 rfl (lv_at hl 1 rfl) ?_
    obtain ⟨g18, hok⟩ := gd_some hok
    refine va_iald hx hb hK hP 2 0 rfl rfl (okI_in g18) dX9_putFor_18 ?_
    refine lv_bipush (v := 9) hx hb dX9_putFor_19 (by decide) ?_
    refine lv_idiv hx hb dX9_putFor_21 (by decide) ?_
    refine lv_iload_n hx hb dX9_putFor_22 rfl (lv_at hl 2 rfl) ?_
    obtain ⟨r23, hc23, hok⟩ := k_bind hok
    refine kCi (wc := (wX9_isPlace cy aM qM vM_1 vM_r)) (wc2 := (wX9_isPlace cy aM qM vM_1 vM_r)) (wr := [(qM 17, rI cy 9 vM_st), (qM 22, rI cy 9 vM_trial)]) (ws2 := (wX9_putFor cy aM qM vM_1 vM_r vM_st vM_trial)) (kRunV (As := [.int ((vM_st x1.toNatClampNeg) / (9 : Int32)), .int x2]) (rest := []) ⟨hx, hb, hml, hown, ht0⟩ (kX9_isPlace l D cy _ aM qM vM_1 vM_r ((vM_st x1.toNatClampNeg) / (9 : Int32)) x2 r23 hc23 _ rfl) (cwV 2 ht0 (gV wd929 wd930 wd931 wd744 wd932) rfl rfl rfl (by decide +kernel) ⟨Nat.le_of_ble_eq_true rfl, Nat.le_of_ble_eq_true rfl⟩) hK hN hP hD [0, 1] rfl (by decide) 0 8 rfl rfl rfl hl.1 rfl (Nat.le_of_ble_eq_true rfl) dX9_putFor_23 ⟨Nat.zero_le _, Nat.zero_le _⟩) hP hD hS hA [0, 1] [2, 3] rfl rfl (by decide) (by decide) [2, 3, 0, 1] (by decide) rfl rfl (fun H locs hP hD hS => ?_)
    refine lv_if_ne (tgt := 35) hx hb dX9_putFor_26 (by decide) (fun c26 => ?_) (fun c26 => ?_)
    · have hok := k_neg c26 hok
      refine lv_iload_n hx hb dX9_putFor_35 rfl (lv_at hl 3 rfl) ?_
      refine lv_iconst (v := 0) hx hb dX9_putFor_36 (by decide) ?_
      refine lv_bipush (v := 60) hx hb dX9_putFor_37 (by decide) ?_
      obtain ⟨r39, hc39, hok⟩ := k_bind hok
      refine kCi (wc := (wX9_in cy )) (wc2 := (wX9_in cy )) (wr := [(aM, oX9 vM_1 qM), (qM 15, rI cy 224 vM_r), (qM 17, rI cy 9 vM_st), (qM 22, rI cy 9 vM_trial)]) (ws2 := (wX9_putFor cy aM qM vM_1 vM_r vM_st vM_trial)) (kRunS (As := [.int x3, .int 0, .int 60]) (rest := []) ⟨hx, hb, hml, hown, ht0⟩ (kX9_in l D cy _ x3 (0 : Int32) (60 : Int32) r39 hc39 _ rfl) (va_cwS 3 ht0 (gS wd787 wd788 wd744 wd789) rfl rfl rfl (by decide +kernel) ⟨Nat.le_of_ble_eq_true rfl, Nat.le_of_ble_eq_true rfl⟩) hK hN hP hD [] rfl (by decide) rfl hl.1 rfl (Nat.le_of_ble_eq_true rfl) dX9_putFor_39 ⟨Nat.zero_le _, Nat.zero_le _⟩) hP hD hS hA [] [0, 1, 2, 3] rfl rfl (by decide) (by decide) [0, 1, 2, 3] (by decide) rfl rfl (fun H locs hP hD hS => ?_)
      refine lv_if_ne (tgt := 51) hx hb dX9_putFor_42 (by decide) (fun c42 => ?_) (fun c42 => ?_)
      · have hok := k_neg c42 hok
        refine lv_aload_n hx hb dX9_putFor_51 rfl (lv_at hl 0 rfl) ?_
        refine va_get (D := D) (ci := 8) (v := .ref (qM 17)) (C := RX9) (T := TX9) (N := 29) hx hb ht0 niX9 hown hK hP 0 rfl rfl 17 (by decide) (ht0 _ wd858) (fun _ h9 => h9) rfl dX9_putFor_52 ?_
        refine lv_iload_n hx hb dX9_putFor_55 rfl (lv_at hl 1 rfl) ?_
        obtain ⟨g56, hok⟩ := gd_some hok
        refine va_iald hx hb hK hP 2 0 rfl rfl (okI_in g56) dX9_putFor_56 ?_
        refine lv_bipush (v := 9) hx hb dX9_putFor_57 (by decide) ?_
        refine lv_idiv hx hb dX9_putFor_59 (by decide) ?_
        refine lv_istore (lv' := [(4, .int ((vM_st x1.toNatClampNeg) / (9 : Int32))), (0, .ref aM), (1, .int x1), (2, .int x2), (3, .int x3)]) hx hb dX9_putFor_60 hl (by decide) rfl (fun ls hl => ?_)
        refine lv_iconst (v := 0) hx hb dX9_putFor_62 (by decide) ?_
        refine lv_istore (lv' := [(5, .int 0), (4, .int ((vM_st x1.toNatClampNeg) / (9 : Int32))), (0, .ref aM), (1, .int x1), (2, .int x2), (3, .int x3)]) hx hb dX9_putFor_63 hl (by decide) rfl (fun ls hl => ?_)
        exact L65 5000 (0 : Int32) vM_trial vM_1 H locs ls hP hD hS (lv_sub hl [2, 3, 4, 5, 1, 0] rfl) hok
      · have hok := k_pos c42 hok
        refine lv_aload_n hx hb dX9_putFor_45 rfl (lv_at hl 0 rfl) ?_
        refine lv_iconst (v := 2) hx hb dX9_putFor_46 (by decide) ?_
        obtain ⟨⟨r47, vM_47⟩, hc47, hok⟩ := k_bind hok
        try dsimp only at hok
        refine kCi (wc := (wX9_no cy aM qM vM_1)) (wc2 := (wX9_no cy aM qM vM_47)) (wr := [(qM 15, rI cy 224 vM_r), (qM 17, rI cy 9 vM_st), (qM 22, rI cy 9 vM_trial)]) (ws2 := (wX9_putFor cy aM qM vM_47 vM_r vM_st vM_trial)) (kRunV (As := [.int 2]) (rest := []) ⟨hx, hb, hml, hown, ht0⟩ (kX9_no l D cy _ aM qM vM_1 (2 : Int32) r47 vM_47 hc47 _ rfl) (cwV 1 ht0 (gV wd862 wd863 wd864 wd744 wd865) rfl rfl rfl (by decide +kernel) ⟨Nat.le_of_ble_eq_true rfl, Nat.le_of_ble_eq_true rfl⟩) hK hN hP hD [0] rfl (by decide) 0 8 rfl rfl rfl hl.1 rfl (Nat.le_of_ble_eq_true rfl) dX9_putFor_47 ⟨Nat.zero_le _, Nat.zero_le _⟩) hP hD hS hA [0] [1, 2, 3] rfl rfl (by decide) (by decide) [3, 0, 1, 2] (by decide) rfl rfl (fun H locs hP hD hS => ?_)
        cases hok
        subst hQe; exact W.iret hx hb hr (fun t ht hW => ⟨⟨_, (), rfl, rfl, by rw [ht]; exact hP, va_K.moved hW.alike hK, hD⟩, hS.F ht⟩) hS.2.2 dX9_putFor_50
    · have hok := k_pos c26 hok
      exact J29 vM_1 H locs ls hP hD hS (lv_sub hl [0] rfl) hok
def wsX9_holdsToMeet : List Cond := .code yX9_holdsToMeet cX9_holdsToMeet 7 (some .int) :: W0
abbrev wX9_holdsToMeet (cy : Nat → ClassId) (aM : Nat) (qM : Nat → Nat) (vM : Nat → Int32) (vM_r : Nat → Int32) (vM_st : Nat → Int32) (vM_trial : Nat → Int32) : va_W := [(aM, oX9 vM qM), (qM 15, rI cy 224 vM_r), (qM 17, rI cy 9 vM_st), (qM 22, rI cy 9 vM_trial)]
set_option maxHeartbeats 4000000 in
set_option maxRecDepth 100000 in
theorem kX9_holdsToMeet (l : Launch) (D : va_G) (cy : Nat → ClassId) (sz : Nat) (aM : Nat) (qM : Nat → Nat) (vM : Nat → Int32) (vM_r : Nat → Int32) (vM_st : Nat → Int32) (vM_trial : Nat → Int32) (x1 : Int32) (x2 : Int32) (x3 : Int32) (zr : Int32) (z_vM : Nat → Int32) (z_vM_trial : Nat → Int32) (hok : fX9_holdsToMeet vM vM_r vM_st vM_trial x1 x2 x3 = some (zr, z_vM, z_vM_trial)) (A : Nat → Prop) (hAe : va_A (wX9_holdsToMeet cy aM qM vM vM_r vM_st vM_trial) sz = A) : Met l yX9_holdsToMeet wsX9_holdsToMeet ({ frames := 6, cells := 0, slots := 0, locals := 139 } : Room) (kPre D cy [.ref aM, .int x1, .int x2, .int x3] (wX9_holdsToMeet cy aM qM vM vM_r vM_st vM_trial) sz) (kQi D cy zr A (wX9_holdsToMeet cy aM qM z_vM vM_r vM_st z_vM_trial)) 0 0 A := by
  refine Met.ofW (cc := cX9_holdsToMeet) (maxL := 7) (ret := (some .int)) (by decide) rfl ?_
  intro p e s m args below meth c s₁ B hml hv
  obtain ⟨rfl, hsz, hP, hK, hD0, hN⟩ := hv
  have hx := B.exec
  have hb := B.bytes
  have hr := B.returns
  have ht0 : ∀ w ∈ W0, w.before _ s = true := fun w h => atoms_spec (ws := wsX9_holdsToMeet) B.pre w (List.mem_cons_of_mem _ h)
  have hown : s.vm.findClass RX9 = some m.cls := findClass_of_methodNamed B.named
  have hlocks := B.notSynchronized
  subst hsz
  have hD : va_D A (wX9_holdsToMeet cy aM qM vM vM_r vM_st vM_trial) := by rw [← hAe]; exact hD0.self
  have hA : ∀ q : Nat, s.heap.size ≤ q → A q := fun q h => by rw [← hAe]; exact Or.inr h
  have hS : va_S A s.heap s.heap [] := va_S.rf
  have hl := lv_entry ([.ref aM, .int x1, .int x2, .int x3]) (n := 7) (Nat.le_of_ble_eq_true rfl)
  rw [lg_entry_eq]
  generalize (lg_sl ([.ref aM, .int x1, .int x2, .int x3]) ++ List.replicate (7 - (lg_sl ([.ref aM, .int x1, .int x2, .int x3])).length) Slot.unset).toArray = ls at hl ⊢
  have hl : lv_has ls 7 [(0, .ref aM), (1, .int x1), (2, .int x2), (3, .int x3)] := hl
  generalize hQe : MQ below (kQi D cy zr A (wX9_holdsToMeet cy aM qM z_vM vM_r vM_st z_vM_trial)) ([.ref aM, .int x1, .int x2, .int x3] : List Value).toArray s 0 0 A = Q
  have L38 : ∀ (fuel : Nat) (y5_38 : Int32) (y6_38 : Int32) (vM_trial_38 : Nat → Int32) (vM_38 : Nat → Int32), ∀ (H : Heap) (locs : List Loc) (ls : Array Slot), va_P D vwCl (wX9_holdsToMeet cy aM qM vM_38 vM_r vM_st vM_trial_38) H → va_D A (wX9_holdsToMeet cy aM qM vM_38 vM_r vM_st vM_trial_38) → va_S A s.heap H locs → lv_has ls 7 [(0, .ref aM), (1, .int x1), (2, .int x2), (3, .int x3), (5, .int y5_38), (6, .int y6_38)] → lp (fX9_holdsToMeet_B38 vM_r vM_st x1 x2 x3) fuel (y5_38, y6_38, vM_trial_38, vM_38) = some (zr, z_vM, z_vM_trial) → W p l e ({ frames := 6, cells := 0, slots := 0, locals := 139 } : Room) s m ([.ref aM, .int x1, .int x2, .int x3] : List Value).toArray below meth c H locs 0 0 Q (F0 m 38 ls []) := by
    intro fuel
    induction fuel with
    | zero => intro y5_38 y6_38 vM_trial_38 vM_38 H locs ls hP hD hS hl hok; exact (lp_0 hok).elim
    | succ fuel ih38 =>
      intro y5_38 y6_38 vM_trial_38 vM_38 H locs ls hP hD hS hl hok
      obtain ⟨y38, hok, hL38, hR38⟩ := lp_step hok
      have J94 : ∀ (y5_94 : Int32) (vM_trial_94 : Nat → Int32), ∀ (H : Heap) (locs : List Loc) (ls : Array Slot), va_P D vwCl (wX9_holdsToMeet cy aM qM vM_38 vM_r vM_st vM_trial_94) H → va_D A (wX9_holdsToMeet cy aM qM vM_38 vM_r vM_st vM_trial_94) → va_S A s.heap H locs → lv_has ls 7 [(0, .ref aM), (1, .int x1), (2, .int x2), (3, .int x3), (5, .int y5_94), (6, .int y6_38)] → fX9_holdsToMeet_J94 y6_38 vM_38 y5_94 vM_trial_94 = some y38 → W p l e ({ frames := 6, cells := 0, slots := 0, locals := 139 } : Room) s m ([.ref aM, .int x1, .int x2, .int x3] : List Value).toArray below meth c H locs 0 0 Q (F0 m 94 ls []) := by
        intro y5_94 vM_trial_94 H locs ls hP hD hS hl hok
        unfold fX9_holdsToMeet_J94 at hok
        refine lv_iinc (v := (y6_38 + 1)) (lv' := [(6, .int (y6_38 + 1)), (0, .ref aM), (1, .int x1), (2, .int x2), (3, .int x3), (5, .int y5_94)]) hx hb dX9_holdsToMeet_94 hl (k := 5) rfl (by first | rfl | decide) (by decide) rfl (fun ls hl => ?_)
        refine lv_goto (tgt := 38) hx hb dX9_holdsToMeet_97 (by decide) ?_
        exact ih38 y5_94 (y6_38 + 1) vM_trial_94 vM_38 H locs ls hP hD hS (lv_sub hl [1, 2, 3, 4, 5, 0] rfl) (hR38 _ (Option.some.inj hok).symm)
      have J78 : ∀ (H : Heap) (locs : List Loc) (ls : Array Slot), va_P D vwCl (wX9_holdsToMeet cy aM qM vM_38 vM_r vM_st vM_trial_38) H → va_D A (wX9_holdsToMeet cy aM qM vM_38 vM_r vM_st vM_trial_38) → va_S A s.heap H locs → lv_has ls 7 [(0, .ref aM), (1, .int x1), (2, .int x2), (3, .int x3), (5, .int y5_38), (6, .int y6_38)] → fX9_holdsToMeet_J78 vM_r vM_st x1 x2 x3 y5_38 y6_38 vM_trial_38 vM_38 = some y38 → W p l e ({ frames := 6, cells := 0, slots := 0, locals := 139 } : Room) s m ([.ref aM, .int x1, .int x2, .int x3] : List Value).toArray below meth c H locs 0 0 Q (F0 m 78 ls []) := by
        intro  H locs ls hP hD hS hl hok
        unfold fX9_holdsToMeet_J78 at hok
        refine lv_aload_n hx hb dX9_holdsToMeet_78 rfl (lv_at hl 0 rfl) ?_
        refine lv_iload hx hb dX9_holdsToMeet_79 (lv_at hl 5 rfl) ?_
        refine lv_iload_n hx hb dX9_holdsToMeet_81 rfl (lv_at hl 1 rfl) ?_
        refine lv_iload_n hx hb dX9_holdsToMeet_82 rfl (lv_at hl 2 rfl) ?_
        refine lv_iload_n hx hb dX9_holdsToMeet_83 rfl (lv_at hl 3 rfl) ?_
        obtain ⟨⟨r84, vM_trial_84⟩, hc84, hok⟩ := k_bind hok
        try dsimp only at hok
        refine kCi (wc := (wX9_doMeetBy cy aM qM vM_38 vM_st vM_trial_38 vM_r)) (wc2 := (wX9_doMeetBy cy aM qM vM_38 vM_st vM_trial_84 vM_r)) (wr := []) (ws2 := (wX9_holdsToMeet cy aM qM vM_38 vM_r vM_st vM_trial_84)) (kRunV (As := [.int y6_38, .int x1, .int x2, .int x3]) (rest := []) ⟨hx, hb, hml, hown, ht0⟩ (kX9_doMeetBy l D cy _ aM qM vM_38 vM_st vM_trial_38 vM_r y6_38 x1 x2 x3 r84 vM_trial_84 hc84 _ rfl) (cwV 4 ht0 (gV wd970 wd971 wd972 wd744 wd973) rfl rfl rfl (by decide +kernel) ⟨Nat.le_of_ble_eq_true rfl, Nat.le_of_ble_eq_true rfl⟩) hK hN hP hD [0, 2, 3, 1] rfl (by decide) 0 8 rfl rfl rfl hl.1 rfl (Nat.le_of_ble_eq_true rfl) dX9_holdsToMeet_84 ⟨Nat.zero_le _, Nat.zero_le _⟩) hP hD hS hA [0, 2, 3, 1] [] rfl rfl (by decide) (by decide) [0, 3, 1, 2] (by decide) rfl rfl (fun H locs hP hD hS => ?_)
        refine lv_if_eq (tgt := 94) hx hb dX9_holdsToMeet_87 (by decide) (fun c87 => ?_) (fun c87 => ?_)
        · have hok := k_pos c87 hok
          exact J94 y5_38 vM_trial_84 H locs ls hP hD hS (lv_sub hl [0, 1, 2, 3, 4, 5] rfl) hok
        · have hok := k_neg c87 hok
          refine lv_iload hx hb dX9_holdsToMeet_90 (lv_at hl 5 rfl) ?_
          refine lv_istore (lv' := [(5, .int y6_38), (0, .ref aM), (1, .int x1), (2, .int x2), (3, .int x3), (6, .int y6_38)]) hx hb dX9_holdsToMeet_92 hl (by decide) rfl (fun ls hl => ?_)
          exact J94 y6_38 vM_trial_84 H locs ls hP hD hS (lv_sub hl [1, 2, 3, 4, 0, 5] rfl) hok
      unfold fX9_holdsToMeet_B38 at hok
      try dsimp only at hok
      refine lv_iload hx hb dX9_holdsToMeet_38 (lv_at hl 5 rfl) ?_
      refine lv_aload_n hx hb dX9_holdsToMeet_40 rfl (lv_at hl 0 rfl) ?_
      obtain ⟨r41, hc41, hok⟩ := k_bind hok
      refine kCi (wc := (wX9_allThings cy aM qM vM_38 vM_r)) (wc2 := (wX9_allThings cy aM qM vM_38 vM_r)) (wr := [(qM 17, rI cy 9 vM_st), (qM 22, rI cy 9 vM_trial_38)]) (ws2 := (wX9_holdsToMeet cy aM qM vM_38 vM_r vM_st vM_trial_38)) (kRunV (As := []) (rest := [.int y6_38]) ⟨hx, hb, hml, hown, ht0⟩ (kX9_allThings l D cy _ aM qM vM_38 vM_r r41 hc41 _ rfl) (cwV 0 ht0 (gV wd966 wd967 wd968 wd744 wd969) rfl rfl rfl (by decide +kernel) ⟨Nat.le_of_ble_eq_true rfl, Nat.le_of_ble_eq_true rfl⟩) hK hN hP hD [0, 1] rfl (by decide) 0 8 rfl rfl rfl hl.1 rfl (Nat.le_of_ble_eq_true rfl) dX9_holdsToMeet_41 ⟨Nat.zero_le _, Nat.zero_le _⟩) hP hD hS hA [0, 1] [2, 3] rfl rfl (by decide) (by decide) [2, 3, 0, 1] (by decide) rfl rfl (fun H locs hP hD hS => ?_)
      refine lv_icmp_gt (tgt := 100) hx hb dX9_holdsToMeet_44 (by decide) (fun c44 => ?_) (fun c44 => ?_)
      · have hok := k_pos c44 hok
        obtain ⟨e38, hok, he38⟩ := ex_some hok
        have hok := hok.trans (congrArg some (hL38 _ he38))
        refine lv_iload hx hb dX9_holdsToMeet_100 (lv_at hl 4 rfl) ?_
        cases hok
        subst hQe; exact W.iret hx hb hr (fun t ht hW => ⟨⟨_, (), rfl, rfl, by rw [ht]; exact hP, va_K.moved hW.alike hK, hD⟩, hS.F ht⟩) hS.2.2 dX9_holdsToMeet_102
      · have hok := k_neg c44 hok
        refine lv_iload hx hb dX9_holdsToMeet_47 (lv_at hl 5 rfl) ?_
        refine lv_aload_n hx hb dX9_holdsToMeet_49 rfl (lv_at hl 0 rfl) ?_
        refine va_get (D := D) (ci := 8) (v := .ref (qM 17)) (C := RX9) (T := TX9) (N := 29) hx hb ht0 niX9 hown hK hP 0 rfl rfl 17 (by decide) (ht0 _ wd858) (fun _ h9 => h9) rfl dX9_holdsToMeet_50 ?_
        refine lv_bipush (v := 7) hx hb dX9_holdsToMeet_53 (by decide) ?_
        obtain ⟨g55, hok⟩ := gd_some hok
        refine va_iald hx hb hK hP 2 0 rfl rfl (okI_in g55) dX9_holdsToMeet_55 ?_
        refine lv_iand hx hb dX9_holdsToMeet_56 ?_
        refine lv_if_ne (tgt := 94) hx hb dX9_holdsToMeet_57 (by decide) (fun c57 => ?_) (fun c57 => ?_)
        · have hok := k_neg c57 hok
          exact J94 y5_38 vM_trial_38 H locs ls hP hD hS (lv_sub hl [0, 1, 2, 3, 4, 5] rfl) hok
        · have hok := k_pos c57 hok
          refine lv_iload hx hb dX9_holdsToMeet_60 (lv_at hl 4 rfl) ?_
          refine lv_if_lt (tgt := 78) hx hb dX9_holdsToMeet_62 (by decide) (fun c62 => ?_) (fun c62 => ?_)
          · have hok := k_pos c62 hok
            exact J78  H locs ls hP hD hS (lv_sub hl [0, 1, 2, 3, 4, 5] rfl) hok
          · have hok := k_neg c62 hok
            refine lv_iload hx hb dX9_holdsToMeet_65 (lv_at hl 5 rfl) ?_
            obtain ⟨r67, hc67, hok⟩ := k_bind hok
            refine kCi (wc := (wX9_ones cy )) (wc2 := (wX9_ones cy )) (wr := [(aM, oX9 vM_38 qM), (qM 15, rI cy 224 vM_r), (qM 17, rI cy 9 vM_st), (qM 22, rI cy 9 vM_trial_38)]) (ws2 := (wX9_holdsToMeet cy aM qM vM_38 vM_r vM_st vM_trial_38)) (kRunS (As := [.int y6_38]) (rest := []) ⟨hx, hb, hml, hown, ht0⟩ (kX9_ones l D cy _ y6_38 r67 hc67 _ rfl) (va_cwS 1 ht0 (gS wd922 wd923 wd744 wd924) rfl rfl rfl (by decide +kernel) ⟨Nat.le_of_ble_eq_true rfl, Nat.le_of_ble_eq_true rfl⟩) hK hN hP hD [] rfl (by decide) rfl hl.1 rfl (Nat.le_of_ble_eq_true rfl) dX9_holdsToMeet_67 ⟨Nat.zero_le _, Nat.zero_le _⟩) hP hD hS hA [] [0, 1, 2, 3] rfl rfl (by decide) (by decide) [0, 1, 2, 3] (by decide) rfl rfl (fun H locs hP hD hS => ?_)
            refine lv_iload hx hb dX9_holdsToMeet_70 (lv_at hl 4 rfl) ?_
            obtain ⟨r72, hc72, hok⟩ := k_bind hok
            refine kCi (wc := (wX9_ones cy )) (wc2 := (wX9_ones cy )) (wr := [(aM, oX9 vM_38 qM), (qM 15, rI cy 224 vM_r), (qM 17, rI cy 9 vM_st), (qM 22, rI cy 9 vM_trial_38)]) (ws2 := (wX9_holdsToMeet cy aM qM vM_38 vM_r vM_st vM_trial_38)) (kRunS (As := [.int y5_38]) (rest := [.int r67]) ⟨hx, hb, hml, hown, ht0⟩ (kX9_ones l D cy _ y5_38 r72 hc72 _ rfl) (va_cwS 1 ht0 (gS wd922 wd923 wd744 wd924) rfl rfl rfl (by decide +kernel) ⟨Nat.le_of_ble_eq_true rfl, Nat.le_of_ble_eq_true rfl⟩) hK hN hP hD [] rfl (by decide) rfl hl.1 rfl (Nat.le_of_ble_eq_true rfl) dX9_holdsToMeet_72 ⟨Nat.zero_le _, Nat.zero_le _⟩) hP hD hS hA [] [0, 1, 2, 3] rfl rfl (by decide) (by decide) [0, 1, 2, 3] (by decide) rfl rfl (fun H locs hP hD hS => ?_)
            refine lv_icmp_ge (tgt := 94) hx hb dX9_holdsToMeet_75 (by decide) (fun c75 => ?_) (fun c75 => ?_)
            · have hok := k_pos c75 hok
              exact J94 y5_38 vM_trial_38 H locs ls hP hD hS (lv_sub hl [0, 1, 2, 3, 4, 5] rfl) hok
            · have hok := k_neg c75 hok
              exact J78  H locs ls hP hD hS (lv_sub hl [0, 1, 2, 3, 4, 5] rfl) hok
  unfold fX9_holdsToMeet at hok
  obtain ⟨H, hH⟩ : ∃ H, H = s.heap := ⟨_, rfl⟩
  obtain ⟨locs, hlc⟩ : ∃ x : List Loc, x = [] := ⟨_, rfl⟩
  have hP : va_P D vwCl (wX9_holdsToMeet cy aM qM vM vM_r vM_st vM_trial) H := by rw [hH]; exact hP
  have hS : va_S A s.heap H locs := by rw [hH, hlc]; exact hS
  rw [show W p l e _ s m _ below meth c s.heap [] = W p l e _ s m _ below meth c H locs from by rw [hH, hlc]]
  refine lv_aload_n hx hb dX9_holdsToMeet_0 rfl (lv_at hl 0 rfl) ?_
  obtain ⟨vM_1, hc1, hok⟩ := k_bind hok
  refine kCv (wc := (wX9_good cy aM qM vM)) (wc2 := (wX9_good cy aM qM vM_1)) (wr := [(qM 15, rI cy 224 vM_r), (qM 17, rI cy 9 vM_st), (qM 22, rI cy 9 vM_trial)]) (ws2 := (wX9_holdsToMeet cy aM qM vM_1 vM_r vM_st vM_trial)) (kRunV (As := []) (rest := []) ⟨hx, hb, hml, hown, ht0⟩ (kX9_good l D cy _ aM qM vM vM_1 hc1 _ rfl) (cwV 0 ht0 (gV wd870 wd871 wd872 wd744 wd873) rfl rfl rfl (by decide +kernel) ⟨Nat.le_of_ble_eq_true rfl, Nat.le_of_ble_eq_true rfl⟩) hK hN hP hD [0] rfl (by decide) 0 8 rfl rfl rfl hl.1 rfl (Nat.le_of_ble_eq_true rfl) dX9_holdsToMeet_1 ⟨Nat.zero_le _, Nat.zero_le _⟩) hP hD hS hA [0] [1, 2, 3] rfl rfl (by decide) (by decide) [3, 0, 1, 2] (by decide) rfl rfl (fun H locs hP hD hS => ?_)
  refine lv_aload_n hx hb dX9_holdsToMeet_4 rfl (lv_at hl 0 rfl) ?_
  refine lv_aload_n hx hb dX9_holdsToMeet_5 rfl (lv_at hl 0 rfl) ?_
  refine lv_iload_n hx hb dX9_holdsToMeet_6 rfl (lv_at hl 1 rfl) ?_
  refine lv_iload_n hx hb dX9_holdsToMeet_7 rfl (lv_at hl 2 rfl) ?_
  obtain ⟨r8, hc8, hok⟩ := k_bind hok
  refine kCi (wc := (wX9_areTwo cy aM qM vM_1 vM_r)) (wc2 := (wX9_areTwo cy aM qM vM_1 vM_r)) (wr := [(qM 17, rI cy 9 vM_st), (qM 22, rI cy 9 vM_trial)]) (ws2 := (wX9_holdsToMeet cy aM qM vM_1 vM_r vM_st vM_trial)) (kRunV (As := [.int x1, .int x2]) (rest := [.ref aM]) ⟨hx, hb, hml, hown, ht0⟩ (kX9_areTwo l D cy _ aM qM vM_1 vM_r x1 x2 r8 hc8 _ rfl) (cwV 2 ht0 (gV wd952 wd953 wd954 wd744 wd955) rfl rfl rfl (by decide +kernel) ⟨Nat.le_of_ble_eq_true rfl, Nat.le_of_ble_eq_true rfl⟩) hK hN hP hD [0, 1] rfl (by decide) 0 8 rfl rfl rfl hl.1 rfl (Nat.le_of_ble_eq_true rfl) dX9_holdsToMeet_8 ⟨Nat.zero_le _, Nat.zero_le _⟩) hP hD hS hA [0, 1] [2, 3] rfl rfl (by decide) (by decide) [2, 3, 0, 1] (by decide) rfl rfl (fun H locs hP hD hS => ?_)
  refine lv_iload_n hx hb dX9_holdsToMeet_11 rfl (lv_at hl 3 rfl) ?_
  refine lv_bipush (v := 30) hx hb dX9_holdsToMeet_12 (by decide) ?_
  obtain ⟨r14, hc14, hok⟩ := k_bind hok
  refine kCi (wc := (wX9_why cy aM)) (wc2 := (wX9_why cy aM)) (wr := [(aM, oX9 vM_1 qM), (qM 15, rI cy 224 vM_r), (qM 17, rI cy 9 vM_st), (qM 22, rI cy 9 vM_trial)]) (ws2 := (wX9_holdsToMeet cy aM qM vM_1 vM_r vM_st vM_trial)) (kRunV (As := [.int r8, .int x3, .int 30]) (rest := []) ⟨hx, hb, hml, hown, ht0⟩ (kX9_why l D cy _ aM r8 x3 (30 : Int32) r14 hc14 _ rfl) (cwV 3 ht0 (gV wd944 wd945 wd946 wd744 wd947) rfl rfl rfl (by decide +kernel) ⟨Nat.le_of_ble_eq_true rfl, Nat.le_of_ble_eq_true rfl⟩) hK hN hP hD [] rfl (by decide) 0 8 rfl rfl rfl hl.1 rfl (Nat.le_of_ble_eq_true rfl) dX9_holdsToMeet_14 ⟨Nat.zero_le _, Nat.zero_le _⟩) hP hD hS hA [] [0, 1, 2, 3] rfl rfl (by decide) (by decide) [0, 1, 2, 3] (by decide) rfl rfl (fun H locs hP hD hS => ?_)
  refine lv_istore (lv' := [(4, .int r14), (0, .ref aM), (1, .int x1), (2, .int x2), (3, .int x3)]) hx hb dX9_holdsToMeet_17 hl (by decide) rfl (fun ls hl => ?_)
  refine lv_iload hx hb dX9_holdsToMeet_19 (lv_at hl 0 rfl) ?_
  refine lv_if_eq (tgt := 31) hx hb dX9_holdsToMeet_21 (by decide) (fun c21 => ?_) (fun c21 => ?_)
  · have hok := k_pos c21 hok
    refine lv_bipush (v := -2) hx hb dX9_holdsToMeet_31 (by decide) ?_
    refine lv_istore (lv' := [(5, .int (-2)), (4, .int r14), (0, .ref aM), (1, .int x1), (2, .int x2), (3, .int x3)]) hx hb dX9_holdsToMeet_33 hl (by decide) rfl (fun ls hl => ?_)
    refine lv_iconst (v := 0) hx hb dX9_holdsToMeet_35 (by decide) ?_
    refine lv_istore (lv' := [(6, .int 0), (5, .int (-2)), (4, .int r14), (0, .ref aM), (1, .int x1), (2, .int x2), (3, .int x3)]) hx hb dX9_holdsToMeet_36 hl (by decide) rfl (fun ls hl => ?_)
    exact L38 5000 (-2 : Int32) (0 : Int32) vM_trial vM_1 H locs ls hP hD hS (lv_sub hl [3, 4, 5, 6, 1, 0] rfl) hok
  · have hok := k_neg c21 hok
    refine lv_aload_n hx hb dX9_holdsToMeet_24 rfl (lv_at hl 1 rfl) ?_
    refine lv_iload hx hb dX9_holdsToMeet_25 (lv_at hl 0 rfl) ?_
    obtain ⟨⟨r27, vM_27⟩, hc27, hok⟩ := k_bind hok
    try dsimp only at hok
    refine kCi (wc := (wX9_no cy aM qM vM_1)) (wc2 := (wX9_no cy aM qM vM_27)) (wr := [(qM 15, rI cy 224 vM_r), (qM 17, rI cy 9 vM_st), (qM 22, rI cy 9 vM_trial)]) (ws2 := (wX9_holdsToMeet cy aM qM vM_27 vM_r vM_st vM_trial)) (kRunV (As := [.int r14]) (rest := []) ⟨hx, hb, hml, hown, ht0⟩ (kX9_no l D cy _ aM qM vM_1 r14 r27 vM_27 hc27 _ rfl) (cwV 1 ht0 (gV wd862 wd863 wd864 wd744 wd865) rfl rfl rfl (by decide +kernel) ⟨Nat.le_of_ble_eq_true rfl, Nat.le_of_ble_eq_true rfl⟩) hK hN hP hD [0] rfl (by decide) 0 8 rfl rfl rfl hl.1 rfl (Nat.le_of_ble_eq_true rfl) dX9_holdsToMeet_27 ⟨Nat.zero_le _, Nat.zero_le _⟩) hP hD hS hA [0] [1, 2, 3] rfl rfl (by decide) (by decide) [3, 0, 1, 2] (by decide) rfl rfl (fun H locs hP hD hS => ?_)
    cases hok
    subst hQe; exact W.iret hx hb hr (fun t ht hW => ⟨⟨_, (), rfl, rfl, by rw [ht]; exact hP, va_K.moved hW.alike hK, hD⟩, hS.F ht⟩) hS.2.2 dX9_holdsToMeet_30
def wsX9_keptBy : List Cond := .code yX9_keptBy cX9_keptBy 6 (some .int) :: W0
abbrev wX9_keptBy (cy : Nat → ClassId) (aM : Nat) (qM : Nat → Nat) (vM : Nat → Int32) (vM_st : Nat → Int32) (vM_trial : Nat → Int32) (vM_r : Nat → Int32) : va_W := [(aM, oX9 vM qM), (qM 17, rI cy 9 vM_st), (qM 22, rI cy 9 vM_trial), (qM 15, rI cy 224 vM_r)]
set_option maxHeartbeats 4000000 in
set_option maxRecDepth 100000 in
theorem kX9_keptBy (l : Launch) (D : va_G) (cy : Nat → ClassId) (sz : Nat) (aM : Nat) (qM : Nat → Nat) (vM : Nat → Int32) (vM_st : Nat → Int32) (vM_trial : Nat → Int32) (vM_r : Nat → Int32) (x1 : Int32) (x2 : Int32) (zr : Int32) (z_vM_trial : Nat → Int32) (hok : fX9_keptBy vM vM_st vM_trial vM_r x1 x2 = some (zr, z_vM_trial)) (A : Nat → Prop) (hAe : va_A (wX9_keptBy cy aM qM vM vM_st vM_trial vM_r) sz = A) : Met l yX9_keptBy wsX9_keptBy ({ frames := 5, cells := 0, slots := 0, locals := 114 } : Room) (kPre D cy [.ref aM, .int x1, .int x2] (wX9_keptBy cy aM qM vM vM_st vM_trial vM_r) sz) (kQi D cy zr A (wX9_keptBy cy aM qM vM vM_st z_vM_trial vM_r)) 0 0 A := by
  refine Met.ofW (cc := cX9_keptBy) (maxL := 6) (ret := (some .int)) (by decide) rfl ?_
  intro p e s m args below meth c s₁ B hml hv
  obtain ⟨rfl, hsz, hP, hK, hD0, hN⟩ := hv
  have hx := B.exec
  have hb := B.bytes
  have hr := B.returns
  have ht0 : ∀ w ∈ W0, w.before _ s = true := fun w h => atoms_spec (ws := wsX9_keptBy) B.pre w (List.mem_cons_of_mem _ h)
  have hown : s.vm.findClass RX9 = some m.cls := findClass_of_methodNamed B.named
  have hlocks := B.notSynchronized
  subst hsz
  have hD : va_D A (wX9_keptBy cy aM qM vM vM_st vM_trial vM_r) := by rw [← hAe]; exact hD0.self
  have hA : ∀ q : Nat, s.heap.size ≤ q → A q := fun q h => by rw [← hAe]; exact Or.inr h
  have hS : va_S A s.heap s.heap [] := va_S.rf
  have hl := lv_entry ([.ref aM, .int x1, .int x2]) (n := 6) (Nat.le_of_ble_eq_true rfl)
  rw [lg_entry_eq]
  generalize (lg_sl ([.ref aM, .int x1, .int x2]) ++ List.replicate (6 - (lg_sl ([.ref aM, .int x1, .int x2])).length) Slot.unset).toArray = ls at hl ⊢
  have hl : lv_has ls 6 [(0, .ref aM), (1, .int x1), (2, .int x2)] := hl
  generalize hQe : MQ below (kQi D cy zr A (wX9_keptBy cy aM qM vM vM_st z_vM_trial vM_r)) ([.ref aM, .int x1, .int x2] : List Value).toArray s 0 0 A = Q
  have L20 : ∀ (fuel : Nat) (y3_20 : Int32) (y4_20 : Int32) (vM_trial_20 : Nat → Int32), ∀ (H : Heap) (locs : List Loc) (ls : Array Slot), va_P D vwCl (wX9_keptBy cy aM qM vM vM_st vM_trial_20 vM_r) H → va_D A (wX9_keptBy cy aM qM vM vM_st vM_trial_20 vM_r) → va_S A s.heap H locs → lv_has ls 6 [(0, .ref aM), (2, .int x2), (3, .int y3_20), (4, .int y4_20)] → lp (fX9_keptBy_B20 vM vM_r x2) fuel (y3_20, y4_20, vM_trial_20) = some (zr, z_vM_trial) → W p l e ({ frames := 5, cells := 0, slots := 0, locals := 114 } : Room) s m ([.ref aM, .int x1, .int x2] : List Value).toArray below meth c H locs 0 0 Q (F0 m 20 ls []) := by
    intro fuel
    induction fuel with
    | zero => intro y3_20 y4_20 vM_trial_20 H locs ls hP hD hS hl hok; exact (lp_0 hok).elim
    | succ fuel ih20 =>
      intro y3_20 y4_20 vM_trial_20 H locs ls hP hD hS hl hok
      obtain ⟨y20, hok, hL20, hR20⟩ := lp_step hok
      have L38 : ∀ (fuel : Nat) (y3_38 : Int32) (y5_38 : Int32) (vM_trial_38 : Nat → Int32), ∀ (H : Heap) (locs : List Loc) (ls : Array Slot), va_P D vwCl (wX9_keptBy cy aM qM vM vM_st vM_trial_38 vM_r) H → va_D A (wX9_keptBy cy aM qM vM vM_st vM_trial_38 vM_r) → va_S A s.heap H locs → lv_has ls 6 [(0, .ref aM), (2, .int x2), (3, .int y3_38), (4, .int y4_20), (5, .int y5_38)] → lp (fX9_keptBy_B38 vM_r y4_20) fuel (y3_38, y5_38, vM_trial_38) = some y20 → W p l e ({ frames := 5, cells := 0, slots := 0, locals := 114 } : Room) s m ([.ref aM, .int x1, .int x2] : List Value).toArray below meth c H locs 0 0 Q (F0 m 38 ls []) := by
        intro fuel
        induction fuel with
        | zero => intro y3_38 y5_38 vM_trial_38 H locs ls hP hD hS hl hok; exact (lp_0 hok).elim
        | succ fuel ih38 =>
          intro y3_38 y5_38 vM_trial_38 H locs ls hP hD hS hl hok
          obtain ⟨y38, hok, hL38, hR38⟩ := lp_step hok
          have J117 : ∀ (t0_117 : Int32), ∀ (H : Heap) (locs : List Loc) (ls : Array Slot), va_P D vwCl (wX9_keptBy cy aM qM vM vM_st vM_trial_38 vM_r) H → va_D A (wX9_keptBy cy aM qM vM vM_st vM_trial_38 vM_r) → va_S A s.heap H locs → lv_has ls 6 [(0, .ref aM), (2, .int x2), (4, .int y4_20), (5, .int y5_38)] → fX9_keptBy_J117 y3_38 y5_38 vM_trial_38 t0_117 = some y38 → W p l e ({ frames := 5, cells := 0, slots := 0, locals := 114 } : Room) s m ([.ref aM, .int x1, .int x2] : List Value).toArray below meth c H locs 0 0 Q (F0 m 117 ls [.int t0_117, .int y3_38]) := by
            intro t0_117 H locs ls hP hD hS hl hok
            unfold fX9_keptBy_J117 at hok
            refine lv_ior hx hb dX9_keptBy_117 ?_
            refine lv_istore_n (lv' := [(3, .int (y3_38 ||| t0_117)), (0, .ref aM), (2, .int x2), (4, .int y4_20), (5, .int y5_38)]) hx hb dX9_keptBy_118 rfl hl (by decide) rfl (fun ls hl => ?_)
            refine lv_iinc (v := (y5_38 + 1)) (lv' := [(5, .int (y5_38 + 1)), (3, .int (y3_38 ||| t0_117)), (0, .ref aM), (2, .int x2), (4, .int y4_20)]) hx hb dX9_keptBy_119 hl (k := 4) rfl (by first | rfl | decide) (by decide) rfl (fun ls hl => ?_)
            refine lv_goto (tgt := 38) hx hb dX9_keptBy_122 (by decide) ?_
            exact ih38 (y3_38 ||| t0_117) (y5_38 + 1) vM_trial_38 H locs ls hP hD hS (lv_sub hl [2, 3, 1, 4, 0] rfl) (hR38 _ (Option.some.inj hok).symm)
          have J116 : ∀ (H : Heap) (locs : List Loc) (ls : Array Slot), va_P D vwCl (wX9_keptBy cy aM qM vM vM_st vM_trial_38 vM_r) H → va_D A (wX9_keptBy cy aM qM vM vM_st vM_trial_38 vM_r) → va_S A s.heap H locs → lv_has ls 6 [(0, .ref aM), (2, .int x2), (4, .int y4_20), (5, .int y5_38)] → fX9_keptBy_J116 y3_38 y5_38 vM_trial_38 = some y38 → W p l e ({ frames := 5, cells := 0, slots := 0, locals := 114 } : Room) s m ([.ref aM, .int x1, .int x2] : List Value).toArray below meth c H locs 0 0 Q (F0 m 116 ls [.int y3_38]) := by
            intro  H locs ls hP hD hS hl hok
            unfold fX9_keptBy_J116 at hok
            refine lv_iconst (v := 0) hx hb dX9_keptBy_116 (by decide) ?_
            exact J117 (0 : Int32) H locs ls hP hD hS (lv_sub hl [0, 1, 2, 3] rfl) hok
          unfold fX9_keptBy_B38 at hok
          try dsimp only at hok
          refine lv_iload hx hb dX9_keptBy_38 (lv_at hl 4 rfl) ?_
          refine lv_aload_n hx hb dX9_keptBy_40 rfl (lv_at hl 0 rfl) ?_
          refine va_get (D := D) (ci := 8) (v := .ref (qM 15)) (C := RX9) (T := TX9) (N := 29) hx hb ht0 niX9 hown hK hP 0 rfl rfl 15 (by decide) (ht0 _ wd854) (fun _ h9 => h9) rfl dX9_keptBy_41 ?_
          refine lv_bipush (v := 6) hx hb dX9_keptBy_44 (by decide) ?_
          obtain ⟨g46, hok⟩ := gd_some hok
          refine va_iald hx hb hK hP 3 0 rfl rfl (okI_in g46) dX9_keptBy_46 ?_
          refine lv_icmp_ge (tgt := 125) hx hb dX9_keptBy_47 (by decide) (fun c47 => ?_) (fun c47 => ?_)
          · have hok := k_pos c47 hok
            obtain ⟨e38, hok, he38⟩ := ex_some hok
            have hok := hok.trans (congrArg some (hL38 _ he38))
            refine lv_iinc (v := (y4_20 + 1)) (lv' := [(4, .int (y4_20 + 1)), (0, .ref aM), (2, .int x2), (3, .int y3_38), (5, .int y5_38)]) hx hb dX9_keptBy_125 hl (k := 3) rfl (by first | rfl | decide) (by decide) rfl (fun ls hl => ?_)
            refine lv_goto (tgt := 20) hx hb dX9_keptBy_128 (by decide) ?_
            exact ih20 y3_38 (y4_20 + 1) vM_trial_38 H locs ls hP hD hS (lv_sub hl [1, 2, 3, 0] rfl) (hR20 _ (Option.some.inj hok).symm)
          · have hok := k_neg c47 hok
            refine lv_iload_n hx hb dX9_keptBy_50 rfl (lv_at hl 2 rfl) ?_
            refine lv_aload_n hx hb dX9_keptBy_51 rfl (lv_at hl 0 rfl) ?_
            refine va_get (D := D) (ci := 8) (v := .ref (qM 15)) (C := RX9) (T := TX9) (N := 29) hx hb ht0 niX9 hown hK hP 0 rfl rfl 15 (by decide) (ht0 _ wd854) (fun _ h9 => h9) rfl dX9_keptBy_52 ?_
            refine lv_bipush (v := 83) hx hb dX9_keptBy_55 (by decide) ?_
            refine lv_iconst (v := 4) hx hb dX9_keptBy_57 (by decide) ?_
            refine lv_iload hx hb dX9_keptBy_58 (lv_at hl 4 rfl) ?_
            refine lv_imul hx hb dX9_keptBy_60 ?_
            refine lv_iadd hx hb dX9_keptBy_61 ?_
            refine lv_iconst (v := 2) hx hb dX9_keptBy_62 (by decide) ?_
            refine lv_iadd hx hb dX9_keptBy_63 ?_
            obtain ⟨g64, hok⟩ := gd_some hok
            refine va_iald hx hb hK hP 3 0 rfl rfl (okI_in g64) dX9_keptBy_64 ?_
            refine lv_aload_n hx hb dX9_keptBy_65 rfl (lv_at hl 0 rfl) ?_
            refine va_get (D := D) (ci := 8) (v := .ref (qM 22)) (C := RX9) (T := TX9) (N := 29) hx hb ht0 niX9 hown hK hP 0 rfl rfl 22 (by decide) (ht0 _ wd921) (fun _ h9 => h9) rfl dX9_keptBy_66 ?_
            refine lv_bipush (v := 8) hx hb dX9_keptBy_69 (by decide) ?_
            obtain ⟨g71, hok⟩ := gd_some hok
            refine va_iald hx hb hK hP 2 0 rfl rfl (okI_in g71) dX9_keptBy_71 ?_
            refine lv_icmp_ne (tgt := 116) hx hb dX9_keptBy_72 (by decide) (fun c72 => ?_) (fun c72 => ?_)
            · have hok := k_neg c72 hok
              exact J116  H locs ls hP hD hS (lv_sub hl [0, 1, 3, 4] rfl) hok
            · have hok := k_pos c72 hok
              refine lv_aload_n hx hb dX9_keptBy_75 rfl (lv_at hl 0 rfl) ?_
              refine va_get (D := D) (ci := 8) (v := .ref (qM 22)) (C := RX9) (T := TX9) (N := 29) hx hb ht0 niX9 hown hK hP 0 rfl rfl 22 (by decide) (ht0 _ wd921) (fun _ h9 => h9) rfl dX9_keptBy_76 ?_
              refine lv_aload_n hx hb dX9_keptBy_79 rfl (lv_at hl 0 rfl) ?_
              refine va_get (D := D) (ci := 8) (v := .ref (qM 15)) (C := RX9) (T := TX9) (N := 29) hx hb ht0 niX9 hown hK hP 0 rfl rfl 15 (by decide) (ht0 _ wd854) (fun _ h9 => h9) rfl dX9_keptBy_80 ?_
              refine lv_bipush (v := 83) hx hb dX9_keptBy_83 (by decide) ?_
              refine lv_iconst (v := 4) hx hb dX9_keptBy_85 (by decide) ?_
              refine lv_iload hx hb dX9_keptBy_86 (lv_at hl 4 rfl) ?_
              refine lv_imul hx hb dX9_keptBy_88 ?_
              refine lv_iadd hx hb dX9_keptBy_89 ?_
              obtain ⟨g90, hok⟩ := gd_some hok
              refine va_iald hx hb hK hP 3 0 rfl rfl (okI_in g90) dX9_keptBy_90 ?_
              obtain ⟨g91, hok⟩ := gd_some hok
              refine va_iald hx hb hK hP 2 0 rfl rfl (okI_in g91) dX9_keptBy_91 ?_
              refine lv_aload_n hx hb dX9_keptBy_92 rfl (lv_at hl 0 rfl) ?_
              refine va_get (D := D) (ci := 8) (v := .ref (qM 15)) (C := RX9) (T := TX9) (N := 29) hx hb ht0 niX9 hown hK hP 0 rfl rfl 15 (by decide) (ht0 _ wd854) (fun _ h9 => h9) rfl dX9_keptBy_93 ?_
              refine lv_bipush (v := 83) hx hb dX9_keptBy_96 (by decide) ?_
              refine lv_iconst (v := 4) hx hb dX9_keptBy_98 (by decide) ?_
              refine lv_iload hx hb dX9_keptBy_99 (lv_at hl 4 rfl) ?_
              refine lv_imul hx hb dX9_keptBy_101 ?_
              refine lv_iadd hx hb dX9_keptBy_102 ?_
              refine lv_iconst (v := 1) hx hb dX9_keptBy_103 (by decide) ?_
              refine lv_iadd hx hb dX9_keptBy_104 ?_
              obtain ⟨g105, hok⟩ := gd_some hok
              refine va_iald hx hb hK hP 3 0 rfl rfl (okI_in g105) dX9_keptBy_105 ?_
              refine lv_icmp_ne (tgt := 116) hx hb dX9_keptBy_106 (by decide) (fun c106 => ?_) (fun c106 => ?_)
              · have hok := k_neg c106 hok
                exact J116  H locs ls hP hD hS (lv_sub hl [0, 1, 3, 4] rfl) hok
              · have hok := k_pos c106 hok
                refine lv_iconst (v := 1) hx hb dX9_keptBy_109 (by decide) ?_
                refine lv_iload hx hb dX9_keptBy_110 (lv_at hl 4 rfl) ?_
                refine lv_ishl hx hb dX9_keptBy_112 ?_
                refine lv_goto (tgt := 117) hx hb dX9_keptBy_113 (by decide) ?_
                exact J117 (isl (1 : Int32) y5_38) H locs ls hP hD hS (lv_sub hl [0, 1, 3, 4] rfl) hok
      unfold fX9_keptBy_B20 at hok
      try dsimp only at hok
      refine lv_iload hx hb dX9_keptBy_20 (lv_at hl 3 rfl) ?_
      refine lv_iload_n hx hb dX9_keptBy_22 rfl (lv_at hl 1 rfl) ?_
      refine lv_icmp_ge (tgt := 131) hx hb dX9_keptBy_23 (by decide) (fun c23 => ?_) (fun c23 => ?_)
      · have hok := k_pos c23 hok
        obtain ⟨e20, hok, he20⟩ := ex_some hok
        have hok := hok.trans (congrArg some (hL20 _ he20))
        refine lv_iload_n hx hb dX9_keptBy_131 rfl (lv_at hl 2 rfl) ?_
        cases hok
        subst hQe; exact W.iret hx hb hr (fun t ht hW => ⟨⟨_, (), rfl, rfl, by rw [ht]; exact hP, va_K.moved hW.alike hK, hD⟩, hS.F ht⟩) hS.2.2 dX9_keptBy_132
      · have hok := k_neg c23 hok
        refine lv_aload_n hx hb dX9_keptBy_26 rfl (lv_at hl 0 rfl) ?_
        refine lv_aload_n hx hb dX9_keptBy_27 rfl (lv_at hl 0 rfl) ?_
        refine va_get (D := D) (ci := 8) (v := .ref (qM 22)) (C := RX9) (T := TX9) (N := 29) hx hb ht0 niX9 hown hK hP 0 rfl rfl 22 (by decide) (ht0 _ wd921) (fun _ h9 => h9) rfl dX9_keptBy_28 ?_
        obtain ⟨⟨r31, p1_31⟩, hc31, hok⟩ := k_bind hok
        try dsimp only at hok
        refine kCi (wc := (wX9_nightOf cy aM (qM 22) qM vM vM_r 9 vM_trial_20)) (wc2 := (wX9_nightOf cy aM (qM 22) qM vM vM_r 9 p1_31)) (wr := [(qM 17, rI cy 9 vM_st)]) (ws2 := (wX9_keptBy cy aM qM vM vM_st p1_31 vM_r)) (kRunV (As := [.ref (qM 22)]) (rest := []) ⟨hx, hb, hml, hown, ht0⟩ (kX9_nightOf l D cy _ aM (qM 22) qM vM vM_r 9 vM_trial_20 r31 p1_31 hc31 _ rfl) (cwV 1 ht0 (gV wd940 wd941 wd942 wd744 wd943) rfl rfl rfl (by decide +kernel) ⟨Nat.le_of_ble_eq_true rfl, Nat.le_of_ble_eq_true rfl⟩) hK hN hP hD [0, 3, 2] rfl (by decide) 0 8 rfl rfl rfl hl.1 rfl (Nat.le_of_ble_eq_true rfl) dX9_keptBy_31 ⟨Nat.zero_le _, Nat.zero_le _⟩) hP hD hS hA [0, 3, 2] [1] rfl rfl (by decide) (by decide) [1, 0, 3, 2] (by decide) rfl rfl (fun H locs hP hD hS => ?_)
        refine lv_pop hx hb dX9_keptBy_34 rfl ?_
        refine lv_iconst (v := 0) hx hb dX9_keptBy_35 (by decide) ?_
        refine lv_istore (lv' := [(5, .int 0), (0, .ref aM), (2, .int x2), (3, .int y3_20), (4, .int y4_20)]) hx hb dX9_keptBy_36 hl (by decide) rfl (fun ls hl => ?_)
        exact L38 5000 y3_20 (0 : Int32) p1_31 H locs ls hP hD hS (lv_sub hl [1, 2, 3, 4, 0] rfl) hok
  unfold fX9_keptBy at hok
  obtain ⟨H, hH⟩ : ∃ H, H = s.heap := ⟨_, rfl⟩
  obtain ⟨locs, hlc⟩ : ∃ x : List Loc, x = [] := ⟨_, rfl⟩
  have hP : va_P D vwCl (wX9_keptBy cy aM qM vM vM_st vM_trial vM_r) H := by rw [hH]; exact hP
  have hS : va_S A s.heap H locs := by rw [hH, hlc]; exact hS
  rw [show W p l e _ s m _ below meth c s.heap [] = W p l e _ s m _ below meth c H locs from by rw [hH, hlc]]
  refine lv_aload_n hx hb dX9_keptBy_0 rfl (lv_at hl 0 rfl) ?_
  obtain ⟨vM_trial_1, hc1, hok⟩ := k_bind hok
  refine kCv (wc := (wX9_begin cy aM qM vM vM_st vM_trial)) (wc2 := (wX9_begin cy aM qM vM vM_st vM_trial_1)) (wr := [(qM 15, rI cy 224 vM_r)]) (ws2 := (wX9_keptBy cy aM qM vM vM_st vM_trial_1 vM_r)) (kRunV (As := []) (rest := []) ⟨hx, hb, hml, hown, ht0⟩ (kX9_begin l D cy _ aM qM vM vM_st vM_trial vM_trial_1 hc1 _ rfl) (cwV 0 ht0 (gV wd948 wd949 wd950 wd744 wd951) rfl rfl rfl (by decide +kernel) ⟨Nat.le_of_ble_eq_true rfl, Nat.le_of_ble_eq_true rfl⟩) hK hN hP hD [0, 1, 2] rfl (by decide) 0 8 rfl rfl rfl hl.1 rfl (Nat.le_of_ble_eq_true rfl) dX9_keptBy_1 ⟨Nat.zero_le _, Nat.zero_le _⟩) hP hD hS hA [0, 1, 2] [3] rfl rfl (by decide) (by decide) [1, 2, 3, 0] (by decide) rfl rfl (fun H locs hP hD hS => ?_)
  refine lv_aload_n hx hb dX9_keptBy_4 rfl (lv_at hl 0 rfl) ?_
  refine va_get (D := D) (ci := 8) (v := .ref (qM 22)) (C := RX9) (T := TX9) (N := 29) hx hb ht0 niX9 hown hK hP 0 rfl rfl 22 (by decide) (ht0 _ wd921) (fun _ h9 => h9) rfl dX9_keptBy_5 ?_
  refine lv_bipush (v := 7) hx hb dX9_keptBy_8 (by decide) ?_
  refine lv_dup2_11 hx hb dX9_keptBy_10 rfl rfl ?_
  obtain ⟨g11, hok⟩ := gd_some hok
  refine va_iald hx hb hK hP 2 0 rfl rfl (okI_in g11) dX9_keptBy_11 ?_
  refine lv_iload_n hx hb dX9_keptBy_12 rfl (lv_at hl 1 rfl) ?_
  refine lv_ior hx hb dX9_keptBy_13 ?_
  obtain ⟨g14, hok⟩ := gd_some hok
  refine va_iast hx hb hK hP hD hS 2 0 rfl rfl (okI_in g14) dX9_keptBy_14 (fun H locs hP hD hS => ?_)
  have hP : va_P D vwCl (wX9_keptBy cy aM qM vM vM_st (upd vM_trial_1 (7 : Int32).toNatClampNeg ((vM_trial_1 (7 : Int32).toNatClampNeg) ||| x1)) vM_r) H := hP
  have hD : va_D A (wX9_keptBy cy aM qM vM vM_st (upd vM_trial_1 (7 : Int32).toNatClampNeg ((vM_trial_1 (7 : Int32).toNatClampNeg) ||| x1)) vM_r) := hD
  refine lv_iconst (v := 0) hx hb dX9_keptBy_15 (by decide) ?_
  refine lv_istore_n (lv' := [(3, .int 0), (0, .ref aM), (1, .int x1), (2, .int x2)]) hx hb dX9_keptBy_16 rfl hl (by decide) rfl (fun ls hl => ?_)
  refine lv_iconst (v := 0) hx hb dX9_keptBy_17 (by decide) ?_
  refine lv_istore (lv' := [(4, .int 0), (3, .int 0), (0, .ref aM), (1, .int x1), (2, .int x2)]) hx hb dX9_keptBy_18 hl (by decide) rfl (fun ls hl => ?_)
  exact L20 5000 (0 : Int32) (0 : Int32) (upd vM_trial_1 (7 : Int32).toNatClampNeg ((vM_trial_1 (7 : Int32).toNatClampNeg) ||| x1)) H locs ls hP hD hS (lv_sub hl [2, 4, 1, 0] rfl) hok
def wsX9_payOf : List Cond := .code yX9_payOf cX9_payOf 4 (some .int) :: W0
abbrev wX9_payOf (cy : Nat → ClassId) (aM : Nat) (qM : Nat → Nat) (vM : Nat → Int32) (vM_r : Nat → Int32) : va_W := [(aM, oX9 vM qM), (qM 15, rI cy 224 vM_r)]
set_option maxHeartbeats 4000000 in
set_option maxRecDepth 100000 in
theorem kX9_payOf (l : Launch) (D : va_G) (cy : Nat → ClassId) (sz : Nat) (aM : Nat) (qM : Nat → Nat) (vM : Nat → Int32) (vM_r : Nat → Int32) (x1 : Int32) (zr : Int32) (hok : fX9_payOf vM vM_r x1 = some zr) (A : Nat → Prop) (hAe : va_A (wX9_payOf cy aM qM vM vM_r) sz = A) : Met l yX9_payOf wsX9_payOf ({ frames := 1, cells := 0, slots := 0, locals := 21 } : Room) (kPre D cy [.ref aM, .int x1] (wX9_payOf cy aM qM vM vM_r) sz) (kQi D cy zr A (wX9_payOf cy aM qM vM vM_r)) 0 0 A := by
  refine Met.ofW (cc := cX9_payOf) (maxL := 4) (ret := (some .int)) (by decide) rfl ?_
  intro p e s m args below meth c s₁ B hml hv
  obtain ⟨rfl, hsz, hP, hK, hD0, hN⟩ := hv
  have hx := B.exec
  have hb := B.bytes
  have hr := B.returns
  have ht0 : ∀ w ∈ W0, w.before _ s = true := fun w h => atoms_spec (ws := wsX9_payOf) B.pre w (List.mem_cons_of_mem _ h)
  have hown : s.vm.findClass RX9 = some m.cls := findClass_of_methodNamed B.named
  have hlocks := B.notSynchronized
  subst hsz
  have hD : va_D A (wX9_payOf cy aM qM vM vM_r) := by rw [← hAe]; exact hD0.self
  have hA : ∀ q : Nat, s.heap.size ≤ q → A q := fun q h => by rw [← hAe]; exact Or.inr h
  have hS : va_S A s.heap s.heap [] := va_S.rf
  have hl := lv_entry ([.ref aM, .int x1]) (n := 4) (Nat.le_of_ble_eq_true rfl)
  rw [lg_entry_eq]
  generalize (lg_sl ([.ref aM, .int x1]) ++ List.replicate (4 - (lg_sl ([.ref aM, .int x1])).length) Slot.unset).toArray = ls at hl ⊢
  have hl : lv_has ls 4 [(0, .ref aM), (1, .int x1)] := hl
  generalize hQe : MQ below (kQi D cy zr A (wX9_payOf cy aM qM vM vM_r)) ([.ref aM, .int x1] : List Value).toArray s 0 0 A = Q
  have L4 : ∀ (fuel : Nat) (y2_4 : Int32) (y3_4 : Int32), ∀ (H : Heap) (locs : List Loc) (ls : Array Slot), va_P D vwCl (wX9_payOf cy aM qM vM vM_r) H → va_D A (wX9_payOf cy aM qM vM vM_r) → va_S A s.heap H locs → lv_has ls 4 [(0, .ref aM), (1, .int x1), (2, .int y2_4), (3, .int y3_4)] → lp (fX9_payOf_B4 vM_r x1) fuel (y2_4, y3_4) = some zr → W p l e ({ frames := 1, cells := 0, slots := 0, locals := 21 } : Room) s m ([.ref aM, .int x1] : List Value).toArray below meth c H locs 0 0 Q (F0 m 4 ls []) := by
    intro fuel
    induction fuel with
    | zero => intro y2_4 y3_4 H locs ls hP hD hS hl hok; exact (lp_0 hok).elim
    | succ fuel ih4 =>
      intro y2_4 y3_4 H locs ls hP hD hS hl hok
      obtain ⟨y4, hok, hL4, hR4⟩ := lp_step hok
      have J41 : ∀ (t0_41 : Int32), ∀ (H : Heap) (locs : List Loc) (ls : Array Slot), va_P D vwCl (wX9_payOf cy aM qM vM vM_r) H → va_D A (wX9_payOf cy aM qM vM vM_r) → va_S A s.heap H locs → lv_has ls 4 [(0, .ref aM), (1, .int x1), (3, .int y3_4)] → fX9_payOf_J41 y2_4 y3_4 t0_41 = some y4 → W p l e ({ frames := 1, cells := 0, slots := 0, locals := 21 } : Room) s m ([.ref aM, .int x1] : List Value).toArray below meth c H locs 0 0 Q (F0 m 41 ls [.int t0_41, .int y2_4]) := by
        intro t0_41 H locs ls hP hD hS hl hok
        unfold fX9_payOf_J41 at hok
        refine lv_iadd hx hb dX9_payOf_41 ?_
        refine lv_istore_n (lv' := [(2, .int (y2_4 + t0_41)), (0, .ref aM), (1, .int x1), (3, .int y3_4)]) hx hb dX9_payOf_42 rfl hl (by decide) rfl (fun ls hl => ?_)
        refine lv_iinc (v := (y3_4 + 1)) (lv' := [(3, .int (y3_4 + 1)), (2, .int (y2_4 + t0_41)), (0, .ref aM), (1, .int x1)]) hx hb dX9_payOf_43 hl (k := 3) rfl (by first | rfl | decide) (by decide) rfl (fun ls hl => ?_)
        refine lv_goto (tgt := 4) hx hb dX9_payOf_46 (by decide) ?_
        exact ih4 (y2_4 + t0_41) (y3_4 + 1) H locs ls hP hD hS (lv_sub hl [2, 3, 1, 0] rfl) (hR4 _ (Option.some.inj hok).symm)
      unfold fX9_payOf_B4 at hok
      try dsimp only at hok
      refine lv_iload_n hx hb dX9_payOf_4 rfl (lv_at hl 3 rfl) ?_
      refine lv_aload_n hx hb dX9_payOf_5 rfl (lv_at hl 0 rfl) ?_
      refine va_get (D := D) (ci := 8) (v := .ref (qM 15)) (C := RX9) (T := TX9) (N := 29) hx hb ht0 niX9 hown hK hP 0 rfl rfl 15 (by decide) (ht0 _ wd854) (fun _ h9 => h9) rfl dX9_payOf_6 ?_
      refine lv_bipush (v := 6) hx hb dX9_payOf_9 (by decide) ?_
      obtain ⟨g11, hok⟩ := gd_some hok
      refine va_iald hx hb hK hP 1 0 rfl rfl (okI_in g11) dX9_payOf_11 ?_
      refine lv_icmp_ge (tgt := 49) hx hb dX9_payOf_12 (by decide) (fun c12 => ?_) (fun c12 => ?_)
      · have hok := k_pos c12 hok
        obtain ⟨e4, hok, he4⟩ := ex_some hok
        have hok := hok.trans (congrArg some (hL4 _ he4))
        refine lv_iload_n hx hb dX9_payOf_49 rfl (lv_at hl 2 rfl) ?_
        cases hok
        subst hQe; exact W.iret hx hb hr (fun t ht hW => ⟨⟨_, (), rfl, rfl, by rw [ht]; exact hP, va_K.moved hW.alike hK, hD⟩, hS.F ht⟩) hS.2.2 dX9_payOf_50
      · have hok := k_neg c12 hok
        refine lv_iload_n hx hb dX9_payOf_15 rfl (lv_at hl 2 rfl) ?_
        refine lv_iload_n hx hb dX9_payOf_16 rfl (lv_at hl 1 rfl) ?_
        refine lv_iload_n hx hb dX9_payOf_17 rfl (lv_at hl 3 rfl) ?_
        obtain ⟨r18, hc18, hok⟩ := k_bind hok
        refine kCi (wc := (wX9_hasBit cy )) (wc2 := (wX9_hasBit cy )) (wr := [(aM, oX9 vM qM), (qM 15, rI cy 224 vM_r)]) (ws2 := (wX9_payOf cy aM qM vM vM_r)) (kRunS (As := [.int x1, .int y3_4]) (rest := [.int y2_4]) ⟨hx, hb, hml, hown, ht0⟩ (kX9_hasBit l D cy _ x1 y3_4 r18 hc18 _ rfl) (va_cwS 2 ht0 (gS wd894 wd895 wd744 wd896) rfl rfl rfl (by decide +kernel) ⟨Nat.le_of_ble_eq_true rfl, Nat.le_of_ble_eq_true rfl⟩) hK hN hP hD [] rfl (by decide) rfl hl.1 rfl (Nat.le_of_ble_eq_true rfl) dX9_payOf_18 ⟨Nat.zero_le _, Nat.zero_le _⟩) hP hD hS hA [] [0, 1] rfl rfl (by decide) (by decide) [0, 1] (by decide) rfl rfl (fun H locs hP hD hS => ?_)
        refine lv_if_eq (tgt := 40) hx hb dX9_payOf_21 (by decide) (fun c21 => ?_) (fun c21 => ?_)
        · have hok := k_pos c21 hok
          refine lv_iconst (v := 0) hx hb dX9_payOf_40 (by decide) ?_
          exact J41 (0 : Int32) H locs ls hP hD hS (lv_sub hl [0, 1, 3] rfl) hok
        · have hok := k_neg c21 hok
          refine lv_aload_n hx hb dX9_payOf_24 rfl (lv_at hl 0 rfl) ?_
          refine va_get (D := D) (ci := 8) (v := .ref (qM 15)) (C := RX9) (T := TX9) (N := 29) hx hb ht0 niX9 hown hK hP 0 rfl rfl 15 (by decide) (ht0 _ wd854) (fun _ h9 => h9) rfl dX9_payOf_25 ?_
          refine lv_bipush (v := 83) hx hb dX9_payOf_28 (by decide) ?_
          refine lv_iconst (v := 4) hx hb dX9_payOf_30 (by decide) ?_
          refine lv_iload_n hx hb dX9_payOf_31 rfl (lv_at hl 3 rfl) ?_
          refine lv_imul hx hb dX9_payOf_32 ?_
          refine lv_iadd hx hb dX9_payOf_33 ?_
          refine lv_iconst (v := 3) hx hb dX9_payOf_34 (by decide) ?_
          refine lv_iadd hx hb dX9_payOf_35 ?_
          obtain ⟨g36, hok⟩ := gd_some hok
          refine va_iald hx hb hK hP 1 0 rfl rfl (okI_in g36) dX9_payOf_36 ?_
          refine lv_goto (tgt := 41) hx hb dX9_payOf_37 (by decide) ?_
          exact J41 (vM_r (((83 : Int32) + ((4 : Int32) * y3_4)) + (3 : Int32)).toNatClampNeg) H locs ls hP hD hS (lv_sub hl [0, 1, 3] rfl) hok
  unfold fX9_payOf at hok
  obtain ⟨H, hH⟩ : ∃ H, H = s.heap := ⟨_, rfl⟩
  obtain ⟨locs, hlc⟩ : ∃ x : List Loc, x = [] := ⟨_, rfl⟩
  have hP : va_P D vwCl (wX9_payOf cy aM qM vM vM_r) H := by rw [hH]; exact hP
  have hS : va_S A s.heap H locs := by rw [hH, hlc]; exact hS
  rw [show W p l e _ s m _ below meth c s.heap [] = W p l e _ s m _ below meth c H locs from by rw [hH, hlc]]
  refine lv_iconst (v := 0) hx hb dX9_payOf_0 (by decide) ?_
  refine lv_istore_n (lv' := [(2, .int 0), (0, .ref aM), (1, .int x1)]) hx hb dX9_payOf_1 rfl hl (by decide) rfl (fun ls hl => ?_)
  refine lv_iconst (v := 0) hx hb dX9_payOf_2 (by decide) ?_
  refine lv_istore_n (lv' := [(3, .int 0), (2, .int 0), (0, .ref aM), (1, .int x1)]) hx hb dX9_payOf_3 rfl hl (by decide) rfl (fun ls hl => ?_)
  exact L4 5000 (0 : Int32) (0 : Int32) H locs ls hP hD hS (lv_sub hl [2, 3, 1, 0] rfl) hok
def wsX9_bestOf : List Cond := .code yX9_bestOf cX9_bestOf 6 (some .int) :: W0
abbrev wX9_bestOf (cy : Nat → ClassId) (aM : Nat) (qM : Nat → Nat) (vM : Nat → Int32) (vM_st : Nat → Int32) (vM_trial : Nat → Int32) (vM_r : Nat → Int32) : va_W := [(aM, oX9 vM qM), (qM 17, rI cy 9 vM_st), (qM 22, rI cy 9 vM_trial), (qM 15, rI cy 224 vM_r)]
set_option maxHeartbeats 4000000 in
set_option maxRecDepth 100000 in
theorem kX9_bestOf (l : Launch) (D : va_G) (cy : Nat → ClassId) (sz : Nat) (aM : Nat) (qM : Nat → Nat) (vM : Nat → Int32) (vM_st : Nat → Int32) (vM_trial : Nat → Int32) (vM_r : Nat → Int32) (x1 : Int32) (zr : Int32) (z_vM_trial : Nat → Int32) (hok : fX9_bestOf vM vM_st vM_trial vM_r x1 = some (zr, z_vM_trial)) (A : Nat → Prop) (hAe : va_A (wX9_bestOf cy aM qM vM vM_st vM_trial vM_r) sz = A) : Met l yX9_bestOf wsX9_bestOf ({ frames := 6, cells := 0, slots := 0, locals := 139 } : Room) (kPre D cy [.ref aM, .int x1] (wX9_bestOf cy aM qM vM vM_st vM_trial vM_r) sz) (kQi D cy zr A (wX9_bestOf cy aM qM vM vM_st z_vM_trial vM_r)) 0 0 A := by
  refine Met.ofW (cc := cX9_bestOf) (maxL := 6) (ret := (some .int)) (by decide) rfl ?_
  intro p e s m args below meth c s₁ B hml hv
  obtain ⟨rfl, hsz, hP, hK, hD0, hN⟩ := hv
  have hx := B.exec
  have hb := B.bytes
  have hr := B.returns
  have ht0 : ∀ w ∈ W0, w.before _ s = true := fun w h => atoms_spec (ws := wsX9_bestOf) B.pre w (List.mem_cons_of_mem _ h)
  have hown : s.vm.findClass RX9 = some m.cls := findClass_of_methodNamed B.named
  have hlocks := B.notSynchronized
  subst hsz
  have hD : va_D A (wX9_bestOf cy aM qM vM vM_st vM_trial vM_r) := by rw [← hAe]; exact hD0.self
  have hA : ∀ q : Nat, s.heap.size ≤ q → A q := fun q h => by rw [← hAe]; exact Or.inr h
  have hS : va_S A s.heap s.heap [] := va_S.rf
  have hl := lv_entry ([.ref aM, .int x1]) (n := 6) (Nat.le_of_ble_eq_true rfl)
  rw [lg_entry_eq]
  generalize (lg_sl ([.ref aM, .int x1]) ++ List.replicate (6 - (lg_sl ([.ref aM, .int x1])).length) Slot.unset).toArray = ls at hl ⊢
  have hl : lv_has ls 6 [(0, .ref aM), (1, .int x1)] := hl
  generalize hQe : MQ below (kQi D cy zr A (wX9_bestOf cy aM qM vM vM_st z_vM_trial vM_r)) ([.ref aM, .int x1] : List Value).toArray s 0 0 A = Q
  have L16 : ∀ (fuel : Nat) (y2_16 : Int32) (y3_16 : Int32) (y4_16 : Int32) (vM_trial_16 : Nat → Int32), ∀ (H : Heap) (locs : List Loc) (ls : Array Slot), va_P D vwCl (wX9_bestOf cy aM qM vM vM_st vM_trial_16 vM_r) H → va_D A (wX9_bestOf cy aM qM vM vM_st vM_trial_16 vM_r) → va_S A s.heap H locs → lv_has ls 6 [(0, .ref aM), (1, .int x1), (2, .int y2_16), (3, .int y3_16), (4, .int y4_16)] → lp (fX9_bestOf_B16 vM vM_st vM_r x1) fuel (y2_16, y3_16, y4_16, vM_trial_16) = some (zr, z_vM_trial) → W p l e ({ frames := 6, cells := 0, slots := 0, locals := 139 } : Room) s m ([.ref aM, .int x1] : List Value).toArray below meth c H locs 0 0 Q (F0 m 16 ls []) := by
    intro fuel
    induction fuel with
    | zero => intro y2_16 y3_16 y4_16 vM_trial_16 H locs ls hP hD hS hl hok; exact (lp_0 hok).elim
    | succ fuel ih16 =>
      intro y2_16 y3_16 y4_16 vM_trial_16 H locs ls hP hD hS hl hok
      obtain ⟨y16, hok, hL16, hR16⟩ := lp_step hok
      have J87 : ∀ (y2_87 : Int32) (y3_87 : Int32) (vM_trial_87 : Nat → Int32), ∀ (H : Heap) (locs : List Loc) (ls : Array Slot), va_P D vwCl (wX9_bestOf cy aM qM vM vM_st vM_trial_87 vM_r) H → va_D A (wX9_bestOf cy aM qM vM vM_st vM_trial_87 vM_r) → va_S A s.heap H locs → lv_has ls 6 [(0, .ref aM), (1, .int x1), (2, .int y2_87), (3, .int y3_87), (4, .int y4_16)] → fX9_bestOf_J87 y4_16 y2_87 y3_87 vM_trial_87 = some y16 → W p l e ({ frames := 6, cells := 0, slots := 0, locals := 139 } : Room) s m ([.ref aM, .int x1] : List Value).toArray below meth c H locs 0 0 Q (F0 m 87 ls []) := by
        intro y2_87 y3_87 vM_trial_87 H locs ls hP hD hS hl hok
        unfold fX9_bestOf_J87 at hok
        refine lv_iinc (v := (y4_16 + 1)) (lv' := [(4, .int (y4_16 + 1)), (0, .ref aM), (1, .int x1), (2, .int y2_87), (3, .int y3_87)]) hx hb dX9_bestOf_87 hl (k := 4) rfl (by first | rfl | decide) (by decide) rfl (fun ls hl => ?_)
        refine lv_goto (tgt := 16) hx hb dX9_bestOf_90 (by decide) ?_
        exact ih16 y2_87 y3_87 (y4_16 + 1) vM_trial_87 H locs ls hP hD hS (lv_sub hl [1, 2, 3, 4, 0] rfl) (hR16 _ (Option.some.inj hok).symm)
      have J81 : ∀ (y5_81 : Int32) (vM_trial_81 : Nat → Int32), ∀ (H : Heap) (locs : List Loc) (ls : Array Slot), va_P D vwCl (wX9_bestOf cy aM qM vM vM_st vM_trial_81 vM_r) H → va_D A (wX9_bestOf cy aM qM vM vM_st vM_trial_81 vM_r) → va_S A s.heap H locs → lv_has ls 6 [(0, .ref aM), (1, .int x1), (4, .int y4_16), (5, .int y5_81)] → fX9_bestOf_J81 y4_16 y5_81 vM_trial_81 = some y16 → W p l e ({ frames := 6, cells := 0, slots := 0, locals := 139 } : Room) s m ([.ref aM, .int x1] : List Value).toArray below meth c H locs 0 0 Q (F0 m 81 ls []) := by
        intro y5_81 vM_trial_81 H locs ls hP hD hS hl hok
        unfold fX9_bestOf_J81 at hok
        refine lv_iload hx hb dX9_bestOf_81 (lv_at hl 2 rfl) ?_
        refine lv_istore_n (lv' := [(2, .int y4_16), (0, .ref aM), (1, .int x1), (4, .int y4_16), (5, .int y5_81)]) hx hb dX9_bestOf_83 rfl hl (by decide) rfl (fun ls hl => ?_)
        refine lv_iload hx hb dX9_bestOf_84 (lv_at hl 4 rfl) ?_
        refine lv_istore_n (lv' := [(3, .int y5_81), (2, .int y4_16), (0, .ref aM), (1, .int x1), (4, .int y4_16), (5, .int y5_81)]) hx hb dX9_bestOf_86 rfl hl (by decide) rfl (fun ls hl => ?_)
        exact J87 y4_16 y5_81 vM_trial_81 H locs ls hP hD hS (lv_sub hl [2, 3, 1, 0, 4] rfl) hok
      unfold fX9_bestOf_B16 at hok
      try dsimp only at hok
      refine lv_iload hx hb dX9_bestOf_16 (lv_at hl 4 rfl) ?_
      refine lv_aload_n hx hb dX9_bestOf_18 rfl (lv_at hl 0 rfl) ?_
      obtain ⟨r19, hc19, hok⟩ := k_bind hok
      refine kCi (wc := (wX9_allThings cy aM qM vM vM_r)) (wc2 := (wX9_allThings cy aM qM vM vM_r)) (wr := [(qM 17, rI cy 9 vM_st), (qM 22, rI cy 9 vM_trial_16)]) (ws2 := (wX9_bestOf cy aM qM vM vM_st vM_trial_16 vM_r)) (kRunV (As := []) (rest := [.int y4_16]) ⟨hx, hb, hml, hown, ht0⟩ (kX9_allThings l D cy _ aM qM vM vM_r r19 hc19 _ rfl) (cwV 0 ht0 (gV wd966 wd967 wd968 wd744 wd969) rfl rfl rfl (by decide +kernel) ⟨Nat.le_of_ble_eq_true rfl, Nat.le_of_ble_eq_true rfl⟩) hK hN hP hD [0, 3] rfl (by decide) 0 8 rfl rfl rfl hl.1 rfl (Nat.le_of_ble_eq_true rfl) dX9_bestOf_19 ⟨Nat.zero_le _, Nat.zero_le _⟩) hP hD hS hA [0, 3] [1, 2] rfl rfl (by decide) (by decide) [2, 0, 1, 3] (by decide) rfl rfl (fun H locs hP hD hS => ?_)
      refine lv_icmp_gt (tgt := 93) hx hb dX9_bestOf_22 (by decide) (fun c22 => ?_) (fun c22 => ?_)
      · have hok := k_pos c22 hok
        obtain ⟨e16, hok, he16⟩ := ex_some hok
        have hok := hok.trans (congrArg some (hL16 _ he16))
        refine lv_iload_n hx hb dX9_bestOf_93 rfl (lv_at hl 2 rfl) ?_
        cases hok
        subst hQe; exact W.iret hx hb hr (fun t ht hW => ⟨⟨_, (), rfl, rfl, by rw [ht]; exact hP, va_K.moved hW.alike hK, hD⟩, hS.F ht⟩) hS.2.2 dX9_bestOf_94
      · have hok := k_neg c22 hok
        refine lv_iload hx hb dX9_bestOf_25 (lv_at hl 4 rfl) ?_
        refine lv_aload_n hx hb dX9_bestOf_27 rfl (lv_at hl 0 rfl) ?_
        refine va_get (D := D) (ci := 8) (v := .ref (qM 17)) (C := RX9) (T := TX9) (N := 29) hx hb ht0 niX9 hown hK hP 0 rfl rfl 17 (by decide) (ht0 _ wd858) (fun _ h9 => h9) rfl dX9_bestOf_28 ?_
        refine lv_bipush (v := 7) hx hb dX9_bestOf_31 (by decide) ?_
        obtain ⟨g33, hok⟩ := gd_some hok
        refine va_iald hx hb hK hP 1 0 rfl rfl (okI_in g33) dX9_bestOf_33 ?_
        refine lv_iand hx hb dX9_bestOf_34 ?_
        refine lv_if_eq (tgt := 41) hx hb dX9_bestOf_35 (by decide) (fun c35 => ?_) (fun c35 => ?_)
        · have hok := k_pos c35 hok
          refine lv_aload_n hx hb dX9_bestOf_41 rfl (lv_at hl 0 rfl) ?_
          refine lv_aload_n hx hb dX9_bestOf_42 rfl (lv_at hl 0 rfl) ?_
          refine lv_iload hx hb dX9_bestOf_43 (lv_at hl 4 rfl) ?_
          refine lv_iload_n hx hb dX9_bestOf_45 rfl (lv_at hl 1 rfl) ?_
          obtain ⟨⟨r46, vM_trial_46⟩, hc46, hok⟩ := k_bind hok
          try dsimp only at hok
          refine kCi (wc := (wX9_keptBy cy aM qM vM vM_st vM_trial_16 vM_r)) (wc2 := (wX9_keptBy cy aM qM vM vM_st vM_trial_46 vM_r)) (wr := []) (ws2 := (wX9_bestOf cy aM qM vM vM_st vM_trial_46 vM_r)) (kRunV (As := [.int y4_16, .int x1]) (rest := [.ref aM]) ⟨hx, hb, hml, hown, ht0⟩ (kX9_keptBy l D cy _ aM qM vM vM_st vM_trial_16 vM_r y4_16 x1 r46 vM_trial_46 hc46 _ rfl) (cwV 2 ht0 (gV wd974 wd975 wd976 wd744 wd977) rfl rfl rfl (by decide +kernel) ⟨Nat.le_of_ble_eq_true rfl, Nat.le_of_ble_eq_true rfl⟩) hK hN hP hD [0, 1, 2, 3] rfl (by decide) 0 8 rfl rfl rfl hl.1 rfl (Nat.le_of_ble_eq_true rfl) dX9_bestOf_46 ⟨Nat.zero_le _, Nat.zero_le _⟩) hP hD hS hA [0, 1, 2, 3] [] rfl rfl (by decide) (by decide) [0, 1, 2, 3] (by decide) rfl rfl (fun H locs hP hD hS => ?_)
          obtain ⟨r49, hc49, hok⟩ := k_bind hok
          refine kCi (wc := (wX9_payOf cy aM qM vM vM_r)) (wc2 := (wX9_payOf cy aM qM vM vM_r)) (wr := [(qM 17, rI cy 9 vM_st), (qM 22, rI cy 9 vM_trial_46)]) (ws2 := (wX9_bestOf cy aM qM vM vM_st vM_trial_46 vM_r)) (kRunV (As := [.int r46]) (rest := []) ⟨hx, hb, hml, hown, ht0⟩ (kX9_payOf l D cy _ aM qM vM vM_r r46 r49 hc49 _ rfl) (cwV 1 ht0 (gV wd978 wd979 wd980 wd744 wd981) rfl rfl rfl (by decide +kernel) ⟨Nat.le_of_ble_eq_true rfl, Nat.le_of_ble_eq_true rfl⟩) hK hN hP hD [0, 3] rfl (by decide) 0 8 rfl rfl rfl hl.1 rfl (Nat.le_of_ble_eq_true rfl) dX9_bestOf_49 ⟨Nat.zero_le _, Nat.zero_le _⟩) hP hD hS hA [0, 3] [1, 2] rfl rfl (by decide) (by decide) [2, 0, 1, 3] (by decide) rfl rfl (fun H locs hP hD hS => ?_)
          refine lv_istore (lv' := [(5, .int r49), (0, .ref aM), (1, .int x1), (2, .int y2_16), (3, .int y3_16), (4, .int y4_16)]) hx hb dX9_bestOf_52 hl (by decide) rfl (fun ls hl => ?_)
          refine lv_iload hx hb dX9_bestOf_54 (lv_at hl 0 rfl) ?_
          refine lv_iload_n hx hb dX9_bestOf_56 rfl (lv_at hl 4 rfl) ?_
          refine lv_icmp_lt (tgt := 87) hx hb dX9_bestOf_57 (by decide) (fun c57 => ?_) (fun c57 => ?_)
          · have hok := k_pos c57 hok
            exact J87 y2_16 y3_16 vM_trial_46 H locs ls hP hD hS (lv_sub hl [1, 2, 3, 4, 5] rfl) hok
          · have hok := k_neg c57 hok
            refine lv_iload hx hb dX9_bestOf_60 (lv_at hl 0 rfl) ?_
            refine lv_iload_n hx hb dX9_bestOf_62 rfl (lv_at hl 4 rfl) ?_
            refine lv_icmp_ne (tgt := 81) hx hb dX9_bestOf_63 (by decide) (fun c63 => ?_) (fun c63 => ?_)
            · have hok := k_neg c63 hok
              exact J81 r49 vM_trial_46 H locs ls hP hD hS (lv_sub hl [1, 2, 5, 0] rfl) hok
            · have hok := k_pos c63 hok
              refine lv_iload hx hb dX9_bestOf_66 (lv_at hl 5 rfl) ?_
              obtain ⟨r68, hc68, hok⟩ := k_bind hok
              refine kCi (wc := (wX9_ones cy )) (wc2 := (wX9_ones cy )) (wr := [(aM, oX9 vM qM), (qM 17, rI cy 9 vM_st), (qM 22, rI cy 9 vM_trial_46), (qM 15, rI cy 224 vM_r)]) (ws2 := (wX9_bestOf cy aM qM vM vM_st vM_trial_46 vM_r)) (kRunS (As := [.int y4_16]) (rest := []) ⟨hx, hb, hml, hown, ht0⟩ (kX9_ones l D cy _ y4_16 r68 hc68 _ rfl) (va_cwS 1 ht0 (gS wd922 wd923 wd744 wd924) rfl rfl rfl (by decide +kernel) ⟨Nat.le_of_ble_eq_true rfl, Nat.le_of_ble_eq_true rfl⟩) hK hN hP hD [] rfl (by decide) rfl hl.1 rfl (Nat.le_of_ble_eq_true rfl) dX9_bestOf_68 ⟨Nat.zero_le _, Nat.zero_le _⟩) hP hD hS hA [] [0, 1, 2, 3] rfl rfl (by decide) (by decide) [0, 1, 2, 3] (by decide) rfl rfl (fun H locs hP hD hS => ?_)
              refine lv_iload_n hx hb dX9_bestOf_71 rfl (lv_at hl 3 rfl) ?_
              obtain ⟨r72, hc72, hok⟩ := k_bind hok
              refine kCi (wc := (wX9_ones cy )) (wc2 := (wX9_ones cy )) (wr := [(aM, oX9 vM qM), (qM 17, rI cy 9 vM_st), (qM 22, rI cy 9 vM_trial_46), (qM 15, rI cy 224 vM_r)]) (ws2 := (wX9_bestOf cy aM qM vM vM_st vM_trial_46 vM_r)) (kRunS (As := [.int y2_16]) (rest := [.int r68]) ⟨hx, hb, hml, hown, ht0⟩ (kX9_ones l D cy _ y2_16 r72 hc72 _ rfl) (va_cwS 1 ht0 (gS wd922 wd923 wd744 wd924) rfl rfl rfl (by decide +kernel) ⟨Nat.le_of_ble_eq_true rfl, Nat.le_of_ble_eq_true rfl⟩) hK hN hP hD [] rfl (by decide) rfl hl.1 rfl (Nat.le_of_ble_eq_true rfl) dX9_bestOf_72 ⟨Nat.zero_le _, Nat.zero_le _⟩) hP hD hS hA [] [0, 1, 2, 3] rfl rfl (by decide) (by decide) [0, 1, 2, 3] (by decide) rfl rfl (fun H locs hP hD hS => ?_)
              refine lv_icmp_lt (tgt := 81) hx hb dX9_bestOf_75 (by decide) (fun c75 => ?_) (fun c75 => ?_)
              · have hok := k_pos c75 hok
                exact J81 r49 vM_trial_46 H locs ls hP hD hS (lv_sub hl [1, 2, 5, 0] rfl) hok
              · have hok := k_neg c75 hok
                refine lv_goto (tgt := 87) hx hb dX9_bestOf_78 (by decide) ?_
                exact J87 y2_16 y3_16 vM_trial_46 H locs ls hP hD hS (lv_sub hl [1, 2, 3, 4, 5] rfl) hok
        · have hok := k_neg c35 hok
          refine lv_goto (tgt := 87) hx hb dX9_bestOf_38 (by decide) ?_
          exact J87 y2_16 y3_16 vM_trial_16 H locs ls hP hD hS (lv_sub hl [0, 1, 2, 3, 4] rfl) hok
  unfold fX9_bestOf at hok
  obtain ⟨H, hH⟩ : ∃ H, H = s.heap := ⟨_, rfl⟩
  obtain ⟨locs, hlc⟩ : ∃ x : List Loc, x = [] := ⟨_, rfl⟩
  have hP : va_P D vwCl (wX9_bestOf cy aM qM vM vM_st vM_trial vM_r) H := by rw [hH]; exact hP
  have hS : va_S A s.heap H locs := by rw [hH, hlc]; exact hS
  rw [show W p l e _ s m _ below meth c s.heap [] = W p l e _ s m _ below meth c H locs from by rw [hH, hlc]]
  refine lv_iconst (v := 0) hx hb dX9_bestOf_0 (by decide) ?_
  refine lv_istore_n (lv' := [(2, .int 0), (0, .ref aM), (1, .int x1)]) hx hb dX9_bestOf_1 rfl hl (by decide) rfl (fun ls hl => ?_)
  refine lv_aload_n hx hb dX9_bestOf_2 rfl (lv_at hl 1 rfl) ?_
  refine lv_aload_n hx hb dX9_bestOf_3 rfl (lv_at hl 1 rfl) ?_
  refine lv_iconst (v := 0) hx hb dX9_bestOf_4 (by decide) ?_
  refine lv_iload_n hx hb dX9_bestOf_5 rfl (lv_at hl 2 rfl) ?_
  obtain ⟨⟨r6, vM_trial_6⟩, hc6, hok⟩ := k_bind hok
  try dsimp only at hok
  refine kCi (wc := (wX9_keptBy cy aM qM vM vM_st vM_trial vM_r)) (wc2 := (wX9_keptBy cy aM qM vM vM_st vM_trial_6 vM_r)) (wr := []) (ws2 := (wX9_bestOf cy aM qM vM vM_st vM_trial_6 vM_r)) (kRunV (As := [.int 0, .int x1]) (rest := [.ref aM]) ⟨hx, hb, hml, hown, ht0⟩ (kX9_keptBy l D cy _ aM qM vM vM_st vM_trial vM_r (0 : Int32) x1 r6 vM_trial_6 hc6 _ rfl) (cwV 2 ht0 (gV wd974 wd975 wd976 wd744 wd977) rfl rfl rfl (by decide +kernel) ⟨Nat.le_of_ble_eq_true rfl, Nat.le_of_ble_eq_true rfl⟩) hK hN hP hD [0, 1, 2, 3] rfl (by decide) 0 8 rfl rfl rfl hl.1 rfl (Nat.le_of_ble_eq_true rfl) dX9_bestOf_6 ⟨Nat.zero_le _, Nat.zero_le _⟩) hP hD hS hA [0, 1, 2, 3] [] rfl rfl (by decide) (by decide) [0, 1, 2, 3] (by decide) rfl rfl (fun H locs hP hD hS => ?_)
  obtain ⟨r9, hc9, hok⟩ := k_bind hok
  refine kCi (wc := (wX9_payOf cy aM qM vM vM_r)) (wc2 := (wX9_payOf cy aM qM vM vM_r)) (wr := [(qM 17, rI cy 9 vM_st), (qM 22, rI cy 9 vM_trial_6)]) (ws2 := (wX9_bestOf cy aM qM vM vM_st vM_trial_6 vM_r)) (kRunV (As := [.int r6]) (rest := []) ⟨hx, hb, hml, hown, ht0⟩ (kX9_payOf l D cy _ aM qM vM vM_r r6 r9 hc9 _ rfl) (cwV 1 ht0 (gV wd978 wd979 wd980 wd744 wd981) rfl rfl rfl (by decide +kernel) ⟨Nat.le_of_ble_eq_true rfl, Nat.le_of_ble_eq_true rfl⟩) hK hN hP hD [0, 3] rfl (by decide) 0 8 rfl rfl rfl hl.1 rfl (Nat.le_of_ble_eq_true rfl) dX9_bestOf_9 ⟨Nat.zero_le _, Nat.zero_le _⟩) hP hD hS hA [0, 3] [1, 2] rfl rfl (by decide) (by decide) [2, 0, 1, 3] (by decide) rfl rfl (fun H locs hP hD hS => ?_)
  refine lv_istore_n (lv' := [(3, .int r9), (2, .int 0), (0, .ref aM), (1, .int x1)]) hx hb dX9_bestOf_12 rfl hl (by decide) rfl (fun ls hl => ?_)
  refine lv_iconst (v := 1) hx hb dX9_bestOf_13 (by decide) ?_
  refine lv_istore (lv' := [(4, .int 1), (3, .int r9), (2, .int 0), (0, .ref aM), (1, .int x1)]) hx hb dX9_bestOf_14 hl (by decide) rfl (fun ls hl => ?_)
  exact L16 5000 (0 : Int32) r9 (1 : Int32) vM_trial_6 H locs ls hP hD hS (lv_sub hl [3, 4, 2, 1, 0] rfl) hok
def wsX9_pays : List Cond := .code yX9_pays cX9_pays 3 (some .int) :: W0
abbrev wX9_pays (cy : Nat → ClassId) (aM : Nat) (qM : Nat → Nat) (vM : Nat → Int32) (vM_st : Nat → Int32) (vM_trial : Nat → Int32) (vM_r : Nat → Int32) : va_W := [(aM, oX9 vM qM), (qM 17, rI cy 9 vM_st), (qM 22, rI cy 9 vM_trial), (qM 15, rI cy 224 vM_r)]
set_option maxHeartbeats 4000000 in
set_option maxRecDepth 100000 in
theorem kX9_pays (l : Launch) (D : va_G) (cy : Nat → ClassId) (sz : Nat) (aM : Nat) (qM : Nat → Nat) (vM : Nat → Int32) (vM_st : Nat → Int32) (vM_trial : Nat → Int32) (vM_r : Nat → Int32) (x1 : Int32) (zr : Int32) (z_vM : Nat → Int32) (z_vM_trial : Nat → Int32) (hok : fX9_pays vM vM_st vM_trial vM_r x1 = some (zr, z_vM, z_vM_trial)) (A : Nat → Prop) (hAe : va_A (wX9_pays cy aM qM vM vM_st vM_trial vM_r) sz = A) : Met l yX9_pays wsX9_pays ({ frames := 6, cells := 0, slots := 0, locals := 139 } : Room) (kPre D cy [.ref aM, .int x1] (wX9_pays cy aM qM vM vM_st vM_trial vM_r) sz) (kQi D cy zr A (wX9_pays cy aM qM z_vM vM_st z_vM_trial vM_r)) 0 0 A := by
  refine Met.ofW (cc := cX9_pays) (maxL := 3) (ret := (some .int)) (by decide) rfl ?_
  intro p e s m args below meth c s₁ B hml hv
  obtain ⟨rfl, hsz, hP, hK, hD0, hN⟩ := hv
  have hx := B.exec
  have hb := B.bytes
  have hr := B.returns
  have ht0 : ∀ w ∈ W0, w.before _ s = true := fun w h => atoms_spec (ws := wsX9_pays) B.pre w (List.mem_cons_of_mem _ h)
  have hown : s.vm.findClass RX9 = some m.cls := findClass_of_methodNamed B.named
  have hlocks := B.notSynchronized
  subst hsz
  have hD : va_D A (wX9_pays cy aM qM vM vM_st vM_trial vM_r) := by rw [← hAe]; exact hD0.self
  have hA : ∀ q : Nat, s.heap.size ≤ q → A q := fun q h => by rw [← hAe]; exact Or.inr h
  have hS : va_S A s.heap s.heap [] := va_S.rf
  have hl := lv_entry ([.ref aM, .int x1]) (n := 3) (Nat.le_of_ble_eq_true rfl)
  rw [lg_entry_eq]
  generalize (lg_sl ([.ref aM, .int x1]) ++ List.replicate (3 - (lg_sl ([.ref aM, .int x1])).length) Slot.unset).toArray = ls at hl ⊢
  have hl : lv_has ls 3 [(0, .ref aM), (1, .int x1)] := hl
  generalize hQe : MQ below (kQi D cy zr A (wX9_pays cy aM qM z_vM vM_st z_vM_trial vM_r)) ([.ref aM, .int x1] : List Value).toArray s 0 0 A = Q
  have J38 : ∀ (t0_38 : Int32) (vM_trial_38 : Nat → Int32) (vM_38 : Nat → Int32), ∀ (H : Heap) (locs : List Loc) (ls : Array Slot), va_P D vwCl (wX9_pays cy aM qM vM_38 vM_st vM_trial_38 vM_r) H → va_D A (wX9_pays cy aM qM vM_38 vM_st vM_trial_38 vM_r) → va_S A s.heap H locs → lv_has ls 3 [] → fX9_pays_J38 t0_38 vM_trial_38 vM_38 = some (zr, z_vM, z_vM_trial) → W p l e ({ frames := 6, cells := 0, slots := 0, locals := 139 } : Room) s m ([.ref aM, .int x1] : List Value).toArray below meth c H locs 0 0 Q (F0 m 38 ls [.int t0_38]) := by
    intro t0_38 vM_trial_38 vM_38 H locs ls hP hD hS hl hok
    unfold fX9_pays_J38 at hok
    cases hok
    subst hQe; exact W.iret hx hb hr (fun t ht hW => ⟨⟨_, (), rfl, rfl, by rw [ht]; exact hP, va_K.moved hW.alike hK, hD⟩, hS.F ht⟩) hS.2.2 dX9_pays_38
  unfold fX9_pays at hok
  obtain ⟨H, hH⟩ : ∃ H, H = s.heap := ⟨_, rfl⟩
  obtain ⟨locs, hlc⟩ : ∃ x : List Loc, x = [] := ⟨_, rfl⟩
  have hP : va_P D vwCl (wX9_pays cy aM qM vM vM_st vM_trial vM_r) H := by rw [hH]; exact hP
  have hS : va_S A s.heap H locs := by rw [hH, hlc]; exact hS
  rw [show W p l e _ s m _ below meth c s.heap [] = W p l e _ s m _ below meth c H locs from by rw [hH, hlc]]
  refine lv_aload_n hx hb dX9_pays_0 rfl (lv_at hl 0 rfl) ?_
  obtain ⟨vM_1, hc1, hok⟩ := k_bind hok
  refine kCv (wc := (wX9_good cy aM qM vM)) (wc2 := (wX9_good cy aM qM vM_1)) (wr := [(qM 17, rI cy 9 vM_st), (qM 22, rI cy 9 vM_trial), (qM 15, rI cy 224 vM_r)]) (ws2 := (wX9_pays cy aM qM vM_1 vM_st vM_trial vM_r)) (kRunV (As := []) (rest := []) ⟨hx, hb, hml, hown, ht0⟩ (kX9_good l D cy _ aM qM vM vM_1 hc1 _ rfl) (cwV 0 ht0 (gV wd870 wd871 wd872 wd744 wd873) rfl rfl rfl (by decide +kernel) ⟨Nat.le_of_ble_eq_true rfl, Nat.le_of_ble_eq_true rfl⟩) hK hN hP hD [0] rfl (by decide) 0 8 rfl rfl rfl hl.1 rfl (Nat.le_of_ble_eq_true rfl) dX9_pays_1 ⟨Nat.zero_le _, Nat.zero_le _⟩) hP hD hS hA [0] [1, 2, 3] rfl rfl (by decide) (by decide) [3, 0, 1, 2] (by decide) rfl rfl (fun H locs hP hD hS => ?_)
  refine lv_aload_n hx hb dX9_pays_4 rfl (lv_at hl 0 rfl) ?_
  refine lv_aload_n hx hb dX9_pays_5 rfl (lv_at hl 0 rfl) ?_
  refine va_get (D := D) (ci := 8) (v := .int (vM_1 14)) (C := RX9) (T := TX9) (N := 29) hx hb ht0 niX9 hown hK hP 0 rfl rfl 14 (by decide) (ht0 _ wd855) (fun _ h9 => h9) rfl dX9_pays_6 ?_
  refine lv_iload_n hx hb dX9_pays_9 rfl (lv_at hl 1 rfl) ?_
  refine lv_bipush (v := 60) hx hb dX9_pays_10 (by decide) ?_
  obtain ⟨r12, hc12, hok⟩ := k_bind hok
  refine kCi (wc := (wX9_why cy aM)) (wc2 := (wX9_why cy aM)) (wr := [(aM, oX9 vM_1 qM), (qM 17, rI cy 9 vM_st), (qM 22, rI cy 9 vM_trial), (qM 15, rI cy 224 vM_r)]) (ws2 := (wX9_pays cy aM qM vM_1 vM_st vM_trial vM_r)) (kRunV (As := [.int (vM_1 14), .int x1, .int 60]) (rest := []) ⟨hx, hb, hml, hown, ht0⟩ (kX9_why l D cy _ aM (vM_1 14) x1 (60 : Int32) r12 hc12 _ rfl) (cwV 3 ht0 (gV wd944 wd945 wd946 wd744 wd947) rfl rfl rfl (by decide +kernel) ⟨Nat.le_of_ble_eq_true rfl, Nat.le_of_ble_eq_true rfl⟩) hK hN hP hD [] rfl (by decide) 0 8 rfl rfl rfl hl.1 rfl (Nat.le_of_ble_eq_true rfl) dX9_pays_12 ⟨Nat.zero_le _, Nat.zero_le _⟩) hP hD hS hA [] [0, 1, 2, 3] rfl rfl (by decide) (by decide) [0, 1, 2, 3] (by decide) rfl rfl (fun H locs hP hD hS => ?_)
  refine lv_istore_n (lv' := [(2, .int r12), (0, .ref aM), (1, .int x1)]) hx hb dX9_pays_15 rfl hl (by decide) rfl (fun ls hl => ?_)
  refine lv_iload_n hx hb dX9_pays_16 rfl (lv_at hl 0 rfl) ?_
  refine lv_if_eq (tgt := 28) hx hb dX9_pays_17 (by decide) (fun c17 => ?_) (fun c17 => ?_)
  · have hok := k_pos c17 hok
    refine lv_aload_n hx hb dX9_pays_28 rfl (lv_at hl 1 rfl) ?_
    refine lv_aload_n hx hb dX9_pays_29 rfl (lv_at hl 1 rfl) ?_
    refine lv_iconst (v := 0) hx hb dX9_pays_30 (by decide) ?_
    refine lv_iload_n hx hb dX9_pays_31 rfl (lv_at hl 2 rfl) ?_
    obtain ⟨⟨r32, vM_trial_32⟩, hc32, hok⟩ := k_bind hok
    try dsimp only at hok
    refine kCi (wc := (wX9_keptBy cy aM qM vM_1 vM_st vM_trial vM_r)) (wc2 := (wX9_keptBy cy aM qM vM_1 vM_st vM_trial_32 vM_r)) (wr := []) (ws2 := (wX9_pays cy aM qM vM_1 vM_st vM_trial_32 vM_r)) (kRunV (As := [.int 0, .int x1]) (rest := [.ref aM]) ⟨hx, hb, hml, hown, ht0⟩ (kX9_keptBy l D cy _ aM qM vM_1 vM_st vM_trial vM_r (0 : Int32) x1 r32 vM_trial_32 hc32 _ rfl) (cwV 2 ht0 (gV wd974 wd975 wd976 wd744 wd977) rfl rfl rfl (by decide +kernel) ⟨Nat.le_of_ble_eq_true rfl, Nat.le_of_ble_eq_true rfl⟩) hK hN hP hD [0, 1, 2, 3] rfl (by decide) 0 8 rfl rfl rfl hl.1 rfl (Nat.le_of_ble_eq_true rfl) dX9_pays_32 ⟨Nat.zero_le _, Nat.zero_le _⟩) hP hD hS hA [0, 1, 2, 3] [] rfl rfl (by decide) (by decide) [0, 1, 2, 3] (by decide) rfl rfl (fun H locs hP hD hS => ?_)
    obtain ⟨r35, hc35, hok⟩ := k_bind hok
    refine kCi (wc := (wX9_payOf cy aM qM vM_1 vM_r)) (wc2 := (wX9_payOf cy aM qM vM_1 vM_r)) (wr := [(qM 17, rI cy 9 vM_st), (qM 22, rI cy 9 vM_trial_32)]) (ws2 := (wX9_pays cy aM qM vM_1 vM_st vM_trial_32 vM_r)) (kRunV (As := [.int r32]) (rest := []) ⟨hx, hb, hml, hown, ht0⟩ (kX9_payOf l D cy _ aM qM vM_1 vM_r r32 r35 hc35 _ rfl) (cwV 1 ht0 (gV wd978 wd979 wd980 wd744 wd981) rfl rfl rfl (by decide +kernel) ⟨Nat.le_of_ble_eq_true rfl, Nat.le_of_ble_eq_true rfl⟩) hK hN hP hD [0, 3] rfl (by decide) 0 8 rfl rfl rfl hl.1 rfl (Nat.le_of_ble_eq_true rfl) dX9_pays_35 ⟨Nat.zero_le _, Nat.zero_le _⟩) hP hD hS hA [0, 3] [1, 2] rfl rfl (by decide) (by decide) [2, 0, 1, 3] (by decide) rfl rfl (fun H locs hP hD hS => ?_)
    exact J38 r35 vM_trial_32 vM_1 H locs ls hP hD hS (lv_sub hl [] rfl) hok
  · have hok := k_neg c17 hok
    refine lv_aload_n hx hb dX9_pays_20 rfl (lv_at hl 1 rfl) ?_
    refine lv_iload_n hx hb dX9_pays_21 rfl (lv_at hl 0 rfl) ?_
    obtain ⟨⟨r22, vM_22⟩, hc22, hok⟩ := k_bind hok
    try dsimp only at hok
    refine kCi (wc := (wX9_no cy aM qM vM_1)) (wc2 := (wX9_no cy aM qM vM_22)) (wr := [(qM 17, rI cy 9 vM_st), (qM 22, rI cy 9 vM_trial), (qM 15, rI cy 224 vM_r)]) (ws2 := (wX9_pays cy aM qM vM_22 vM_st vM_trial vM_r)) (kRunV (As := [.int r12]) (rest := []) ⟨hx, hb, hml, hown, ht0⟩ (kX9_no l D cy _ aM qM vM_1 r12 r22 vM_22 hc22 _ rfl) (cwV 1 ht0 (gV wd862 wd863 wd864 wd744 wd865) rfl rfl rfl (by decide +kernel) ⟨Nat.le_of_ble_eq_true rfl, Nat.le_of_ble_eq_true rfl⟩) hK hN hP hD [0] rfl (by decide) 0 8 rfl rfl rfl hl.1 rfl (Nat.le_of_ble_eq_true rfl) dX9_pays_22 ⟨Nat.zero_le _, Nat.zero_le _⟩) hP hD hS hA [0] [1, 2, 3] rfl rfl (by decide) (by decide) [3, 0, 1, 2] (by decide) rfl rfl (fun H locs hP hD hS => ?_)
    refine lv_goto (tgt := 38) hx hb dX9_pays_25 (by decide) ?_
    exact J38 r22 vM_trial vM_22 H locs ls hP hD hS (lv_sub hl [] rfl) hok
def wsX9_best : List Cond := .code yX9_best cX9_best 3 (some .int) :: W0
abbrev wX9_best (cy : Nat → ClassId) (aM : Nat) (qM : Nat → Nat) (vM : Nat → Int32) (vM_st : Nat → Int32) (vM_trial : Nat → Int32) (vM_r : Nat → Int32) : va_W := [(aM, oX9 vM qM), (qM 17, rI cy 9 vM_st), (qM 22, rI cy 9 vM_trial), (qM 15, rI cy 224 vM_r)]
set_option maxHeartbeats 4000000 in
set_option maxRecDepth 100000 in
theorem kX9_best (l : Launch) (D : va_G) (cy : Nat → ClassId) (sz : Nat) (aM : Nat) (qM : Nat → Nat) (vM : Nat → Int32) (vM_st : Nat → Int32) (vM_trial : Nat → Int32) (vM_r : Nat → Int32) (x1 : Int32) (zr : Int32) (z_vM : Nat → Int32) (z_vM_trial : Nat → Int32) (hok : fX9_best vM vM_st vM_trial vM_r x1 = some (zr, z_vM, z_vM_trial)) (A : Nat → Prop) (hAe : va_A (wX9_best cy aM qM vM vM_st vM_trial vM_r) sz = A) : Met l yX9_best wsX9_best ({ frames := 7, cells := 0, slots := 0, locals := 164 } : Room) (kPre D cy [.ref aM, .int x1] (wX9_best cy aM qM vM vM_st vM_trial vM_r) sz) (kQi D cy zr A (wX9_best cy aM qM z_vM vM_st z_vM_trial vM_r)) 0 0 A := by
  refine Met.ofW (cc := cX9_best) (maxL := 3) (ret := (some .int)) (by decide) rfl ?_
  intro p e s m args below meth c s₁ B hml hv
  obtain ⟨rfl, hsz, hP, hK, hD0, hN⟩ := hv
  have hx := B.exec
  have hb := B.bytes
  have hr := B.returns
  have ht0 : ∀ w ∈ W0, w.before _ s = true := fun w h => atoms_spec (ws := wsX9_best) B.pre w (List.mem_cons_of_mem _ h)
  have hown : s.vm.findClass RX9 = some m.cls := findClass_of_methodNamed B.named
  have hlocks := B.notSynchronized
  subst hsz
  have hD : va_D A (wX9_best cy aM qM vM vM_st vM_trial vM_r) := by rw [← hAe]; exact hD0.self
  have hA : ∀ q : Nat, s.heap.size ≤ q → A q := fun q h => by rw [← hAe]; exact Or.inr h
  have hS : va_S A s.heap s.heap [] := va_S.rf
  have hl := lv_entry ([.ref aM, .int x1]) (n := 3) (Nat.le_of_ble_eq_true rfl)
  rw [lg_entry_eq]
  generalize (lg_sl ([.ref aM, .int x1]) ++ List.replicate (3 - (lg_sl ([.ref aM, .int x1])).length) Slot.unset).toArray = ls at hl ⊢
  have hl : lv_has ls 3 [(0, .ref aM), (1, .int x1)] := hl
  generalize hQe : MQ below (kQi D cy zr A (wX9_best cy aM qM z_vM vM_st z_vM_trial vM_r)) ([.ref aM, .int x1] : List Value).toArray s 0 0 A = Q
  have J33 : ∀ (t0_33 : Int32) (vM_trial_33 : Nat → Int32) (vM_33 : Nat → Int32), ∀ (H : Heap) (locs : List Loc) (ls : Array Slot), va_P D vwCl (wX9_best cy aM qM vM_33 vM_st vM_trial_33 vM_r) H → va_D A (wX9_best cy aM qM vM_33 vM_st vM_trial_33 vM_r) → va_S A s.heap H locs → lv_has ls 3 [] → fX9_best_J33 t0_33 vM_trial_33 vM_33 = some (zr, z_vM, z_vM_trial) → W p l e ({ frames := 7, cells := 0, slots := 0, locals := 164 } : Room) s m ([.ref aM, .int x1] : List Value).toArray below meth c H locs 0 0 Q (F0 m 33 ls [.int t0_33]) := by
    intro t0_33 vM_trial_33 vM_33 H locs ls hP hD hS hl hok
    unfold fX9_best_J33 at hok
    cases hok
    subst hQe; exact W.iret hx hb hr (fun t ht hW => ⟨⟨_, (), rfl, rfl, by rw [ht]; exact hP, va_K.moved hW.alike hK, hD⟩, hS.F ht⟩) hS.2.2 dX9_best_33
  unfold fX9_best at hok
  obtain ⟨H, hH⟩ : ∃ H, H = s.heap := ⟨_, rfl⟩
  obtain ⟨locs, hlc⟩ : ∃ x : List Loc, x = [] := ⟨_, rfl⟩
  have hP : va_P D vwCl (wX9_best cy aM qM vM vM_st vM_trial vM_r) H := by rw [hH]; exact hP
  have hS : va_S A s.heap H locs := by rw [hH, hlc]; exact hS
  rw [show W p l e _ s m _ below meth c s.heap [] = W p l e _ s m _ below meth c H locs from by rw [hH, hlc]]
  refine lv_aload_n hx hb dX9_best_0 rfl (lv_at hl 0 rfl) ?_
  obtain ⟨vM_1, hc1, hok⟩ := k_bind hok
  refine kCv (wc := (wX9_good cy aM qM vM)) (wc2 := (wX9_good cy aM qM vM_1)) (wr := [(qM 17, rI cy 9 vM_st), (qM 22, rI cy 9 vM_trial), (qM 15, rI cy 224 vM_r)]) (ws2 := (wX9_best cy aM qM vM_1 vM_st vM_trial vM_r)) (kRunV (As := []) (rest := []) ⟨hx, hb, hml, hown, ht0⟩ (kX9_good l D cy _ aM qM vM vM_1 hc1 _ rfl) (cwV 0 ht0 (gV wd870 wd871 wd872 wd744 wd873) rfl rfl rfl (by decide +kernel) ⟨Nat.le_of_ble_eq_true rfl, Nat.le_of_ble_eq_true rfl⟩) hK hN hP hD [0] rfl (by decide) 0 8 rfl rfl rfl hl.1 rfl (Nat.le_of_ble_eq_true rfl) dX9_best_1 ⟨Nat.zero_le _, Nat.zero_le _⟩) hP hD hS hA [0] [1, 2, 3] rfl rfl (by decide) (by decide) [3, 0, 1, 2] (by decide) rfl rfl (fun H locs hP hD hS => ?_)
  refine lv_aload_n hx hb dX9_best_4 rfl (lv_at hl 0 rfl) ?_
  refine lv_aload_n hx hb dX9_best_5 rfl (lv_at hl 0 rfl) ?_
  refine va_get (D := D) (ci := 8) (v := .int (vM_1 14)) (C := RX9) (T := TX9) (N := 29) hx hb ht0 niX9 hown hK hP 0 rfl rfl 14 (by decide) (ht0 _ wd855) (fun _ h9 => h9) rfl dX9_best_6 ?_
  refine lv_iload_n hx hb dX9_best_9 rfl (lv_at hl 1 rfl) ?_
  refine lv_bipush (v := 60) hx hb dX9_best_10 (by decide) ?_
  obtain ⟨r12, hc12, hok⟩ := k_bind hok
  refine kCi (wc := (wX9_why cy aM)) (wc2 := (wX9_why cy aM)) (wr := [(aM, oX9 vM_1 qM), (qM 17, rI cy 9 vM_st), (qM 22, rI cy 9 vM_trial), (qM 15, rI cy 224 vM_r)]) (ws2 := (wX9_best cy aM qM vM_1 vM_st vM_trial vM_r)) (kRunV (As := [.int (vM_1 14), .int x1, .int 60]) (rest := []) ⟨hx, hb, hml, hown, ht0⟩ (kX9_why l D cy _ aM (vM_1 14) x1 (60 : Int32) r12 hc12 _ rfl) (cwV 3 ht0 (gV wd944 wd945 wd946 wd744 wd947) rfl rfl rfl (by decide +kernel) ⟨Nat.le_of_ble_eq_true rfl, Nat.le_of_ble_eq_true rfl⟩) hK hN hP hD [] rfl (by decide) 0 8 rfl rfl rfl hl.1 rfl (Nat.le_of_ble_eq_true rfl) dX9_best_12 ⟨Nat.zero_le _, Nat.zero_le _⟩) hP hD hS hA [] [0, 1, 2, 3] rfl rfl (by decide) (by decide) [0, 1, 2, 3] (by decide) rfl rfl (fun H locs hP hD hS => ?_)
  refine lv_istore_n (lv' := [(2, .int r12), (0, .ref aM), (1, .int x1)]) hx hb dX9_best_15 rfl hl (by decide) rfl (fun ls hl => ?_)
  refine lv_iload_n hx hb dX9_best_16 rfl (lv_at hl 0 rfl) ?_
  refine lv_if_eq (tgt := 28) hx hb dX9_best_17 (by decide) (fun c17 => ?_) (fun c17 => ?_)
  · have hok := k_pos c17 hok
    refine lv_aload_n hx hb dX9_best_28 rfl (lv_at hl 1 rfl) ?_
    refine lv_iload_n hx hb dX9_best_29 rfl (lv_at hl 2 rfl) ?_
    obtain ⟨⟨r30, vM_trial_30⟩, hc30, hok⟩ := k_bind hok
    try dsimp only at hok
    refine kCi (wc := (wX9_bestOf cy aM qM vM_1 vM_st vM_trial vM_r)) (wc2 := (wX9_bestOf cy aM qM vM_1 vM_st vM_trial_30 vM_r)) (wr := []) (ws2 := (wX9_best cy aM qM vM_1 vM_st vM_trial_30 vM_r)) (kRunV (As := [.int x1]) (rest := []) ⟨hx, hb, hml, hown, ht0⟩ (kX9_bestOf l D cy _ aM qM vM_1 vM_st vM_trial vM_r x1 r30 vM_trial_30 hc30 _ rfl) (cwV 1 ht0 (gV wd982 wd983 wd984 wd744 wd985) rfl rfl rfl (by decide +kernel) ⟨Nat.le_of_ble_eq_true rfl, Nat.le_of_ble_eq_true rfl⟩) hK hN hP hD [0, 1, 2, 3] rfl (by decide) 0 8 rfl rfl rfl hl.1 rfl (Nat.le_of_ble_eq_true rfl) dX9_best_30 ⟨Nat.zero_le _, Nat.zero_le _⟩) hP hD hS hA [0, 1, 2, 3] [] rfl rfl (by decide) (by decide) [0, 1, 2, 3] (by decide) rfl rfl (fun H locs hP hD hS => ?_)
    exact J33 r30 vM_trial_30 vM_1 H locs ls hP hD hS (lv_sub hl [] rfl) hok
  · have hok := k_neg c17 hok
    refine lv_aload_n hx hb dX9_best_20 rfl (lv_at hl 1 rfl) ?_
    refine lv_iload_n hx hb dX9_best_21 rfl (lv_at hl 0 rfl) ?_
    obtain ⟨⟨r22, vM_22⟩, hc22, hok⟩ := k_bind hok
    try dsimp only at hok
    refine kCi (wc := (wX9_no cy aM qM vM_1)) (wc2 := (wX9_no cy aM qM vM_22)) (wr := [(qM 17, rI cy 9 vM_st), (qM 22, rI cy 9 vM_trial), (qM 15, rI cy 224 vM_r)]) (ws2 := (wX9_best cy aM qM vM_22 vM_st vM_trial vM_r)) (kRunV (As := [.int r12]) (rest := []) ⟨hx, hb, hml, hown, ht0⟩ (kX9_no l D cy _ aM qM vM_1 r12 r22 vM_22 hc22 _ rfl) (cwV 1 ht0 (gV wd862 wd863 wd864 wd744 wd865) rfl rfl rfl (by decide +kernel) ⟨Nat.le_of_ble_eq_true rfl, Nat.le_of_ble_eq_true rfl⟩) hK hN hP hD [0] rfl (by decide) 0 8 rfl rfl rfl hl.1 rfl (Nat.le_of_ble_eq_true rfl) dX9_best_22 ⟨Nat.zero_le _, Nat.zero_le _⟩) hP hD hS hA [0] [1, 2, 3] rfl rfl (by decide) (by decide) [3, 0, 1, 2] (by decide) rfl rfl (fun H locs hP hD hS => ?_)
    refine lv_goto (tgt := 33) hx hb dX9_best_25 (by decide) ?_
    exact J33 r22 vM_trial vM_22 H locs ls hP hD hS (lv_sub hl [] rfl) hok
def wsX9_bestPays : List Cond := .code yX9_bestPays cX9_bestPays 3 (some .int) :: W0
abbrev wX9_bestPays (cy : Nat → ClassId) (aM : Nat) (qM : Nat → Nat) (vM : Nat → Int32) (vM_st : Nat → Int32) (vM_trial : Nat → Int32) (vM_r : Nat → Int32) : va_W := [(aM, oX9 vM qM), (qM 17, rI cy 9 vM_st), (qM 22, rI cy 9 vM_trial), (qM 15, rI cy 224 vM_r)]
set_option maxHeartbeats 4000000 in
set_option maxRecDepth 100000 in
theorem kX9_bestPays (l : Launch) (D : va_G) (cy : Nat → ClassId) (sz : Nat) (aM : Nat) (qM : Nat → Nat) (vM : Nat → Int32) (vM_st : Nat → Int32) (vM_trial : Nat → Int32) (vM_r : Nat → Int32) (x1 : Int32) (zr : Int32) (z_vM : Nat → Int32) (z_vM_trial : Nat → Int32) (hok : fX9_bestPays vM vM_st vM_trial vM_r x1 = some (zr, z_vM, z_vM_trial)) (A : Nat → Prop) (hAe : va_A (wX9_bestPays cy aM qM vM vM_st vM_trial vM_r) sz = A) : Met l yX9_bestPays wsX9_bestPays ({ frames := 7, cells := 0, slots := 0, locals := 164 } : Room) (kPre D cy [.ref aM, .int x1] (wX9_bestPays cy aM qM vM vM_st vM_trial vM_r) sz) (kQi D cy zr A (wX9_bestPays cy aM qM z_vM vM_st z_vM_trial vM_r)) 0 0 A := by
  refine Met.ofW (cc := cX9_bestPays) (maxL := 3) (ret := (some .int)) (by decide) rfl ?_
  intro p e s m args below meth c s₁ B hml hv
  obtain ⟨rfl, hsz, hP, hK, hD0, hN⟩ := hv
  have hx := B.exec
  have hb := B.bytes
  have hr := B.returns
  have ht0 : ∀ w ∈ W0, w.before _ s = true := fun w h => atoms_spec (ws := wsX9_bestPays) B.pre w (List.mem_cons_of_mem _ h)
  have hown : s.vm.findClass RX9 = some m.cls := findClass_of_methodNamed B.named
  have hlocks := B.notSynchronized
  subst hsz
  have hD : va_D A (wX9_bestPays cy aM qM vM vM_st vM_trial vM_r) := by rw [← hAe]; exact hD0.self
  have hA : ∀ q : Nat, s.heap.size ≤ q → A q := fun q h => by rw [← hAe]; exact Or.inr h
  have hS : va_S A s.heap s.heap [] := va_S.rf
  have hl := lv_entry ([.ref aM, .int x1]) (n := 3) (Nat.le_of_ble_eq_true rfl)
  rw [lg_entry_eq]
  generalize (lg_sl ([.ref aM, .int x1]) ++ List.replicate (3 - (lg_sl ([.ref aM, .int x1])).length) Slot.unset).toArray = ls at hl ⊢
  have hl : lv_has ls 3 [(0, .ref aM), (1, .int x1)] := hl
  generalize hQe : MQ below (kQi D cy zr A (wX9_bestPays cy aM qM z_vM vM_st z_vM_trial vM_r)) ([.ref aM, .int x1] : List Value).toArray s 0 0 A = Q
  have J42 : ∀ (t0_42 : Int32) (vM_trial_42 : Nat → Int32) (vM_42 : Nat → Int32), ∀ (H : Heap) (locs : List Loc) (ls : Array Slot), va_P D vwCl (wX9_bestPays cy aM qM vM_42 vM_st vM_trial_42 vM_r) H → va_D A (wX9_bestPays cy aM qM vM_42 vM_st vM_trial_42 vM_r) → va_S A s.heap H locs → lv_has ls 3 [] → fX9_bestPays_J42 t0_42 vM_trial_42 vM_42 = some (zr, z_vM, z_vM_trial) → W p l e ({ frames := 7, cells := 0, slots := 0, locals := 164 } : Room) s m ([.ref aM, .int x1] : List Value).toArray below meth c H locs 0 0 Q (F0 m 42 ls [.int t0_42]) := by
    intro t0_42 vM_trial_42 vM_42 H locs ls hP hD hS hl hok
    unfold fX9_bestPays_J42 at hok
    cases hok
    subst hQe; exact W.iret hx hb hr (fun t ht hW => ⟨⟨_, (), rfl, rfl, by rw [ht]; exact hP, va_K.moved hW.alike hK, hD⟩, hS.F ht⟩) hS.2.2 dX9_bestPays_42
  unfold fX9_bestPays at hok
  obtain ⟨H, hH⟩ : ∃ H, H = s.heap := ⟨_, rfl⟩
  obtain ⟨locs, hlc⟩ : ∃ x : List Loc, x = [] := ⟨_, rfl⟩
  have hP : va_P D vwCl (wX9_bestPays cy aM qM vM vM_st vM_trial vM_r) H := by rw [hH]; exact hP
  have hS : va_S A s.heap H locs := by rw [hH, hlc]; exact hS
  rw [show W p l e _ s m _ below meth c s.heap [] = W p l e _ s m _ below meth c H locs from by rw [hH, hlc]]
  refine lv_aload_n hx hb dX9_bestPays_0 rfl (lv_at hl 0 rfl) ?_
  obtain ⟨vM_1, hc1, hok⟩ := k_bind hok
  refine kCv (wc := (wX9_good cy aM qM vM)) (wc2 := (wX9_good cy aM qM vM_1)) (wr := [(qM 17, rI cy 9 vM_st), (qM 22, rI cy 9 vM_trial), (qM 15, rI cy 224 vM_r)]) (ws2 := (wX9_bestPays cy aM qM vM_1 vM_st vM_trial vM_r)) (kRunV (As := []) (rest := []) ⟨hx, hb, hml, hown, ht0⟩ (kX9_good l D cy _ aM qM vM vM_1 hc1 _ rfl) (cwV 0 ht0 (gV wd870 wd871 wd872 wd744 wd873) rfl rfl rfl (by decide +kernel) ⟨Nat.le_of_ble_eq_true rfl, Nat.le_of_ble_eq_true rfl⟩) hK hN hP hD [0] rfl (by decide) 0 8 rfl rfl rfl hl.1 rfl (Nat.le_of_ble_eq_true rfl) dX9_bestPays_1 ⟨Nat.zero_le _, Nat.zero_le _⟩) hP hD hS hA [0] [1, 2, 3] rfl rfl (by decide) (by decide) [3, 0, 1, 2] (by decide) rfl rfl (fun H locs hP hD hS => ?_)
  refine lv_aload_n hx hb dX9_bestPays_4 rfl (lv_at hl 0 rfl) ?_
  refine lv_aload_n hx hb dX9_bestPays_5 rfl (lv_at hl 0 rfl) ?_
  refine va_get (D := D) (ci := 8) (v := .int (vM_1 14)) (C := RX9) (T := TX9) (N := 29) hx hb ht0 niX9 hown hK hP 0 rfl rfl 14 (by decide) (ht0 _ wd855) (fun _ h9 => h9) rfl dX9_bestPays_6 ?_
  refine lv_iload_n hx hb dX9_bestPays_9 rfl (lv_at hl 1 rfl) ?_
  refine lv_bipush (v := 60) hx hb dX9_bestPays_10 (by decide) ?_
  obtain ⟨r12, hc12, hok⟩ := k_bind hok
  refine kCi (wc := (wX9_why cy aM)) (wc2 := (wX9_why cy aM)) (wr := [(aM, oX9 vM_1 qM), (qM 17, rI cy 9 vM_st), (qM 22, rI cy 9 vM_trial), (qM 15, rI cy 224 vM_r)]) (ws2 := (wX9_bestPays cy aM qM vM_1 vM_st vM_trial vM_r)) (kRunV (As := [.int (vM_1 14), .int x1, .int 60]) (rest := []) ⟨hx, hb, hml, hown, ht0⟩ (kX9_why l D cy _ aM (vM_1 14) x1 (60 : Int32) r12 hc12 _ rfl) (cwV 3 ht0 (gV wd944 wd945 wd946 wd744 wd947) rfl rfl rfl (by decide +kernel) ⟨Nat.le_of_ble_eq_true rfl, Nat.le_of_ble_eq_true rfl⟩) hK hN hP hD [] rfl (by decide) 0 8 rfl rfl rfl hl.1 rfl (Nat.le_of_ble_eq_true rfl) dX9_bestPays_12 ⟨Nat.zero_le _, Nat.zero_le _⟩) hP hD hS hA [] [0, 1, 2, 3] rfl rfl (by decide) (by decide) [0, 1, 2, 3] (by decide) rfl rfl (fun H locs hP hD hS => ?_)
  refine lv_istore_n (lv' := [(2, .int r12), (0, .ref aM), (1, .int x1)]) hx hb dX9_bestPays_15 rfl hl (by decide) rfl (fun ls hl => ?_)
  refine lv_iload_n hx hb dX9_bestPays_16 rfl (lv_at hl 0 rfl) ?_
  refine lv_if_eq (tgt := 28) hx hb dX9_bestPays_17 (by decide) (fun c17 => ?_) (fun c17 => ?_)
  · have hok := k_pos c17 hok
    refine lv_aload_n hx hb dX9_bestPays_28 rfl (lv_at hl 1 rfl) ?_
    refine lv_aload_n hx hb dX9_bestPays_29 rfl (lv_at hl 1 rfl) ?_
    refine lv_aload_n hx hb dX9_bestPays_30 rfl (lv_at hl 1 rfl) ?_
    refine lv_iload_n hx hb dX9_bestPays_31 rfl (lv_at hl 2 rfl) ?_
    obtain ⟨⟨r32, vM_trial_32⟩, hc32, hok⟩ := k_bind hok
    try dsimp only at hok
    refine kCi (wc := (wX9_bestOf cy aM qM vM_1 vM_st vM_trial vM_r)) (wc2 := (wX9_bestOf cy aM qM vM_1 vM_st vM_trial_32 vM_r)) (wr := []) (ws2 := (wX9_bestPays cy aM qM vM_1 vM_st vM_trial_32 vM_r)) (kRunV (As := [.int x1]) (rest := [.ref aM, .ref aM]) ⟨hx, hb, hml, hown, ht0⟩ (kX9_bestOf l D cy _ aM qM vM_1 vM_st vM_trial vM_r x1 r32 vM_trial_32 hc32 _ rfl) (cwV 1 ht0 (gV wd982 wd983 wd984 wd744 wd985) rfl rfl rfl (by decide +kernel) ⟨Nat.le_of_ble_eq_true rfl, Nat.le_of_ble_eq_true rfl⟩) hK hN hP hD [0, 1, 2, 3] rfl (by decide) 0 8 rfl rfl rfl hl.1 rfl (Nat.le_of_ble_eq_true rfl) dX9_bestPays_32 ⟨Nat.zero_le _, Nat.zero_le _⟩) hP hD hS hA [0, 1, 2, 3] [] rfl rfl (by decide) (by decide) [0, 1, 2, 3] (by decide) rfl rfl (fun H locs hP hD hS => ?_)
    refine lv_iload_n hx hb dX9_bestPays_35 rfl (lv_at hl 2 rfl) ?_
    obtain ⟨⟨r36, vM_trial_36⟩, hc36, hok⟩ := k_bind hok
    try dsimp only at hok
    refine kCi (wc := (wX9_keptBy cy aM qM vM_1 vM_st vM_trial_32 vM_r)) (wc2 := (wX9_keptBy cy aM qM vM_1 vM_st vM_trial_36 vM_r)) (wr := []) (ws2 := (wX9_bestPays cy aM qM vM_1 vM_st vM_trial_36 vM_r)) (kRunV (As := [.int r32, .int x1]) (rest := [.ref aM]) ⟨hx, hb, hml, hown, ht0⟩ (kX9_keptBy l D cy _ aM qM vM_1 vM_st vM_trial_32 vM_r r32 x1 r36 vM_trial_36 hc36 _ rfl) (cwV 2 ht0 (gV wd974 wd975 wd976 wd744 wd977) rfl rfl rfl (by decide +kernel) ⟨Nat.le_of_ble_eq_true rfl, Nat.le_of_ble_eq_true rfl⟩) hK hN hP hD [0, 1, 2, 3] rfl (by decide) 0 8 rfl rfl rfl hl.1 rfl (Nat.le_of_ble_eq_true rfl) dX9_bestPays_36 ⟨Nat.zero_le _, Nat.zero_le _⟩) hP hD hS hA [0, 1, 2, 3] [] rfl rfl (by decide) (by decide) [0, 1, 2, 3] (by decide) rfl rfl (fun H locs hP hD hS => ?_)
    obtain ⟨r39, hc39, hok⟩ := k_bind hok
    refine kCi (wc := (wX9_payOf cy aM qM vM_1 vM_r)) (wc2 := (wX9_payOf cy aM qM vM_1 vM_r)) (wr := [(qM 17, rI cy 9 vM_st), (qM 22, rI cy 9 vM_trial_36)]) (ws2 := (wX9_bestPays cy aM qM vM_1 vM_st vM_trial_36 vM_r)) (kRunV (As := [.int r36]) (rest := []) ⟨hx, hb, hml, hown, ht0⟩ (kX9_payOf l D cy _ aM qM vM_1 vM_r r36 r39 hc39 _ rfl) (cwV 1 ht0 (gV wd978 wd979 wd980 wd744 wd981) rfl rfl rfl (by decide +kernel) ⟨Nat.le_of_ble_eq_true rfl, Nat.le_of_ble_eq_true rfl⟩) hK hN hP hD [0, 3] rfl (by decide) 0 8 rfl rfl rfl hl.1 rfl (Nat.le_of_ble_eq_true rfl) dX9_bestPays_39 ⟨Nat.zero_le _, Nat.zero_le _⟩) hP hD hS hA [0, 3] [1, 2] rfl rfl (by decide) (by decide) [2, 0, 1, 3] (by decide) rfl rfl (fun H locs hP hD hS => ?_)
    exact J42 r39 vM_trial_36 vM_1 H locs ls hP hD hS (lv_sub hl [] rfl) hok
  · have hok := k_neg c17 hok
    refine lv_aload_n hx hb dX9_bestPays_20 rfl (lv_at hl 1 rfl) ?_
    refine lv_iload_n hx hb dX9_bestPays_21 rfl (lv_at hl 0 rfl) ?_
    obtain ⟨⟨r22, vM_22⟩, hc22, hok⟩ := k_bind hok
    try dsimp only at hok
    refine kCi (wc := (wX9_no cy aM qM vM_1)) (wc2 := (wX9_no cy aM qM vM_22)) (wr := [(qM 17, rI cy 9 vM_st), (qM 22, rI cy 9 vM_trial), (qM 15, rI cy 224 vM_r)]) (ws2 := (wX9_bestPays cy aM qM vM_22 vM_st vM_trial vM_r)) (kRunV (As := [.int r12]) (rest := []) ⟨hx, hb, hml, hown, ht0⟩ (kX9_no l D cy _ aM qM vM_1 r12 r22 vM_22 hc22 _ rfl) (cwV 1 ht0 (gV wd862 wd863 wd864 wd744 wd865) rfl rfl rfl (by decide +kernel) ⟨Nat.le_of_ble_eq_true rfl, Nat.le_of_ble_eq_true rfl⟩) hK hN hP hD [0] rfl (by decide) 0 8 rfl rfl rfl hl.1 rfl (Nat.le_of_ble_eq_true rfl) dX9_bestPays_22 ⟨Nat.zero_le _, Nat.zero_le _⟩) hP hD hS hA [0] [1, 2, 3] rfl rfl (by decide) (by decide) [3, 0, 1, 2] (by decide) rfl rfl (fun H locs hP hD hS => ?_)
    refine lv_goto (tgt := 42) hx hb dX9_bestPays_25 (by decide) ?_
    exact J42 r22 vM_trial vM_22 H locs ls hP hD hS (lv_sub hl [] rfl) hok
def wsX9_kept : List Cond := .code yX9_kept cX9_kept 1 (some .int) :: W0
abbrev wX9_kept (cy : Nat → ClassId) (aM : Nat) (qM : Nat → Nat) (vM : Nat → Int32) (vM_st : Nat → Int32) (vM_trial : Nat → Int32) (vM_r : Nat → Int32) : va_W := [(aM, oX9 vM qM), (qM 17, rI cy 9 vM_st), (qM 22, rI cy 9 vM_trial), (qM 15, rI cy 224 vM_r)]
set_option maxHeartbeats 4000000 in
set_option maxRecDepth 100000 in
theorem kX9_kept (l : Launch) (D : va_G) (cy : Nat → ClassId) (sz : Nat) (aM : Nat) (qM : Nat → Nat) (vM : Nat → Int32) (vM_st : Nat → Int32) (vM_trial : Nat → Int32) (vM_r : Nat → Int32) (zr : Int32) (z_vM : Nat → Int32) (z_vM_trial : Nat → Int32) (hok : fX9_kept vM vM_st vM_trial vM_r = some (zr, z_vM, z_vM_trial)) (A : Nat → Prop) (hAe : va_A (wX9_kept cy aM qM vM vM_st vM_trial vM_r) sz = A) : Met l yX9_kept wsX9_kept ({ frames := 6, cells := 0, slots := 0, locals := 139 } : Room) (kPre D cy [.ref aM] (wX9_kept cy aM qM vM vM_st vM_trial vM_r) sz) (kQi D cy zr A (wX9_kept cy aM qM z_vM vM_st z_vM_trial vM_r)) 0 0 A := by
  refine Met.ofW (cc := cX9_kept) (maxL := 1) (ret := (some .int)) (by decide) rfl ?_
  intro p e s m args below meth c s₁ B hml hv
  obtain ⟨rfl, hsz, hP, hK, hD0, hN⟩ := hv
  have hx := B.exec
  have hb := B.bytes
  have hr := B.returns
  have ht0 : ∀ w ∈ W0, w.before _ s = true := fun w h => atoms_spec (ws := wsX9_kept) B.pre w (List.mem_cons_of_mem _ h)
  have hown : s.vm.findClass RX9 = some m.cls := findClass_of_methodNamed B.named
  have hlocks := B.notSynchronized
  subst hsz
  have hD : va_D A (wX9_kept cy aM qM vM vM_st vM_trial vM_r) := by rw [← hAe]; exact hD0.self
  have hA : ∀ q : Nat, s.heap.size ≤ q → A q := fun q h => by rw [← hAe]; exact Or.inr h
  have hS : va_S A s.heap s.heap [] := va_S.rf
  have hl := lv_entry ([.ref aM]) (n := 1) (Nat.le_of_ble_eq_true rfl)
  rw [lg_entry_eq]
  generalize (lg_sl ([.ref aM]) ++ List.replicate (1 - (lg_sl ([.ref aM])).length) Slot.unset).toArray = ls at hl ⊢
  have hl : lv_has ls 1 [(0, .ref aM)] := hl
  generalize hQe : MQ below (kQi D cy zr A (wX9_kept cy aM qM z_vM vM_st z_vM_trial vM_r)) ([.ref aM] : List Value).toArray s 0 0 A = Q
  have J26 : ∀ (t0_26 : Int32) (vM_trial_26 : Nat → Int32) (vM_26 : Nat → Int32), ∀ (H : Heap) (locs : List Loc) (ls : Array Slot), va_P D vwCl (wX9_kept cy aM qM vM_26 vM_st vM_trial_26 vM_r) H → va_D A (wX9_kept cy aM qM vM_26 vM_st vM_trial_26 vM_r) → va_S A s.heap H locs → lv_has ls 1 [] → fX9_kept_J26 t0_26 vM_trial_26 vM_26 = some (zr, z_vM, z_vM_trial) → W p l e ({ frames := 6, cells := 0, slots := 0, locals := 139 } : Room) s m ([.ref aM] : List Value).toArray below meth c H locs 0 0 Q (F0 m 26 ls [.int t0_26]) := by
    intro t0_26 vM_trial_26 vM_26 H locs ls hP hD hS hl hok
    unfold fX9_kept_J26 at hok
    cases hok
    subst hQe; exact W.iret hx hb hr (fun t ht hW => ⟨⟨_, (), rfl, rfl, by rw [ht]; exact hP, va_K.moved hW.alike hK, hD⟩, hS.F ht⟩) hS.2.2 dX9_kept_26
  unfold fX9_kept at hok
  obtain ⟨H, hH⟩ : ∃ H, H = s.heap := ⟨_, rfl⟩
  obtain ⟨locs, hlc⟩ : ∃ x : List Loc, x = [] := ⟨_, rfl⟩
  have hP : va_P D vwCl (wX9_kept cy aM qM vM vM_st vM_trial vM_r) H := by rw [hH]; exact hP
  have hS : va_S A s.heap H locs := by rw [hH, hlc]; exact hS
  rw [show W p l e _ s m _ below meth c s.heap [] = W p l e _ s m _ below meth c H locs from by rw [hH, hlc]]
  refine lv_aload_n hx hb dX9_kept_0 rfl (lv_at hl 0 rfl) ?_
  obtain ⟨vM_1, hc1, hok⟩ := k_bind hok
  refine kCv (wc := (wX9_good cy aM qM vM)) (wc2 := (wX9_good cy aM qM vM_1)) (wr := [(qM 17, rI cy 9 vM_st), (qM 22, rI cy 9 vM_trial), (qM 15, rI cy 224 vM_r)]) (ws2 := (wX9_kept cy aM qM vM_1 vM_st vM_trial vM_r)) (kRunV (As := []) (rest := []) ⟨hx, hb, hml, hown, ht0⟩ (kX9_good l D cy _ aM qM vM vM_1 hc1 _ rfl) (cwV 0 ht0 (gV wd870 wd871 wd872 wd744 wd873) rfl rfl rfl (by decide +kernel) ⟨Nat.le_of_ble_eq_true rfl, Nat.le_of_ble_eq_true rfl⟩) hK hN hP hD [0] rfl (by decide) 0 8 rfl rfl rfl hl.1 rfl (Nat.le_of_ble_eq_true rfl) dX9_kept_1 ⟨Nat.zero_le _, Nat.zero_le _⟩) hP hD hS hA [0] [1, 2, 3] rfl rfl (by decide) (by decide) [3, 0, 1, 2] (by decide) rfl rfl (fun H locs hP hD hS => ?_)
  refine lv_aload_n hx hb dX9_kept_4 rfl (lv_at hl 0 rfl) ?_
  refine va_get (D := D) (ci := 8) (v := .int (vM_1 14)) (C := RX9) (T := TX9) (N := 29) hx hb ht0 niX9 hown hK hP 0 rfl rfl 14 (by decide) (ht0 _ wd855) (fun _ h9 => h9) rfl dX9_kept_5 ?_
  refine lv_if_eq (tgt := 21) hx hb dX9_kept_8 (by decide) (fun c8 => ?_) (fun c8 => ?_)
  · have hok := k_pos c8 hok
    refine lv_aload_n hx hb dX9_kept_21 rfl (lv_at hl 0 rfl) ?_
    refine lv_iconst (v := 1) hx hb dX9_kept_22 (by decide) ?_
    obtain ⟨⟨r23, vM_23⟩, hc23, hok⟩ := k_bind hok
    try dsimp only at hok
    refine kCi (wc := (wX9_no cy aM qM vM_1)) (wc2 := (wX9_no cy aM qM vM_23)) (wr := [(qM 17, rI cy 9 vM_st), (qM 22, rI cy 9 vM_trial), (qM 15, rI cy 224 vM_r)]) (ws2 := (wX9_kept cy aM qM vM_23 vM_st vM_trial vM_r)) (kRunV (As := [.int 1]) (rest := []) ⟨hx, hb, hml, hown, ht0⟩ (kX9_no l D cy _ aM qM vM_1 (1 : Int32) r23 vM_23 hc23 _ rfl) (cwV 1 ht0 (gV wd862 wd863 wd864 wd744 wd865) rfl rfl rfl (by decide +kernel) ⟨Nat.le_of_ble_eq_true rfl, Nat.le_of_ble_eq_true rfl⟩) hK hN hP hD [0] rfl (by decide) 0 8 rfl rfl rfl hl.1 rfl (Nat.le_of_ble_eq_true rfl) dX9_kept_23 ⟨Nat.zero_le _, Nat.zero_le _⟩) hP hD hS hA [0] [1, 2, 3] rfl rfl (by decide) (by decide) [3, 0, 1, 2] (by decide) rfl rfl (fun H locs hP hD hS => ?_)
    exact J26 r23 vM_trial vM_23 H locs ls hP hD hS (lv_sub hl [] rfl) hok
  · have hok := k_neg c8 hok
    refine lv_aload_n hx hb dX9_kept_11 rfl (lv_at hl 0 rfl) ?_
    refine lv_iconst (v := 0) hx hb dX9_kept_12 (by decide) ?_
    refine lv_bipush (v := 60) hx hb dX9_kept_13 (by decide) ?_
    obtain ⟨⟨r15, vM_trial_15⟩, hc15, hok⟩ := k_bind hok
    try dsimp only at hok
    refine kCi (wc := (wX9_keptBy cy aM qM vM_1 vM_st vM_trial vM_r)) (wc2 := (wX9_keptBy cy aM qM vM_1 vM_st vM_trial_15 vM_r)) (wr := []) (ws2 := (wX9_kept cy aM qM vM_1 vM_st vM_trial_15 vM_r)) (kRunV (As := [.int 0, .int 60]) (rest := []) ⟨hx, hb, hml, hown, ht0⟩ (kX9_keptBy l D cy _ aM qM vM_1 vM_st vM_trial vM_r (0 : Int32) (60 : Int32) r15 vM_trial_15 hc15 _ rfl) (cwV 2 ht0 (gV wd974 wd975 wd976 wd744 wd977) rfl rfl rfl (by decide +kernel) ⟨Nat.le_of_ble_eq_true rfl, Nat.le_of_ble_eq_true rfl⟩) hK hN hP hD [0, 1, 2, 3] rfl (by decide) 0 8 rfl rfl rfl hl.1 rfl (Nat.le_of_ble_eq_true rfl) dX9_kept_15 ⟨Nat.zero_le _, Nat.zero_le _⟩) hP hD hS hA [0, 1, 2, 3] [] rfl rfl (by decide) (by decide) [0, 1, 2, 3] (by decide) rfl rfl (fun H locs hP hD hS => ?_)
    refine lv_goto (tgt := 26) hx hb dX9_kept_18 (by decide) ?_
    exact J26 r15 vM_trial_15 vM_1 H locs ls hP hD hS (lv_sub hl [] rfl) hok
def wsX9_isRule : List Cond := .code yX9_isRule cX9_isRule 6 (some .boolean) :: W0
abbrev wX9_isRule (cy : Nat → ClassId) (aM : Nat) (qM : Nat → Nat) (vM : Nat → Int32) (vM_r : Nat → Int32) : va_W := [(aM, oX9 vM qM), (qM 15, rI cy 224 vM_r)]
set_option maxHeartbeats 4000000 in
set_option maxRecDepth 100000 in
theorem kX9_isRule (l : Launch) (D : va_G) (cy : Nat → ClassId) (sz : Nat) (aM : Nat) (qM : Nat → Nat) (vM : Nat → Int32) (vM_r : Nat → Int32) (x1 : Int32) (x2 : Int32) (x3 : Int32) (zr : Int32) (hok : fX9_isRule vM vM_r x1 x2 x3 = some zr) (A : Nat → Prop) (hAe : va_A (wX9_isRule cy aM qM vM vM_r) sz = A) : Met l yX9_isRule wsX9_isRule ({ frames := 0, cells := 0, slots := 0, locals := 0 } : Room) (kPre D cy [.ref aM, .int x1, .int x2, .int x3] (wX9_isRule cy aM qM vM vM_r) sz) (kQi D cy zr A (wX9_isRule cy aM qM vM vM_r)) 0 0 A := by
  refine Met.ofW (cc := cX9_isRule) (maxL := 6) (ret := (some .boolean)) (by decide) rfl ?_
  intro p e s m args below meth c s₁ B hml hv
  obtain ⟨rfl, hsz, hP, hK, hD0, hN⟩ := hv
  have hx := B.exec
  have hb := B.bytes
  have hr := B.returns
  have ht0 : ∀ w ∈ W0, w.before _ s = true := fun w h => atoms_spec (ws := wsX9_isRule) B.pre w (List.mem_cons_of_mem _ h)
  have hown : s.vm.findClass RX9 = some m.cls := findClass_of_methodNamed B.named
  have hlocks := B.notSynchronized
  subst hsz
  have hD : va_D A (wX9_isRule cy aM qM vM vM_r) := by rw [← hAe]; exact hD0.self
  have hA : ∀ q : Nat, s.heap.size ≤ q → A q := fun q h => by rw [← hAe]; exact Or.inr h
  have hS : va_S A s.heap s.heap [] := va_S.rf
  have hl := lv_entry ([.ref aM, .int x1, .int x2, .int x3]) (n := 6) (Nat.le_of_ble_eq_true rfl)
  rw [lg_entry_eq]
  generalize (lg_sl ([.ref aM, .int x1, .int x2, .int x3]) ++ List.replicate (6 - (lg_sl ([.ref aM, .int x1, .int x2, .int x3])).length) Slot.unset).toArray = ls at hl ⊢
  have hl : lv_has ls 6 [(0, .ref aM), (1, .int x1), (2, .int x2), (3, .int x3)] := hl
  generalize hQe : MQ below (kQi D cy zr A (wX9_isRule cy aM qM vM vM_r)) ([.ref aM, .int x1, .int x2, .int x3] : List Value).toArray s 0 0 A = Q
  have L6 : ∀ (fuel : Nat) (y4_6 : Int32) (y5_6 : Int32), ∀ (H : Heap) (locs : List Loc) (ls : Array Slot), va_P D vwCl (wX9_isRule cy aM qM vM vM_r) H → va_D A (wX9_isRule cy aM qM vM vM_r) → va_S A s.heap H locs → lv_has ls 6 [(0, .ref aM), (1, .int x1), (2, .int x2), (3, .int x3), (4, .int y4_6), (5, .int y5_6)] → lp (fX9_isRule_B6 vM_r x1 x2 x3) fuel (y4_6, y5_6) = some zr → W p l e ({ frames := 0, cells := 0, slots := 0, locals := 0 } : Room) s m ([.ref aM, .int x1, .int x2, .int x3] : List Value).toArray below meth c H locs 0 0 Q (F0 m 6 ls []) := by
    intro fuel
    induction fuel with
    | zero => intro y4_6 y5_6 H locs ls hP hD hS hl hok; exact (lp_0 hok).elim
    | succ fuel ih6 =>
      intro y4_6 y5_6 H locs ls hP hD hS hl hok
      obtain ⟨y6, hok, hL6, hR6⟩ := lp_step hok
      have J94 : ∀ (t0_94 : Int32), ∀ (H : Heap) (locs : List Loc) (ls : Array Slot), va_P D vwCl (wX9_isRule cy aM qM vM vM_r) H → va_D A (wX9_isRule cy aM qM vM vM_r) → va_S A s.heap H locs → lv_has ls 6 [(0, .ref aM), (1, .int x1), (2, .int x2), (3, .int x3), (5, .int y5_6)] → fX9_isRule_J94 y5_6 t0_94 = some y6 → W p l e ({ frames := 0, cells := 0, slots := 0, locals := 0 } : Room) s m ([.ref aM, .int x1, .int x2, .int x3] : List Value).toArray below meth c H locs 0 0 Q (F0 m 94 ls [.int t0_94]) := by
        intro t0_94 H locs ls hP hD hS hl hok
        unfold fX9_isRule_J94 at hok
        refine lv_istore (lv' := [(4, .int t0_94), (0, .ref aM), (1, .int x1), (2, .int x2), (3, .int x3), (5, .int y5_6)]) hx hb dX9_isRule_94 hl (by decide) rfl (fun ls hl => ?_)
        refine lv_iinc (v := (y5_6 + 1)) (lv' := [(5, .int (y5_6 + 1)), (4, .int t0_94), (0, .ref aM), (1, .int x1), (2, .int x2), (3, .int x3)]) hx hb dX9_isRule_96 hl (k := 5) rfl (by first | rfl | decide) (by decide) rfl (fun ls hl => ?_)
        refine lv_goto (tgt := 6) hx hb dX9_isRule_99 (by decide) ?_
        exact ih6 t0_94 (y5_6 + 1) H locs ls hP hD hS (lv_sub hl [2, 3, 4, 5, 1, 0] rfl) (hR6 _ (Option.some.inj hok).symm)
      have J93 : ∀ (H : Heap) (locs : List Loc) (ls : Array Slot), va_P D vwCl (wX9_isRule cy aM qM vM vM_r) H → va_D A (wX9_isRule cy aM qM vM vM_r) → va_S A s.heap H locs → lv_has ls 6 [(0, .ref aM), (1, .int x1), (2, .int x2), (3, .int x3), (5, .int y5_6)] → fX9_isRule_J93 y5_6 = some y6 → W p l e ({ frames := 0, cells := 0, slots := 0, locals := 0 } : Room) s m ([.ref aM, .int x1, .int x2, .int x3] : List Value).toArray below meth c H locs 0 0 Q (F0 m 93 ls []) := by
        intro  H locs ls hP hD hS hl hok
        unfold fX9_isRule_J93 at hok
        refine lv_iconst (v := 0) hx hb dX9_isRule_93 (by decide) ?_
        exact J94 (0 : Int32) H locs ls hP hD hS (lv_sub hl [0, 1, 2, 3, 4] rfl) hok
      have J86 : ∀ (t0_86 : Int32) (t1_86 : Int32), ∀ (H : Heap) (locs : List Loc) (ls : Array Slot), va_P D vwCl (wX9_isRule cy aM qM vM vM_r) H → va_D A (wX9_isRule cy aM qM vM vM_r) → va_S A s.heap H locs → lv_has ls 6 [(0, .ref aM), (1, .int x1), (2, .int x2), (3, .int x3), (5, .int y5_6)] → fX9_isRule_J86 y5_6 t0_86 t1_86 = some y6 → W p l e ({ frames := 0, cells := 0, slots := 0, locals := 0 } : Room) s m ([.ref aM, .int x1, .int x2, .int x3] : List Value).toArray below meth c H locs 0 0 Q (F0 m 86 ls [.int t0_86, .int t1_86]) := by
        intro t0_86 t1_86 H locs ls hP hD hS hl hok
        unfold fX9_isRule_J86 at hok
        refine lv_icmp_ne (tgt := 93) hx hb dX9_isRule_86 (by decide) (fun c86 => ?_) (fun c86 => ?_)
        · have hok := k_neg c86 hok
          exact J93  H locs ls hP hD hS (lv_sub hl [0, 1, 2, 3, 4] rfl) hok
        · have hok := k_pos c86 hok
          refine lv_iconst (v := 1) hx hb dX9_isRule_89 (by decide) ?_
          refine lv_goto (tgt := 94) hx hb dX9_isRule_90 (by decide) ?_
          exact J94 (1 : Int32) H locs ls hP hD hS (lv_sub hl [0, 1, 2, 3, 4] rfl) hok
      have J63 : ∀ (t0_63 : Int32), ∀ (H : Heap) (locs : List Loc) (ls : Array Slot), va_P D vwCl (wX9_isRule cy aM qM vM vM_r) H → va_D A (wX9_isRule cy aM qM vM vM_r) → va_S A s.heap H locs → lv_has ls 6 [(0, .ref aM), (1, .int x1), (2, .int x2), (3, .int x3), (5, .int y5_6)] → fX9_isRule_J63 vM_r y5_6 t0_63 = some y6 → W p l e ({ frames := 0, cells := 0, slots := 0, locals := 0 } : Room) s m ([.ref aM, .int x1, .int x2, .int x3] : List Value).toArray below meth c H locs 0 0 Q (F0 m 63 ls [.int t0_63]) := by
        intro t0_63 H locs ls hP hD hS hl hok
        unfold fX9_isRule_J63 at hok
        refine lv_aload_n hx hb dX9_isRule_63 rfl (lv_at hl 0 rfl) ?_
        refine va_get (D := D) (ci := 8) (v := .ref (qM 15)) (C := RX9) (T := TX9) (N := 29) hx hb ht0 niX9 hown hK hP 0 rfl rfl 15 (by decide) (ht0 _ wd854) (fun _ h9 => h9) rfl dX9_isRule_64 ?_
        refine lv_bipush (v := 107) hx hb dX9_isRule_67 (by decide) ?_
        refine lv_iconst (v := 3) hx hb dX9_isRule_69 (by decide) ?_
        refine lv_iload hx hb dX9_isRule_70 (lv_at hl 4 rfl) ?_
        refine lv_imul hx hb dX9_isRule_72 ?_
        refine lv_iadd hx hb dX9_isRule_73 ?_
        refine lv_iconst (v := 2) hx hb dX9_isRule_74 (by decide) ?_
        refine lv_iadd hx hb dX9_isRule_75 ?_
        obtain ⟨g76, hok⟩ := gd_some hok
        refine va_iald hx hb hK hP 1 0 rfl rfl (okI_in g76) dX9_isRule_76 ?_
        refine lv_iconst (v := 1) hx hb dX9_isRule_77 (by decide) ?_
        refine lv_icmp_ne (tgt := 85) hx hb dX9_isRule_78 (by decide) (fun c78 => ?_) (fun c78 => ?_)
        · have hok := k_neg c78 hok
          refine lv_iconst (v := 0) hx hb dX9_isRule_85 (by decide) ?_
          exact J86 (0 : Int32) t0_63 H locs ls hP hD hS (lv_sub hl [0, 1, 2, 3, 4] rfl) hok
        · have hok := k_pos c78 hok
          refine lv_iconst (v := 1) hx hb dX9_isRule_81 (by decide) ?_
          refine lv_goto (tgt := 86) hx hb dX9_isRule_82 (by decide) ?_
          exact J86 (1 : Int32) t0_63 H locs ls hP hD hS (lv_sub hl [0, 1, 2, 3, 4] rfl) hok
      unfold fX9_isRule_B6 at hok
      try dsimp only at hok
      refine lv_iload hx hb dX9_isRule_6 (lv_at hl 5 rfl) ?_
      refine lv_aload_n hx hb dX9_isRule_8 rfl (lv_at hl 0 rfl) ?_
      refine va_get (D := D) (ci := 8) (v := .ref (qM 15)) (C := RX9) (T := TX9) (N := 29) hx hb ht0 niX9 hown hK hP 0 rfl rfl 15 (by decide) (ht0 _ wd854) (fun _ h9 => h9) rfl dX9_isRule_9 ?_
      refine lv_bipush (v := 7) hx hb dX9_isRule_12 (by decide) ?_
      obtain ⟨g14, hok⟩ := gd_some hok
      refine va_iald hx hb hK hP 1 0 rfl rfl (okI_in g14) dX9_isRule_14 ?_
      refine lv_icmp_ge (tgt := 102) hx hb dX9_isRule_15 (by decide) (fun c15 => ?_) (fun c15 => ?_)
      · have hok := k_pos c15 hok
        obtain ⟨e6, hok, he6⟩ := ex_some hok
        have hok := hok.trans (congrArg some (hL6 _ he6))
        refine lv_iload hx hb dX9_isRule_102 (lv_at hl 4 rfl) ?_
        obtain ⟨g104, hok⟩ := gd_some hok
        cases hok
        subst hQe; exact W.zret hx hb hr (isB_nar g104) (fun t ht hW => ⟨⟨_, (), rfl, rfl, by rw [ht]; exact hP, va_K.moved hW.alike hK, hD⟩, hS.F ht⟩) hS.2.2 dX9_isRule_104
      · have hok := k_neg c15 hok
        refine lv_iload hx hb dX9_isRule_18 (lv_at hl 4 rfl) ?_
        refine lv_if_eq (tgt := 93) hx hb dX9_isRule_20 (by decide) (fun c20 => ?_) (fun c20 => ?_)
        · have hok := k_pos c20 hok
          exact J93  H locs ls hP hD hS (lv_sub hl [0, 1, 2, 3, 5] rfl) hok
        · have hok := k_neg c20 hok
          refine lv_iload_n hx hb dX9_isRule_23 rfl (lv_at hl 3 rfl) ?_
          refine lv_iload_n hx hb dX9_isRule_24 rfl (lv_at hl 2 rfl) ?_
          refine lv_aload_n hx hb dX9_isRule_25 rfl (lv_at hl 0 rfl) ?_
          refine va_get (D := D) (ci := 8) (v := .ref (qM 15)) (C := RX9) (T := TX9) (N := 29) hx hb ht0 niX9 hown hK hP 0 rfl rfl 15 (by decide) (ht0 _ wd854) (fun _ h9 => h9) rfl dX9_isRule_26 ?_
          refine lv_bipush (v := 107) hx hb dX9_isRule_29 (by decide) ?_
          refine lv_iconst (v := 3) hx hb dX9_isRule_31 (by decide) ?_
          refine lv_iload hx hb dX9_isRule_32 (lv_at hl 5 rfl) ?_
          refine lv_imul hx hb dX9_isRule_34 ?_
          refine lv_iadd hx hb dX9_isRule_35 ?_
          obtain ⟨g36, hok⟩ := gd_some hok
          refine va_iald hx hb hK hP 1 0 rfl rfl (okI_in g36) dX9_isRule_36 ?_
          refine lv_imul hx hb dX9_isRule_37 ?_
          refine lv_iadd hx hb dX9_isRule_38 ?_
          refine lv_iload_n hx hb dX9_isRule_39 rfl (lv_at hl 1 rfl) ?_
          obtain ⟨g40, hok⟩ := gd_some hok
          refine lv_irem hx hb dX9_isRule_40 (nzI_ne g40) ?_
          refine lv_aload_n hx hb dX9_isRule_41 rfl (lv_at hl 0 rfl) ?_
          refine va_get (D := D) (ci := 8) (v := .ref (qM 15)) (C := RX9) (T := TX9) (N := 29) hx hb ht0 niX9 hown hK hP 0 rfl rfl 15 (by decide) (ht0 _ wd854) (fun _ h9 => h9) rfl dX9_isRule_42 ?_
          refine lv_bipush (v := 107) hx hb dX9_isRule_45 (by decide) ?_
          refine lv_iconst (v := 3) hx hb dX9_isRule_47 (by decide) ?_
          refine lv_iload hx hb dX9_isRule_48 (lv_at hl 5 rfl) ?_
          refine lv_imul hx hb dX9_isRule_50 ?_
          refine lv_iadd hx hb dX9_isRule_51 ?_
          refine lv_iconst (v := 1) hx hb dX9_isRule_52 (by decide) ?_
          refine lv_iadd hx hb dX9_isRule_53 ?_
          obtain ⟨g54, hok⟩ := gd_some hok
          refine va_iald hx hb hK hP 1 0 rfl rfl (okI_in g54) dX9_isRule_54 ?_
          refine lv_icmp_ne (tgt := 62) hx hb dX9_isRule_55 (by decide) (fun c55 => ?_) (fun c55 => ?_)
          · have hok := k_neg c55 hok
            refine lv_iconst (v := 0) hx hb dX9_isRule_62 (by decide) ?_
            exact J63 (0 : Int32) H locs ls hP hD hS (lv_sub hl [0, 1, 2, 3, 5] rfl) hok
          · have hok := k_pos c55 hok
            refine lv_iconst (v := 1) hx hb dX9_isRule_58 (by decide) ?_
            refine lv_goto (tgt := 63) hx hb dX9_isRule_59 (by decide) ?_
            exact J63 (1 : Int32) H locs ls hP hD hS (lv_sub hl [0, 1, 2, 3, 5] rfl) hok
  unfold fX9_isRule at hok
  obtain ⟨H, hH⟩ : ∃ H, H = s.heap := ⟨_, rfl⟩
  obtain ⟨locs, hlc⟩ : ∃ x : List Loc, x = [] := ⟨_, rfl⟩
  have hP : va_P D vwCl (wX9_isRule cy aM qM vM vM_r) H := by rw [hH]; exact hP
  have hS : va_S A s.heap H locs := by rw [hH, hlc]; exact hS
  rw [show W p l e _ s m _ below meth c s.heap [] = W p l e _ s m _ below meth c H locs from by rw [hH, hlc]]
  refine lv_iconst (v := 1) hx hb dX9_isRule_0 (by decide) ?_
  refine lv_istore (lv' := [(4, .int 1), (0, .ref aM), (1, .int x1), (2, .int x2), (3, .int x3)]) hx hb dX9_isRule_1 hl (by decide) rfl (fun ls hl => ?_)
  refine lv_iconst (v := 0) hx hb dX9_isRule_3 (by decide) ?_
  refine lv_istore (lv' := [(5, .int 0), (4, .int 1), (0, .ref aM), (1, .int x1), (2, .int x2), (3, .int x3)]) hx hb dX9_isRule_4 hl (by decide) rfl (fun ls hl => ?_)
  exact L6 5000 (1 : Int32) (0 : Int32) H locs ls hP hD hS (lv_sub hl [2, 3, 4, 5, 1, 0] rfl) hok
def wsX9_rulesBy : List Cond := .code yX9_rulesBy cX9_rulesBy 8 (some .int) :: W0
abbrev wX9_rulesBy (cy : Nat → ClassId) (aM : Nat) (qM : Nat → Nat) (vM : Nat → Int32) (vM_r : Nat → Int32) : va_W := [(aM, oX9 vM qM), (qM 15, rI cy 224 vM_r)]
set_option maxHeartbeats 4000000 in
set_option maxRecDepth 100000 in
theorem kX9_rulesBy (l : Launch) (D : va_G) (cy : Nat → ClassId) (sz : Nat) (aM : Nat) (qM : Nat → Nat) (vM : Nat → Int32) (vM_r : Nat → Int32) (x1 : Int32) (x2 : Int32) (x3 : Int32) (zr : Int32) (hok : fX9_rulesBy vM vM_r x1 x2 x3 = some zr) (A : Nat → Prop) (hAe : va_A (wX9_rulesBy cy aM qM vM vM_r) sz = A) : Met l yX9_rulesBy wsX9_rulesBy ({ frames := 1, cells := 0, slots := 0, locals := 25 } : Room) (kPre D cy [.ref aM, .int x1, .int x2, .int x3] (wX9_rulesBy cy aM qM vM vM_r) sz) (kQi D cy zr A (wX9_rulesBy cy aM qM vM vM_r)) 0 0 A := by
  refine Met.ofW (cc := cX9_rulesBy) (maxL := 8) (ret := (some .int)) (by decide) rfl ?_
  intro p e s m args below meth c s₁ B hml hv
  obtain ⟨rfl, hsz, hP, hK, hD0, hN⟩ := hv
  have hx := B.exec
  have hb := B.bytes
  have hr := B.returns
  have ht0 : ∀ w ∈ W0, w.before _ s = true := fun w h => atoms_spec (ws := wsX9_rulesBy) B.pre w (List.mem_cons_of_mem _ h)
  have hown : s.vm.findClass RX9 = some m.cls := findClass_of_methodNamed B.named
  have hlocks := B.notSynchronized
  subst hsz
  have hD : va_D A (wX9_rulesBy cy aM qM vM vM_r) := by rw [← hAe]; exact hD0.self
  have hA : ∀ q : Nat, s.heap.size ≤ q → A q := fun q h => by rw [← hAe]; exact Or.inr h
  have hS : va_S A s.heap s.heap [] := va_S.rf
  have hl := lv_entry ([.ref aM, .int x1, .int x2, .int x3]) (n := 8) (Nat.le_of_ble_eq_true rfl)
  rw [lg_entry_eq]
  generalize (lg_sl ([.ref aM, .int x1, .int x2, .int x3]) ++ List.replicate (8 - (lg_sl ([.ref aM, .int x1, .int x2, .int x3])).length) Slot.unset).toArray = ls at hl ⊢
  have hl : lv_has ls 8 [(0, .ref aM), (1, .int x1), (2, .int x2), (3, .int x3)] := hl
  generalize hQe : MQ below (kQi D cy zr A (wX9_rulesBy cy aM qM vM vM_r)) ([.ref aM, .int x1, .int x2, .int x3] : List Value).toArray s 0 0 A = Q
  have L6 : ∀ (fuel : Nat) (y4_6 : Int32) (y5_6 : Int32), ∀ (H : Heap) (locs : List Loc) (ls : Array Slot), va_P D vwCl (wX9_rulesBy cy aM qM vM vM_r) H → va_D A (wX9_rulesBy cy aM qM vM vM_r) → va_S A s.heap H locs → lv_has ls 8 [(0, .ref aM), (1, .int x1), (2, .int x2), (3, .int x3), (4, .int y4_6), (5, .int y5_6)] → lp (fX9_rulesBy_B6 vM vM_r x1 x2 x3) fuel (y4_6, y5_6) = some zr → W p l e ({ frames := 1, cells := 0, slots := 0, locals := 25 } : Room) s m ([.ref aM, .int x1, .int x2, .int x3] : List Value).toArray below meth c H locs 0 0 Q (F0 m 6 ls []) := by
    intro fuel
    induction fuel with
    | zero => intro y4_6 y5_6 H locs ls hP hD hS hl hok; exact (lp_0 hok).elim
    | succ fuel ih6 =>
      intro y4_6 y5_6 H locs ls hP hD hS hl hok
      obtain ⟨y6, hok, hL6, hR6⟩ := lp_step hok
      have L16 : ∀ (fuel : Nat) (y4_16 : Int32) (y6_16 : Int32), ∀ (H : Heap) (locs : List Loc) (ls : Array Slot), va_P D vwCl (wX9_rulesBy cy aM qM vM vM_r) H → va_D A (wX9_rulesBy cy aM qM vM vM_r) → va_S A s.heap H locs → lv_has ls 8 [(0, .ref aM), (1, .int x1), (2, .int x2), (3, .int x3), (4, .int y4_16), (5, .int y5_6), (6, .int y6_16)] → lp (fX9_rulesBy_B16 vM vM_r x1 x2 x3 y5_6) fuel (y4_16, y6_16) = some y6 → W p l e ({ frames := 1, cells := 0, slots := 0, locals := 25 } : Room) s m ([.ref aM, .int x1, .int x2, .int x3] : List Value).toArray below meth c H locs 0 0 Q (F0 m 16 ls []) := by
        intro fuel
        induction fuel with
        | zero => intro y4_16 y6_16 H locs ls hP hD hS hl hok; exact (lp_0 hok).elim
        | succ fuel ih16 =>
          intro y4_16 y6_16 H locs ls hP hD hS hl hok
          obtain ⟨y16, hok, hL16, hR16⟩ := lp_step hok
          have L26 : ∀ (fuel : Nat) (y4_26 : Int32) (y7_26 : Int32), ∀ (H : Heap) (locs : List Loc) (ls : Array Slot), va_P D vwCl (wX9_rulesBy cy aM qM vM vM_r) H → va_D A (wX9_rulesBy cy aM qM vM vM_r) → va_S A s.heap H locs → lv_has ls 8 [(0, .ref aM), (1, .int x1), (2, .int x2), (3, .int x3), (4, .int y4_26), (5, .int y5_6), (6, .int y6_16), (7, .int y7_26)] → lp (fX9_rulesBy_B26 vM vM_r x1 x2 x3 y5_6 y6_16) fuel (y4_26, y7_26) = some y16 → W p l e ({ frames := 1, cells := 0, slots := 0, locals := 25 } : Room) s m ([.ref aM, .int x1, .int x2, .int x3] : List Value).toArray below meth c H locs 0 0 Q (F0 m 26 ls []) := by
            intro fuel
            induction fuel with
            | zero => intro y4_26 y7_26 H locs ls hP hD hS hl hok; exact (lp_0 hok).elim
            | succ fuel ih26 =>
              intro y4_26 y7_26 H locs ls hP hD hS hl hok
              obtain ⟨y26, hok, hL26, hR26⟩ := lp_step hok
              have J71 : ∀ (t0_71 : Int32), ∀ (H : Heap) (locs : List Loc) (ls : Array Slot), va_P D vwCl (wX9_rulesBy cy aM qM vM vM_r) H → va_D A (wX9_rulesBy cy aM qM vM vM_r) → va_S A s.heap H locs → lv_has ls 8 [(0, .ref aM), (1, .int x1), (2, .int x2), (3, .int x3), (5, .int y5_6), (6, .int y6_16), (7, .int y7_26)] → fX9_rulesBy_J71 y4_26 y7_26 t0_71 = some y26 → W p l e ({ frames := 1, cells := 0, slots := 0, locals := 25 } : Room) s m ([.ref aM, .int x1, .int x2, .int x3] : List Value).toArray below meth c H locs 0 0 Q (F0 m 71 ls [.int t0_71, .int y4_26]) := by
                intro t0_71 H locs ls hP hD hS hl hok
                unfold fX9_rulesBy_J71 at hok
                refine lv_iadd hx hb dX9_rulesBy_71 ?_
                refine lv_istore (lv' := [(4, .int (y4_26 + t0_71)), (0, .ref aM), (1, .int x1), (2, .int x2), (3, .int x3), (5, .int y5_6), (6, .int y6_16), (7, .int y7_26)]) hx hb dX9_rulesBy_72 hl (by decide) rfl (fun ls hl => ?_)
                refine lv_iinc (v := (y7_26 + 1)) (lv' := [(7, .int (y7_26 + 1)), (4, .int (y4_26 + t0_71)), (0, .ref aM), (1, .int x1), (2, .int x2), (3, .int x3), (5, .int y5_6), (6, .int y6_16)]) hx hb dX9_rulesBy_74 hl (k := 7) rfl (by first | rfl | decide) (by decide) rfl (fun ls hl => ?_)
                refine lv_goto (tgt := 26) hx hb dX9_rulesBy_77 (by decide) ?_
                exact ih26 (y4_26 + t0_71) (y7_26 + 1) H locs ls hP hD hS (lv_sub hl [2, 3, 4, 5, 1, 6, 7, 0] rfl) (hR26 _ (Option.some.inj hok).symm)
              have J70 : ∀ (H : Heap) (locs : List Loc) (ls : Array Slot), va_P D vwCl (wX9_rulesBy cy aM qM vM vM_r) H → va_D A (wX9_rulesBy cy aM qM vM vM_r) → va_S A s.heap H locs → lv_has ls 8 [(0, .ref aM), (1, .int x1), (2, .int x2), (3, .int x3), (5, .int y5_6), (6, .int y6_16), (7, .int y7_26)] → fX9_rulesBy_J70 y4_26 y7_26 = some y26 → W p l e ({ frames := 1, cells := 0, slots := 0, locals := 25 } : Room) s m ([.ref aM, .int x1, .int x2, .int x3] : List Value).toArray below meth c H locs 0 0 Q (F0 m 70 ls [.int y4_26]) := by
                intro  H locs ls hP hD hS hl hok
                unfold fX9_rulesBy_J70 at hok
                refine lv_iconst (v := 0) hx hb dX9_rulesBy_70 (by decide) ?_
                exact J71 (0 : Int32) H locs ls hP hD hS (lv_sub hl [0, 1, 2, 3, 4, 5, 6] rfl) hok
              have J66 : ∀ (H : Heap) (locs : List Loc) (ls : Array Slot), va_P D vwCl (wX9_rulesBy cy aM qM vM vM_r) H → va_D A (wX9_rulesBy cy aM qM vM vM_r) → va_S A s.heap H locs → lv_has ls 8 [(0, .ref aM), (1, .int x1), (2, .int x2), (3, .int x3), (5, .int y5_6), (6, .int y6_16), (7, .int y7_26)] → fX9_rulesBy_J66 y4_26 y7_26 = some y26 → W p l e ({ frames := 1, cells := 0, slots := 0, locals := 25 } : Room) s m ([.ref aM, .int x1, .int x2, .int x3] : List Value).toArray below meth c H locs 0 0 Q (F0 m 66 ls [.int y4_26]) := by
                intro  H locs ls hP hD hS hl hok
                unfold fX9_rulesBy_J66 at hok
                refine lv_iconst (v := 1) hx hb dX9_rulesBy_66 (by decide) ?_
                refine lv_goto (tgt := 71) hx hb dX9_rulesBy_67 (by decide) ?_
                exact J71 (1 : Int32) H locs ls hP hD hS (lv_sub hl [0, 1, 2, 3, 4, 5, 6] rfl) hok
              unfold fX9_rulesBy_B26 at hok
              try dsimp only at hok
              refine lv_iload hx hb dX9_rulesBy_26 (lv_at hl 7 rfl) ?_
              refine lv_iload hx hb dX9_rulesBy_28 (lv_at hl 5 rfl) ?_
              refine lv_icmp_ge (tgt := 80) hx hb dX9_rulesBy_30 (by decide) (fun c30 => ?_) (fun c30 => ?_)
              · have hok := k_pos c30 hok
                obtain ⟨e26, hok, he26⟩ := ex_some hok
                have hok := hok.trans (congrArg some (hL26 _ he26))
                refine lv_iinc (v := (y6_16 + 1)) (lv' := [(6, .int (y6_16 + 1)), (0, .ref aM), (1, .int x1), (2, .int x2), (3, .int x3), (4, .int y4_26), (5, .int y5_6), (7, .int y7_26)]) hx hb dX9_rulesBy_80 hl (k := 6) rfl (by first | rfl | decide) (by decide) rfl (fun ls hl => ?_)
                refine lv_goto (tgt := 16) hx hb dX9_rulesBy_83 (by decide) ?_
                exact ih16 y4_26 (y6_16 + 1) H locs ls hP hD hS (lv_sub hl [1, 2, 3, 4, 5, 6, 0] rfl) (hR16 _ (Option.some.inj hok).symm)
              · have hok := k_neg c30 hok
                refine lv_iload hx hb dX9_rulesBy_33 (lv_at hl 4 rfl) ?_
                refine lv_aload_n hx hb dX9_rulesBy_35 rfl (lv_at hl 0 rfl) ?_
                refine lv_iload hx hb dX9_rulesBy_36 (lv_at hl 5 rfl) ?_
                refine lv_iload hx hb dX9_rulesBy_38 (lv_at hl 6 rfl) ?_
                refine lv_iload hx hb dX9_rulesBy_40 (lv_at hl 7 rfl) ?_
                obtain ⟨r42, hc42, hok⟩ := k_bind hok
                refine kCi (wc := (wX9_isRule cy aM qM vM vM_r)) (wc2 := (wX9_isRule cy aM qM vM vM_r)) (wr := []) (ws2 := (wX9_rulesBy cy aM qM vM vM_r)) (kRunV (As := [.int y5_6, .int y6_16, .int y7_26]) (rest := [.int y4_26]) ⟨hx, hb, hml, hown, ht0⟩ (kX9_isRule l D cy _ aM qM vM vM_r y5_6 y6_16 y7_26 r42 hc42 _ rfl) (cwV 3 ht0 (gV wd986 wd987 wd988 wd744 wd989) rfl rfl rfl (by decide +kernel) ⟨Nat.le_of_ble_eq_true rfl, Nat.le_of_ble_eq_true rfl⟩) hK hN hP hD [0, 1] rfl (by decide) 0 8 rfl rfl rfl hl.1 rfl (Nat.le_of_ble_eq_true rfl) dX9_rulesBy_42 ⟨Nat.zero_le _, Nat.zero_le _⟩) hP hD hS hA [0, 1] [] rfl rfl (by decide) (by decide) [0, 1] (by decide) rfl rfl (fun H locs hP hD hS => ?_)
                refine lv_if_eq (tgt := 70) hx hb dX9_rulesBy_45 (by decide) (fun c45 => ?_) (fun c45 => ?_)
                · have hok := k_pos c45 hok
                  exact J70  H locs ls hP hD hS (lv_sub hl [0, 1, 2, 3, 5, 6, 7] rfl) hok
                · have hok := k_neg c45 hok
                  refine lv_iload_n hx hb dX9_rulesBy_48 rfl (lv_at hl 1 rfl) ?_
                  refine lv_if_ne (tgt := 66) hx hb dX9_rulesBy_49 (by decide) (fun c49 => ?_) (fun c49 => ?_)
                  · have hok := k_neg c49 hok
                    exact J66  H locs ls hP hD hS (lv_sub hl [0, 1, 2, 3, 5, 6, 7] rfl) hok
                  · have hok := k_pos c49 hok
                    refine lv_iload hx hb dX9_rulesBy_52 (lv_at hl 7 rfl) ?_
                    refine lv_iload hx hb dX9_rulesBy_54 (lv_at hl 6 rfl) ?_
                    refine lv_iload_n hx hb dX9_rulesBy_56 rfl (lv_at hl 2 rfl) ?_
                    refine lv_imul hx hb dX9_rulesBy_57 ?_
                    refine lv_iadd hx hb dX9_rulesBy_58 ?_
                    refine lv_iload hx hb dX9_rulesBy_59 (lv_at hl 5 rfl) ?_
                    obtain ⟨g61, hok⟩ := gd_some hok
                    refine lv_irem hx hb dX9_rulesBy_61 (nzI_ne g61) ?_
                    refine lv_iload_n hx hb dX9_rulesBy_62 rfl (lv_at hl 3 rfl) ?_
                    refine lv_icmp_ne (tgt := 70) hx hb dX9_rulesBy_63 (by decide) (fun c63 => ?_) (fun c63 => ?_)
                    · have hok := k_neg c63 hok
                      exact J70  H locs ls hP hD hS (lv_sub hl [0, 1, 2, 3, 5, 6, 7] rfl) hok
                    · have hok := k_pos c63 hok
                      exact J66  H locs ls hP hD hS (lv_sub hl [0, 1, 2, 3, 5, 6, 7] rfl) hok
          unfold fX9_rulesBy_B16 at hok
          try dsimp only at hok
          refine lv_iload hx hb dX9_rulesBy_16 (lv_at hl 6 rfl) ?_
          refine lv_iload hx hb dX9_rulesBy_18 (lv_at hl 5 rfl) ?_
          refine lv_icmp_ge (tgt := 86) hx hb dX9_rulesBy_20 (by decide) (fun c20 => ?_) (fun c20 => ?_)
          · have hok := k_pos c20 hok
            obtain ⟨e16, hok, he16⟩ := ex_some hok
            have hok := hok.trans (congrArg some (hL16 _ he16))
            refine lv_iinc (v := (y5_6 + 1)) (lv' := [(5, .int (y5_6 + 1)), (0, .ref aM), (1, .int x1), (2, .int x2), (3, .int x3), (4, .int y4_16), (6, .int y6_16)]) hx hb dX9_rulesBy_86 hl (k := 5) rfl (by first | rfl | decide) (by decide) rfl (fun ls hl => ?_)
            refine lv_goto (tgt := 6) hx hb dX9_rulesBy_89 (by decide) ?_
            exact ih6 y4_16 (y5_6 + 1) H locs ls hP hD hS (lv_sub hl [1, 2, 3, 4, 5, 0] rfl) (hR6 _ (Option.some.inj hok).symm)
          · have hok := k_neg c20 hok
            refine lv_iconst (v := 0) hx hb dX9_rulesBy_23 (by decide) ?_
            refine lv_istore (lv' := [(7, .int 0), (0, .ref aM), (1, .int x1), (2, .int x2), (3, .int x3), (4, .int y4_16), (5, .int y5_6), (6, .int y6_16)]) hx hb dX9_rulesBy_24 hl (by decide) rfl (fun ls hl => ?_)
            exact L26 5000 y4_16 (0 : Int32) H locs ls hP hD hS (lv_sub hl [1, 2, 3, 4, 5, 6, 7, 0] rfl) hok
      unfold fX9_rulesBy_B6 at hok
      try dsimp only at hok
      refine lv_iload hx hb dX9_rulesBy_6 (lv_at hl 5 rfl) ?_
      refine lv_bipush (v := 12) hx hb dX9_rulesBy_8 (by decide) ?_
      refine lv_icmp_gt (tgt := 92) hx hb dX9_rulesBy_10 (by decide) (fun c10 => ?_) (fun c10 => ?_)
      · have hok := k_pos c10 hok
        obtain ⟨e6, hok, he6⟩ := ex_some hok
        have hok := hok.trans (congrArg some (hL6 _ he6))
        refine lv_iload hx hb dX9_rulesBy_92 (lv_at hl 4 rfl) ?_
        cases hok
        subst hQe; exact W.iret hx hb hr (fun t ht hW => ⟨⟨_, (), rfl, rfl, by rw [ht]; exact hP, va_K.moved hW.alike hK, hD⟩, hS.F ht⟩) hS.2.2 dX9_rulesBy_94
      · have hok := k_neg c10 hok
        refine lv_iconst (v := 1) hx hb dX9_rulesBy_13 (by decide) ?_
        refine lv_istore (lv' := [(6, .int 1), (0, .ref aM), (1, .int x1), (2, .int x2), (3, .int x3), (4, .int y4_6), (5, .int y5_6)]) hx hb dX9_rulesBy_14 hl (by decide) rfl (fun ls hl => ?_)
        exact L16 5000 y4_6 (1 : Int32) H locs ls hP hD hS (lv_sub hl [1, 2, 3, 4, 5, 6, 0] rfl) hok
  unfold fX9_rulesBy at hok
  obtain ⟨H, hH⟩ : ∃ H, H = s.heap := ⟨_, rfl⟩
  obtain ⟨locs, hlc⟩ : ∃ x : List Loc, x = [] := ⟨_, rfl⟩
  have hP : va_P D vwCl (wX9_rulesBy cy aM qM vM vM_r) H := by rw [hH]; exact hP
  have hS : va_S A s.heap H locs := by rw [hH, hlc]; exact hS
  rw [show W p l e _ s m _ below meth c s.heap [] = W p l e _ s m _ below meth c H locs from by rw [hH, hlc]]
  refine lv_iconst (v := 0) hx hb dX9_rulesBy_0 (by decide) ?_
  refine lv_istore (lv' := [(4, .int 0), (0, .ref aM), (1, .int x1), (2, .int x2), (3, .int x3)]) hx hb dX9_rulesBy_1 hl (by decide) rfl (fun ls hl => ?_)
  refine lv_iconst (v := 2) hx hb dX9_rulesBy_3 (by decide) ?_
  refine lv_istore (lv' := [(5, .int 2), (4, .int 0), (0, .ref aM), (1, .int x1), (2, .int x2), (3, .int x3)]) hx hb dX9_rulesBy_4 hl (by decide) rfl (fun ls hl => ?_)
  exact L6 5000 (0 : Int32) (2 : Int32) H locs ls hP hD hS (lv_sub hl [2, 3, 4, 5, 1, 0] rfl) hok
def wsX9_rules : List Cond := .code yX9_rules cX9_rules 1 (some .int) :: W0
abbrev wX9_rules (cy : Nat → ClassId) (aM : Nat) (qM : Nat → Nat) (vM : Nat → Int32) (vM_r : Nat → Int32) : va_W := [(aM, oX9 vM qM), (qM 15, rI cy 224 vM_r)]
set_option maxHeartbeats 4000000 in
set_option maxRecDepth 100000 in
theorem kX9_rules (l : Launch) (D : va_G) (cy : Nat → ClassId) (sz : Nat) (aM : Nat) (qM : Nat → Nat) (vM : Nat → Int32) (vM_r : Nat → Int32) (zr : Int32) (z_vM : Nat → Int32) (hok : fX9_rules vM vM_r = some (zr, z_vM)) (A : Nat → Prop) (hAe : va_A (wX9_rules cy aM qM vM vM_r) sz = A) : Met l yX9_rules wsX9_rules ({ frames := 2, cells := 0, slots := 0, locals := 52 } : Room) (kPre D cy [.ref aM] (wX9_rules cy aM qM vM vM_r) sz) (kQi D cy zr A (wX9_rules cy aM qM z_vM vM_r)) 0 0 A := by
  refine Met.ofW (cc := cX9_rules) (maxL := 1) (ret := (some .int)) (by decide) rfl ?_
  intro p e s m args below meth c s₁ B hml hv
  obtain ⟨rfl, hsz, hP, hK, hD0, hN⟩ := hv
  have hx := B.exec
  have hb := B.bytes
  have hr := B.returns
  have ht0 : ∀ w ∈ W0, w.before _ s = true := fun w h => atoms_spec (ws := wsX9_rules) B.pre w (List.mem_cons_of_mem _ h)
  have hown : s.vm.findClass RX9 = some m.cls := findClass_of_methodNamed B.named
  have hlocks := B.notSynchronized
  subst hsz
  have hD : va_D A (wX9_rules cy aM qM vM vM_r) := by rw [← hAe]; exact hD0.self
  have hA : ∀ q : Nat, s.heap.size ≤ q → A q := fun q h => by rw [← hAe]; exact Or.inr h
  have hS : va_S A s.heap s.heap [] := va_S.rf
  have hl := lv_entry ([.ref aM]) (n := 1) (Nat.le_of_ble_eq_true rfl)
  rw [lg_entry_eq]
  generalize (lg_sl ([.ref aM]) ++ List.replicate (1 - (lg_sl ([.ref aM])).length) Slot.unset).toArray = ls at hl ⊢
  have hl : lv_has ls 1 [(0, .ref aM)] := hl
  generalize hQe : MQ below (kQi D cy zr A (wX9_rules cy aM qM z_vM vM_r)) ([.ref aM] : List Value).toArray s 0 0 A = Q
  have J26 : ∀ (t0_26 : Int32) (vM_26 : Nat → Int32), ∀ (H : Heap) (locs : List Loc) (ls : Array Slot), va_P D vwCl (wX9_rules cy aM qM vM_26 vM_r) H → va_D A (wX9_rules cy aM qM vM_26 vM_r) → va_S A s.heap H locs → lv_has ls 1 [] → fX9_rules_J26 t0_26 vM_26 = some (zr, z_vM) → W p l e ({ frames := 2, cells := 0, slots := 0, locals := 52 } : Room) s m ([.ref aM] : List Value).toArray below meth c H locs 0 0 Q (F0 m 26 ls [.int t0_26]) := by
    intro t0_26 vM_26 H locs ls hP hD hS hl hok
    unfold fX9_rules_J26 at hok
    cases hok
    subst hQe; exact W.iret hx hb hr (fun t ht hW => ⟨⟨_, (), rfl, rfl, by rw [ht]; exact hP, va_K.moved hW.alike hK, hD⟩, hS.F ht⟩) hS.2.2 dX9_rules_26
  unfold fX9_rules at hok
  obtain ⟨H, hH⟩ : ∃ H, H = s.heap := ⟨_, rfl⟩
  obtain ⟨locs, hlc⟩ : ∃ x : List Loc, x = [] := ⟨_, rfl⟩
  have hP : va_P D vwCl (wX9_rules cy aM qM vM vM_r) H := by rw [hH]; exact hP
  have hS : va_S A s.heap H locs := by rw [hH, hlc]; exact hS
  rw [show W p l e _ s m _ below meth c s.heap [] = W p l e _ s m _ below meth c H locs from by rw [hH, hlc]]
  refine lv_aload_n hx hb dX9_rules_0 rfl (lv_at hl 0 rfl) ?_
  obtain ⟨vM_1, hc1, hok⟩ := k_bind hok
  refine kCv (wc := (wX9_good cy aM qM vM)) (wc2 := (wX9_good cy aM qM vM_1)) (wr := [(qM 15, rI cy 224 vM_r)]) (ws2 := (wX9_rules cy aM qM vM_1 vM_r)) (kRunV (As := []) (rest := []) ⟨hx, hb, hml, hown, ht0⟩ (kX9_good l D cy _ aM qM vM vM_1 hc1 _ rfl) (cwV 0 ht0 (gV wd870 wd871 wd872 wd744 wd873) rfl rfl rfl (by decide +kernel) ⟨Nat.le_of_ble_eq_true rfl, Nat.le_of_ble_eq_true rfl⟩) hK hN hP hD [0] rfl (by decide) 0 8 rfl rfl rfl hl.1 rfl (Nat.le_of_ble_eq_true rfl) dX9_rules_1 ⟨Nat.zero_le _, Nat.zero_le _⟩) hP hD hS hA [0] [1] rfl rfl (by decide) (by decide) [1, 0] (by decide) rfl rfl (fun H locs hP hD hS => ?_)
  refine lv_aload_n hx hb dX9_rules_4 rfl (lv_at hl 0 rfl) ?_
  refine va_get (D := D) (ci := 8) (v := .int (vM_1 14)) (C := RX9) (T := TX9) (N := 29) hx hb ht0 niX9 hown hK hP 0 rfl rfl 14 (by decide) (ht0 _ wd855) (fun _ h9 => h9) rfl dX9_rules_5 ?_
  refine lv_if_eq (tgt := 21) hx hb dX9_rules_8 (by decide) (fun c8 => ?_) (fun c8 => ?_)
  · have hok := k_pos c8 hok
    refine lv_aload_n hx hb dX9_rules_21 rfl (lv_at hl 0 rfl) ?_
    refine lv_iconst (v := 1) hx hb dX9_rules_22 (by decide) ?_
    obtain ⟨⟨r23, vM_23⟩, hc23, hok⟩ := k_bind hok
    try dsimp only at hok
    refine kCi (wc := (wX9_no cy aM qM vM_1)) (wc2 := (wX9_no cy aM qM vM_23)) (wr := [(qM 15, rI cy 224 vM_r)]) (ws2 := (wX9_rules cy aM qM vM_23 vM_r)) (kRunV (As := [.int 1]) (rest := []) ⟨hx, hb, hml, hown, ht0⟩ (kX9_no l D cy _ aM qM vM_1 (1 : Int32) r23 vM_23 hc23 _ rfl) (cwV 1 ht0 (gV wd862 wd863 wd864 wd744 wd865) rfl rfl rfl (by decide +kernel) ⟨Nat.le_of_ble_eq_true rfl, Nat.le_of_ble_eq_true rfl⟩) hK hN hP hD [0] rfl (by decide) 0 8 rfl rfl rfl hl.1 rfl (Nat.le_of_ble_eq_true rfl) dX9_rules_23 ⟨Nat.zero_le _, Nat.zero_le _⟩) hP hD hS hA [0] [1] rfl rfl (by decide) (by decide) [1, 0] (by decide) rfl rfl (fun H locs hP hD hS => ?_)
    exact J26 r23 vM_23 H locs ls hP hD hS (lv_sub hl [] rfl) hok
  · have hok := k_neg c8 hok
    refine lv_aload_n hx hb dX9_rules_11 rfl (lv_at hl 0 rfl) ?_
    refine lv_iconst (v := 1) hx hb dX9_rules_12 (by decide) ?_
    refine lv_iconst (v := 0) hx hb dX9_rules_13 (by decide) ?_
    refine lv_iconst (v := 0) hx hb dX9_rules_14 (by decide) ?_
    obtain ⟨r15, hc15, hok⟩ := k_bind hok
    refine kCi (wc := (wX9_rulesBy cy aM qM vM_1 vM_r)) (wc2 := (wX9_rulesBy cy aM qM vM_1 vM_r)) (wr := []) (ws2 := (wX9_rules cy aM qM vM_1 vM_r)) (kRunV (As := [.int 1, .int 0, .int 0]) (rest := []) ⟨hx, hb, hml, hown, ht0⟩ (kX9_rulesBy l D cy _ aM qM vM_1 vM_r (1 : Int32) (0 : Int32) (0 : Int32) r15 hc15 _ rfl) (cwV 3 ht0 (gV wd990 wd991 wd992 wd744 wd993) rfl rfl rfl (by decide +kernel) ⟨Nat.le_of_ble_eq_true rfl, Nat.le_of_ble_eq_true rfl⟩) hK hN hP hD [0, 1] rfl (by decide) 0 8 rfl rfl rfl hl.1 rfl (Nat.le_of_ble_eq_true rfl) dX9_rules_15 ⟨Nat.zero_le _, Nat.zero_le _⟩) hP hD hS hA [0, 1] [] rfl rfl (by decide) (by decide) [0, 1] (by decide) rfl rfl (fun H locs hP hD hS => ?_)
    refine lv_goto (tgt := 26) hx hb dX9_rules_18 (by decide) ?_
    exact J26 r15 vM_1 H locs ls hP hD hS (lv_sub hl [] rfl) hok
def wsX9_ruleAt : List Cond := .code yX9_ruleAt cX9_ruleAt 6 (some .int) :: W0
abbrev wX9_ruleAt (cy : Nat → ClassId) (aM : Nat) (qM : Nat → Nat) (vM : Nat → Int32) (vM_r : Nat → Int32) : va_W := [(aM, oX9 vM qM), (qM 15, rI cy 224 vM_r)]
set_option maxHeartbeats 4000000 in
set_option maxRecDepth 100000 in
theorem kX9_ruleAt (l : Launch) (D : va_G) (cy : Nat → ClassId) (sz : Nat) (aM : Nat) (qM : Nat → Nat) (vM : Nat → Int32) (vM_r : Nat → Int32) (x1 : Int32) (zr : Int32) (z_vM : Nat → Int32) (hok : fX9_ruleAt vM vM_r x1 = some (zr, z_vM)) (A : Nat → Prop) (hAe : va_A (wX9_ruleAt cy aM qM vM vM_r) sz = A) : Met l yX9_ruleAt wsX9_ruleAt ({ frames := 1, cells := 0, slots := 0, locals := 25 } : Room) (kPre D cy [.ref aM, .int x1] (wX9_ruleAt cy aM qM vM vM_r) sz) (kQi D cy zr A (wX9_ruleAt cy aM qM z_vM vM_r)) 0 0 A := by
  refine Met.ofW (cc := cX9_ruleAt) (maxL := 6) (ret := (some .int)) (by decide) rfl ?_
  intro p e s m args below meth c s₁ B hml hv
  obtain ⟨rfl, hsz, hP, hK, hD0, hN⟩ := hv
  have hx := B.exec
  have hb := B.bytes
  have hr := B.returns
  have ht0 : ∀ w ∈ W0, w.before _ s = true := fun w h => atoms_spec (ws := wsX9_ruleAt) B.pre w (List.mem_cons_of_mem _ h)
  have hown : s.vm.findClass RX9 = some m.cls := findClass_of_methodNamed B.named
  have hlocks := B.notSynchronized
  subst hsz
  have hD : va_D A (wX9_ruleAt cy aM qM vM vM_r) := by rw [← hAe]; exact hD0.self
  have hA : ∀ q : Nat, s.heap.size ≤ q → A q := fun q h => by rw [← hAe]; exact Or.inr h
  have hS : va_S A s.heap s.heap [] := va_S.rf
  have hl := lv_entry ([.ref aM, .int x1]) (n := 6) (Nat.le_of_ble_eq_true rfl)
  rw [lg_entry_eq]
  generalize (lg_sl ([.ref aM, .int x1]) ++ List.replicate (6 - (lg_sl ([.ref aM, .int x1])).length) Slot.unset).toArray = ls at hl ⊢
  have hl : lv_has ls 6 [(0, .ref aM), (1, .int x1)] := hl
  generalize hQe : MQ below (kQi D cy zr A (wX9_ruleAt cy aM qM z_vM vM_r)) ([.ref aM, .int x1] : List Value).toArray s 0 0 A = Q
  have L21 : ∀ (fuel : Nat) (y2_21 : Int32) (y3_21 : Int32) (vM_21 : Nat → Int32), ∀ (H : Heap) (locs : List Loc) (ls : Array Slot), va_P D vwCl (wX9_ruleAt cy aM qM vM_21 vM_r) H → va_D A (wX9_ruleAt cy aM qM vM_21 vM_r) → va_S A s.heap H locs → lv_has ls 6 [(0, .ref aM), (1, .int x1), (2, .int y2_21), (3, .int y3_21)] → lp (fX9_ruleAt_B21 vM_r x1) fuel (y2_21, y3_21, vM_21) = some (zr, z_vM) → W p l e ({ frames := 1, cells := 0, slots := 0, locals := 25 } : Room) s m ([.ref aM, .int x1] : List Value).toArray below meth c H locs 0 0 Q (F0 m 21 ls []) := by
    intro fuel
    induction fuel with
    | zero => intro y2_21 y3_21 vM_21 H locs ls hP hD hS hl hok; exact (lp_0 hok).elim
    | succ fuel ih21 =>
      intro y2_21 y3_21 vM_21 H locs ls hP hD hS hl hok
      obtain ⟨y21, hok, hL21, hR21⟩ := lp_step hok
      have L30 : ∀ (fuel : Nat) (y2_30 : Int32) (y4_30 : Int32), ∀ (H : Heap) (locs : List Loc) (ls : Array Slot), va_P D vwCl (wX9_ruleAt cy aM qM vM_21 vM_r) H → va_D A (wX9_ruleAt cy aM qM vM_21 vM_r) → va_S A s.heap H locs → lv_has ls 6 [(0, .ref aM), (1, .int x1), (2, .int y2_30), (3, .int y3_21), (4, .int y4_30)] → lp (fX9_ruleAt_B30 vM_r x1 y3_21 vM_21) fuel (y2_30, y4_30) = some y21 → W p l e ({ frames := 1, cells := 0, slots := 0, locals := 25 } : Room) s m ([.ref aM, .int x1] : List Value).toArray below meth c H locs 0 0 Q (F0 m 30 ls []) := by
        intro fuel
        induction fuel with
        | zero => intro y2_30 y4_30 H locs ls hP hD hS hl hok; exact (lp_0 hok).elim
        | succ fuel ih30 =>
          intro y2_30 y4_30 H locs ls hP hD hS hl hok
          obtain ⟨y30, hok, hL30, hR30⟩ := lp_step hok
          have L39 : ∀ (fuel : Nat) (y2_39 : Int32) (y5_39 : Int32), ∀ (H : Heap) (locs : List Loc) (ls : Array Slot), va_P D vwCl (wX9_ruleAt cy aM qM vM_21 vM_r) H → va_D A (wX9_ruleAt cy aM qM vM_21 vM_r) → va_S A s.heap H locs → lv_has ls 6 [(0, .ref aM), (1, .int x1), (2, .int y2_39), (3, .int y3_21), (4, .int y4_30), (5, .int y5_39)] → lp (fX9_ruleAt_B39 vM_r x1 y3_21 vM_21 y4_30) fuel (y2_39, y5_39) = some y30 → W p l e ({ frames := 1, cells := 0, slots := 0, locals := 25 } : Room) s m ([.ref aM, .int x1] : List Value).toArray below meth c H locs 0 0 Q (F0 m 39 ls []) := by
            intro fuel
            induction fuel with
            | zero => intro y2_39 y5_39 H locs ls hP hD hS hl hok; exact (lp_0 hok).elim
            | succ fuel ih39 =>
              intro y2_39 y5_39 H locs ls hP hD hS hl hok
              obtain ⟨y39, hok, hL39, hR39⟩ := lp_step hok
              have J83 : ∀ (y2_83 : Int32), ∀ (H : Heap) (locs : List Loc) (ls : Array Slot), va_P D vwCl (wX9_ruleAt cy aM qM vM_21 vM_r) H → va_D A (wX9_ruleAt cy aM qM vM_21 vM_r) → va_S A s.heap H locs → lv_has ls 6 [(0, .ref aM), (1, .int x1), (2, .int y2_83), (3, .int y3_21), (4, .int y4_30), (5, .int y5_39)] → fX9_ruleAt_J83 y5_39 y2_83 = some y39 → W p l e ({ frames := 1, cells := 0, slots := 0, locals := 25 } : Room) s m ([.ref aM, .int x1] : List Value).toArray below meth c H locs 0 0 Q (F0 m 83 ls []) := by
                intro y2_83 H locs ls hP hD hS hl hok
                unfold fX9_ruleAt_J83 at hok
                refine lv_iinc (v := (y5_39 + 1)) (lv' := [(5, .int (y5_39 + 1)), (0, .ref aM), (1, .int x1), (2, .int y2_83), (3, .int y3_21), (4, .int y4_30)]) hx hb dX9_ruleAt_83 hl (k := 5) rfl (by first | rfl | decide) (by decide) rfl (fun ls hl => ?_)
                refine lv_goto (tgt := 39) hx hb dX9_ruleAt_86 (by decide) ?_
                exact ih39 y2_83 (y5_39 + 1) H locs ls hP hD hS (lv_sub hl [1, 2, 3, 4, 5, 0] rfl) (hR39 _ (Option.some.inj hok).symm)
              unfold fX9_ruleAt_B39 at hok
              try dsimp only at hok
              refine lv_iload hx hb dX9_ruleAt_39 (lv_at hl 5 rfl) ?_
              refine lv_iload_n hx hb dX9_ruleAt_41 rfl (lv_at hl 3 rfl) ?_
              refine lv_icmp_ge (tgt := 89) hx hb dX9_ruleAt_42 (by decide) (fun c42 => ?_) (fun c42 => ?_)
              · have hok := k_pos c42 hok
                obtain ⟨e39, hok, he39⟩ := ex_some hok
                have hok := hok.trans (congrArg some (hL39 _ he39))
                refine lv_iinc (v := (y4_30 + 1)) (lv' := [(4, .int (y4_30 + 1)), (0, .ref aM), (1, .int x1), (2, .int y2_39), (3, .int y3_21), (5, .int y5_39)]) hx hb dX9_ruleAt_89 hl (k := 4) rfl (by first | rfl | decide) (by decide) rfl (fun ls hl => ?_)
                refine lv_goto (tgt := 30) hx hb dX9_ruleAt_92 (by decide) ?_
                exact ih30 y2_39 (y4_30 + 1) H locs ls hP hD hS (lv_sub hl [1, 2, 3, 4, 0] rfl) (hR30 _ (Option.some.inj hok).symm)
              · have hok := k_neg c42 hok
                refine lv_aload_n hx hb dX9_ruleAt_45 rfl (lv_at hl 0 rfl) ?_
                refine lv_iload_n hx hb dX9_ruleAt_46 rfl (lv_at hl 3 rfl) ?_
                refine lv_iload hx hb dX9_ruleAt_47 (lv_at hl 4 rfl) ?_
                refine lv_iload hx hb dX9_ruleAt_49 (lv_at hl 5 rfl) ?_
                obtain ⟨r51, hc51, hok⟩ := k_bind hok
                refine kCi (wc := (wX9_isRule cy aM qM vM_21 vM_r)) (wc2 := (wX9_isRule cy aM qM vM_21 vM_r)) (wr := []) (ws2 := (wX9_ruleAt cy aM qM vM_21 vM_r)) (kRunV (As := [.int y3_21, .int y4_30, .int y5_39]) (rest := []) ⟨hx, hb, hml, hown, ht0⟩ (kX9_isRule l D cy _ aM qM vM_21 vM_r y3_21 y4_30 y5_39 r51 hc51 _ rfl) (cwV 3 ht0 (gV wd986 wd987 wd988 wd744 wd989) rfl rfl rfl (by decide +kernel) ⟨Nat.le_of_ble_eq_true rfl, Nat.le_of_ble_eq_true rfl⟩) hK hN hP hD [0, 1] rfl (by decide) 0 8 rfl rfl rfl hl.1 rfl (Nat.le_of_ble_eq_true rfl) dX9_ruleAt_51 ⟨Nat.zero_le _, Nat.zero_le _⟩) hP hD hS hA [0, 1] [] rfl rfl (by decide) (by decide) [0, 1] (by decide) rfl rfl (fun H locs hP hD hS => ?_)
                refine lv_if_ne (tgt := 60) hx hb dX9_ruleAt_54 (by decide) (fun c54 => ?_) (fun c54 => ?_)
                · have hok := k_neg c54 hok
                  refine lv_iload_n hx hb dX9_ruleAt_60 rfl (lv_at hl 2 rfl) ?_
                  refine lv_iload_n hx hb dX9_ruleAt_61 rfl (lv_at hl 1 rfl) ?_
                  refine lv_icmp_ne (tgt := 80) hx hb dX9_ruleAt_62 (by decide) (fun c62 => ?_) (fun c62 => ?_)
                  · have hok := k_neg c62 hok
                    refine lv_iinc (v := (y2_39 + 1)) (lv' := [(2, .int (y2_39 + 1)), (0, .ref aM), (1, .int x1), (3, .int y3_21), (4, .int y4_30), (5, .int y5_39)]) hx hb dX9_ruleAt_80 hl (k := 2) rfl (by first | rfl | decide) (by decide) rfl (fun ls hl => ?_)
                    exact J83 (y2_39 + 1) H locs ls hP hD hS (lv_sub hl [1, 2, 0, 3, 4, 5] rfl) hok
                  · have hok := k_pos c62 hok
                    obtain ⟨e39, hok, he39⟩ := ex_some hok
                    have hok := hok.trans (congrArg some (hL39 _ he39))
                    obtain ⟨e30, hok, he30⟩ := ex_some hok
                    have hok := hok.trans (congrArg some (hL30 _ he30))
                    obtain ⟨e21, hok, he21⟩ := ex_some hok
                    have hok := hok.trans (congrArg some (hL21 _ he21))
                    refine lv_sipush (v := 10000) hx hb dX9_ruleAt_65 (by decide) ?_
                    refine lv_iload_n hx hb dX9_ruleAt_68 rfl (lv_at hl 3 rfl) ?_
                    refine lv_imul hx hb dX9_ruleAt_69 ?_
                    refine lv_bipush (v := 100) hx hb dX9_ruleAt_70 (by decide) ?_
                    refine lv_iload hx hb dX9_ruleAt_72 (lv_at hl 4 rfl) ?_
                    refine lv_imul hx hb dX9_ruleAt_74 ?_
                    refine lv_iadd hx hb dX9_ruleAt_75 ?_
                    refine lv_iload hx hb dX9_ruleAt_76 (lv_at hl 5 rfl) ?_
                    refine lv_iadd hx hb dX9_ruleAt_78 ?_
                    cases hok
                    subst hQe; exact W.iret hx hb hr (fun t ht hW => ⟨⟨_, (), rfl, rfl, by rw [ht]; exact hP, va_K.moved hW.alike hK, hD⟩, hS.F ht⟩) hS.2.2 dX9_ruleAt_79
                · have hok := k_pos c54 hok
                  refine lv_goto (tgt := 83) hx hb dX9_ruleAt_57 (by decide) ?_
                  exact J83 y2_39 H locs ls hP hD hS (lv_sub hl [0, 1, 2, 3, 4, 5] rfl) hok
          unfold fX9_ruleAt_B30 at hok
          try dsimp only at hok
          refine lv_iload hx hb dX9_ruleAt_30 (lv_at hl 4 rfl) ?_
          refine lv_iload_n hx hb dX9_ruleAt_32 rfl (lv_at hl 3 rfl) ?_
          refine lv_icmp_ge (tgt := 95) hx hb dX9_ruleAt_33 (by decide) (fun c33 => ?_) (fun c33 => ?_)
          · have hok := k_pos c33 hok
            obtain ⟨e30, hok, he30⟩ := ex_some hok
            have hok := hok.trans (congrArg some (hL30 _ he30))
            refine lv_iinc (v := (y3_21 + 1)) (lv' := [(3, .int (y3_21 + 1)), (0, .ref aM), (1, .int x1), (2, .int y2_30), (4, .int y4_30)]) hx hb dX9_ruleAt_95 hl (k := 3) rfl (by first | rfl | decide) (by decide) rfl (fun ls hl => ?_)
            refine lv_goto (tgt := 21) hx hb dX9_ruleAt_98 (by decide) ?_
            exact ih21 y2_30 (y3_21 + 1) vM_21 H locs ls hP hD hS (lv_sub hl [1, 2, 3, 0] rfl) (hR21 _ (Option.some.inj hok).symm)
          · have hok := k_neg c33 hok
            refine lv_iconst (v := 0) hx hb dX9_ruleAt_36 (by decide) ?_
            refine lv_istore (lv' := [(5, .int 0), (0, .ref aM), (1, .int x1), (2, .int y2_30), (3, .int y3_21), (4, .int y4_30)]) hx hb dX9_ruleAt_37 hl (by decide) rfl (fun ls hl => ?_)
            exact L39 5000 y2_30 (0 : Int32) H locs ls hP hD hS (lv_sub hl [1, 2, 3, 4, 5, 0] rfl) hok
      unfold fX9_ruleAt_B21 at hok
      try dsimp only at hok
      refine lv_iload_n hx hb dX9_ruleAt_21 rfl (lv_at hl 3 rfl) ?_
      refine lv_bipush (v := 12) hx hb dX9_ruleAt_22 (by decide) ?_
      refine lv_icmp_gt (tgt := 101) hx hb dX9_ruleAt_24 (by decide) (fun c24 => ?_) (fun c24 => ?_)
      · have hok := k_pos c24 hok
        obtain ⟨e21, hok, he21⟩ := ex_some hok
        have hok := hok.trans (congrArg some (hL21 _ he21))
        refine lv_aload_n hx hb dX9_ruleAt_101 rfl (lv_at hl 0 rfl) ?_
        refine lv_iconst (v := 1) hx hb dX9_ruleAt_102 (by decide) ?_
        obtain ⟨⟨r103, vM_103⟩, hc103, hok⟩ := k_bind hok
        try dsimp only at hok
        refine kCi (wc := (wX9_no cy aM qM vM_21)) (wc2 := (wX9_no cy aM qM vM_103)) (wr := [(qM 15, rI cy 224 vM_r)]) (ws2 := (wX9_ruleAt cy aM qM vM_103 vM_r)) (kRunV (As := [.int 1]) (rest := []) ⟨hx, hb, hml, hown, ht0⟩ (kX9_no l D cy _ aM qM vM_21 (1 : Int32) r103 vM_103 hc103 _ rfl) (cwV 1 ht0 (gV wd862 wd863 wd864 wd744 wd865) rfl rfl rfl (by decide +kernel) ⟨Nat.le_of_ble_eq_true rfl, Nat.le_of_ble_eq_true rfl⟩) hK hN hP hD [0] rfl (by decide) 0 8 rfl rfl rfl hl.1 rfl (Nat.le_of_ble_eq_true rfl) dX9_ruleAt_103 ⟨Nat.zero_le _, Nat.zero_le _⟩) hP hD hS hA [0] [1] rfl rfl (by decide) (by decide) [1, 0] (by decide) rfl rfl (fun H locs hP hD hS => ?_)
        cases hok
        subst hQe; exact W.iret hx hb hr (fun t ht hW => ⟨⟨_, (), rfl, rfl, by rw [ht]; exact hP, va_K.moved hW.alike hK, hD⟩, hS.F ht⟩) hS.2.2 dX9_ruleAt_106
      · have hok := k_neg c24 hok
        refine lv_iconst (v := 1) hx hb dX9_ruleAt_27 (by decide) ?_
        refine lv_istore (lv' := [(4, .int 1), (0, .ref aM), (1, .int x1), (2, .int y2_21), (3, .int y3_21)]) hx hb dX9_ruleAt_28 hl (by decide) rfl (fun ls hl => ?_)
        exact L30 5000 y2_21 (1 : Int32) H locs ls hP hD hS (lv_sub hl [1, 2, 3, 4, 0] rfl) hok
  unfold fX9_ruleAt at hok
  obtain ⟨H, hH⟩ : ∃ H, H = s.heap := ⟨_, rfl⟩
  obtain ⟨locs, hlc⟩ : ∃ x : List Loc, x = [] := ⟨_, rfl⟩
  have hP : va_P D vwCl (wX9_ruleAt cy aM qM vM vM_r) H := by rw [hH]; exact hP
  have hS : va_S A s.heap H locs := by rw [hH, hlc]; exact hS
  rw [show W p l e _ s m _ below meth c s.heap [] = W p l e _ s m _ below meth c H locs from by rw [hH, hlc]]
  refine lv_aload_n hx hb dX9_ruleAt_0 rfl (lv_at hl 0 rfl) ?_
  obtain ⟨vM_1, hc1, hok⟩ := k_bind hok
  refine kCv (wc := (wX9_good cy aM qM vM)) (wc2 := (wX9_good cy aM qM vM_1)) (wr := [(qM 15, rI cy 224 vM_r)]) (ws2 := (wX9_ruleAt cy aM qM vM_1 vM_r)) (kRunV (As := []) (rest := []) ⟨hx, hb, hml, hown, ht0⟩ (kX9_good l D cy _ aM qM vM vM_1 hc1 _ rfl) (cwV 0 ht0 (gV wd870 wd871 wd872 wd744 wd873) rfl rfl rfl (by decide +kernel) ⟨Nat.le_of_ble_eq_true rfl, Nat.le_of_ble_eq_true rfl⟩) hK hN hP hD [0] rfl (by decide) 0 8 rfl rfl rfl hl.1 rfl (Nat.le_of_ble_eq_true rfl) dX9_ruleAt_1 ⟨Nat.zero_le _, Nat.zero_le _⟩) hP hD hS hA [0] [1] rfl rfl (by decide) (by decide) [1, 0] (by decide) rfl rfl (fun H locs hP hD hS => ?_)
  refine lv_aload_n hx hb dX9_ruleAt_4 rfl (lv_at hl 0 rfl) ?_
  refine va_get (D := D) (ci := 8) (v := .int (vM_1 14)) (C := RX9) (T := TX9) (N := 29) hx hb ht0 niX9 hown hK hP 0 rfl rfl 14 (by decide) (ht0 _ wd855) (fun _ h9 => h9) rfl dX9_ruleAt_5 ?_
  refine lv_if_ne (tgt := 17) hx hb dX9_ruleAt_8 (by decide) (fun c8 => ?_) (fun c8 => ?_)
  · have hok := k_neg c8 hok
    refine lv_iconst (v := 0) hx hb dX9_ruleAt_17 (by decide) ?_
    refine lv_istore_n (lv' := [(2, .int 0), (0, .ref aM), (1, .int x1)]) hx hb dX9_ruleAt_18 rfl hl (by decide) rfl (fun ls hl => ?_)
    refine lv_iconst (v := 2) hx hb dX9_ruleAt_19 (by decide) ?_
    refine lv_istore_n (lv' := [(3, .int 2), (2, .int 0), (0, .ref aM), (1, .int x1)]) hx hb dX9_ruleAt_20 rfl hl (by decide) rfl (fun ls hl => ?_)
    exact L21 5000 (0 : Int32) (2 : Int32) vM_1 H locs ls hP hD hS (lv_sub hl [2, 3, 1, 0] rfl) hok
  · have hok := k_pos c8 hok
    refine lv_aload_n hx hb dX9_ruleAt_11 rfl (lv_at hl 0 rfl) ?_
    refine lv_iconst (v := 1) hx hb dX9_ruleAt_12 (by decide) ?_
    obtain ⟨⟨r13, vM_13⟩, hc13, hok⟩ := k_bind hok
    try dsimp only at hok
    refine kCi (wc := (wX9_no cy aM qM vM_1)) (wc2 := (wX9_no cy aM qM vM_13)) (wr := [(qM 15, rI cy 224 vM_r)]) (ws2 := (wX9_ruleAt cy aM qM vM_13 vM_r)) (kRunV (As := [.int 1]) (rest := []) ⟨hx, hb, hml, hown, ht0⟩ (kX9_no l D cy _ aM qM vM_1 (1 : Int32) r13 vM_13 hc13 _ rfl) (cwV 1 ht0 (gV wd862 wd863 wd864 wd744 wd865) rfl rfl rfl (by decide +kernel) ⟨Nat.le_of_ble_eq_true rfl, Nat.le_of_ble_eq_true rfl⟩) hK hN hP hD [0] rfl (by decide) 0 8 rfl rfl rfl hl.1 rfl (Nat.le_of_ble_eq_true rfl) dX9_ruleAt_13 ⟨Nat.zero_le _, Nat.zero_le _⟩) hP hD hS hA [0] [1] rfl rfl (by decide) (by decide) [1, 0] (by decide) rfl rfl (fun H locs hP hD hS => ?_)
    cases hok
    subst hQe; exact W.iret hx hb hr (fun t ht hW => ⟨⟨_, (), rfl, rfl, by rw [ht]; exact hP, va_K.moved hW.alike hK, hD⟩, hS.F ht⟩) hS.2.2 dX9_ruleAt_16
def wsX9_there : List Cond := .code yX9_there cX9_there 3 (some .int) :: W0
abbrev wX9_there (cy : Nat → ClassId) (aM : Nat) (qM : Nat → Nat) (vM : Nat → Int32) (vM_r : Nat → Int32) : va_W := [(aM, oX9 vM qM), (qM 15, rI cy 224 vM_r)]
set_option maxHeartbeats 4000000 in
set_option maxRecDepth 100000 in
theorem kX9_there (l : Launch) (D : va_G) (cy : Nat → ClassId) (sz : Nat) (aM : Nat) (qM : Nat → Nat) (vM : Nat → Int32) (vM_r : Nat → Int32) (x1 : Int32) (x2 : Int32) (zr : Int32) (z_vM : Nat → Int32) (hok : fX9_there vM vM_r x1 x2 = some (zr, z_vM)) (A : Nat → Prop) (hAe : va_A (wX9_there cy aM qM vM vM_r) sz = A) : Met l yX9_there wsX9_there ({ frames := 2, cells := 0, slots := 0, locals := 52 } : Room) (kPre D cy [.ref aM, .int x1, .int x2] (wX9_there cy aM qM vM vM_r) sz) (kQi D cy zr A (wX9_there cy aM qM z_vM vM_r)) 0 0 A := by
  refine Met.ofW (cc := cX9_there) (maxL := 3) (ret := (some .int)) (by decide) rfl ?_
  intro p e s m args below meth c s₁ B hml hv
  obtain ⟨rfl, hsz, hP, hK, hD0, hN⟩ := hv
  have hx := B.exec
  have hb := B.bytes
  have hr := B.returns
  have ht0 : ∀ w ∈ W0, w.before _ s = true := fun w h => atoms_spec (ws := wsX9_there) B.pre w (List.mem_cons_of_mem _ h)
  have hown : s.vm.findClass RX9 = some m.cls := findClass_of_methodNamed B.named
  have hlocks := B.notSynchronized
  subst hsz
  have hD : va_D A (wX9_there cy aM qM vM vM_r) := by rw [← hAe]; exact hD0.self
  have hA : ∀ q : Nat, s.heap.size ≤ q → A q := fun q h => by rw [← hAe]; exact Or.inr h
  have hS : va_S A s.heap s.heap [] := va_S.rf
  have hl := lv_entry ([.ref aM, .int x1, .int x2]) (n := 3) (Nat.le_of_ble_eq_true rfl)
  rw [lg_entry_eq]
  generalize (lg_sl ([.ref aM, .int x1, .int x2]) ++ List.replicate (3 - (lg_sl ([.ref aM, .int x1, .int x2])).length) Slot.unset).toArray = ls at hl ⊢
  have hl : lv_has ls 3 [(0, .ref aM), (1, .int x1), (2, .int x2)] := hl
  generalize hQe : MQ below (kQi D cy zr A (wX9_there cy aM qM z_vM vM_r)) ([.ref aM, .int x1, .int x2] : List Value).toArray s 0 0 A = Q
  have J52 : ∀ (t0_52 : Int32) (vM_52 : Nat → Int32), ∀ (H : Heap) (locs : List Loc) (ls : Array Slot), va_P D vwCl (wX9_there cy aM qM vM_52 vM_r) H → va_D A (wX9_there cy aM qM vM_52 vM_r) → va_S A s.heap H locs → lv_has ls 3 [] → fX9_there_J52 t0_52 vM_52 = some (zr, z_vM) → W p l e ({ frames := 2, cells := 0, slots := 0, locals := 52 } : Room) s m ([.ref aM, .int x1, .int x2] : List Value).toArray below meth c H locs 0 0 Q (F0 m 52 ls [.int t0_52]) := by
    intro t0_52 vM_52 H locs ls hP hD hS hl hok
    unfold fX9_there_J52 at hok
    cases hok
    subst hQe; exact W.iret hx hb hr (fun t ht hW => ⟨⟨_, (), rfl, rfl, by rw [ht]; exact hP, va_K.moved hW.alike hK, hD⟩, hS.F ht⟩) hS.2.2 dX9_there_52
  have J47 : ∀ (vM_47 : Nat → Int32), ∀ (H : Heap) (locs : List Loc) (ls : Array Slot), va_P D vwCl (wX9_there cy aM qM vM_47 vM_r) H → va_D A (wX9_there cy aM qM vM_47 vM_r) → va_S A s.heap H locs → lv_has ls 3 [(0, .ref aM)] → fX9_there_J47 vM_47 = some (zr, z_vM) → W p l e ({ frames := 2, cells := 0, slots := 0, locals := 52 } : Room) s m ([.ref aM, .int x1, .int x2] : List Value).toArray below meth c H locs 0 0 Q (F0 m 47 ls []) := by
    intro vM_47 H locs ls hP hD hS hl hok
    unfold fX9_there_J47 at hok
    refine lv_aload_n hx hb dX9_there_47 rfl (lv_at hl 0 rfl) ?_
    refine lv_iconst (v := 2) hx hb dX9_there_48 (by decide) ?_
    obtain ⟨⟨r49, vM_49⟩, hc49, hok⟩ := k_bind hok
    try dsimp only at hok
    refine kCi (wc := (wX9_no cy aM qM vM_47)) (wc2 := (wX9_no cy aM qM vM_49)) (wr := [(qM 15, rI cy 224 vM_r)]) (ws2 := (wX9_there cy aM qM vM_49 vM_r)) (kRunV (As := [.int 2]) (rest := []) ⟨hx, hb, hml, hown, ht0⟩ (kX9_no l D cy _ aM qM vM_47 (2 : Int32) r49 vM_49 hc49 _ rfl) (cwV 1 ht0 (gV wd862 wd863 wd864 wd744 wd865) rfl rfl rfl (by decide +kernel) ⟨Nat.le_of_ble_eq_true rfl, Nat.le_of_ble_eq_true rfl⟩) hK hN hP hD [0] rfl (by decide) 0 8 rfl rfl rfl hl.1 rfl (Nat.le_of_ble_eq_true rfl) dX9_there_49 ⟨Nat.zero_le _, Nat.zero_le _⟩) hP hD hS hA [0] [1] rfl rfl (by decide) (by decide) [1, 0] (by decide) rfl rfl (fun H locs hP hD hS => ?_)
    exact J52 r49 vM_49 H locs ls hP hD hS (lv_sub hl [] rfl) hok
  unfold fX9_there at hok
  obtain ⟨H, hH⟩ : ∃ H, H = s.heap := ⟨_, rfl⟩
  obtain ⟨locs, hlc⟩ : ∃ x : List Loc, x = [] := ⟨_, rfl⟩
  have hP : va_P D vwCl (wX9_there cy aM qM vM vM_r) H := by rw [hH]; exact hP
  have hS : va_S A s.heap H locs := by rw [hH, hlc]; exact hS
  rw [show W p l e _ s m _ below meth c s.heap [] = W p l e _ s m _ below meth c H locs from by rw [hH, hlc]]
  refine lv_aload_n hx hb dX9_there_0 rfl (lv_at hl 0 rfl) ?_
  obtain ⟨vM_1, hc1, hok⟩ := k_bind hok
  refine kCv (wc := (wX9_good cy aM qM vM)) (wc2 := (wX9_good cy aM qM vM_1)) (wr := [(qM 15, rI cy 224 vM_r)]) (ws2 := (wX9_there cy aM qM vM_1 vM_r)) (kRunV (As := []) (rest := []) ⟨hx, hb, hml, hown, ht0⟩ (kX9_good l D cy _ aM qM vM vM_1 hc1 _ rfl) (cwV 0 ht0 (gV wd870 wd871 wd872 wd744 wd873) rfl rfl rfl (by decide +kernel) ⟨Nat.le_of_ble_eq_true rfl, Nat.le_of_ble_eq_true rfl⟩) hK hN hP hD [0] rfl (by decide) 0 8 rfl rfl rfl hl.1 rfl (Nat.le_of_ble_eq_true rfl) dX9_there_1 ⟨Nat.zero_le _, Nat.zero_le _⟩) hP hD hS hA [0] [1] rfl rfl (by decide) (by decide) [1, 0] (by decide) rfl rfl (fun H locs hP hD hS => ?_)
  refine lv_aload_n hx hb dX9_there_4 rfl (lv_at hl 0 rfl) ?_
  refine va_get (D := D) (ci := 8) (v := .int (vM_1 14)) (C := RX9) (T := TX9) (N := 29) hx hb ht0 niX9 hown hK hP 0 rfl rfl 14 (by decide) (ht0 _ wd855) (fun _ h9 => h9) rfl dX9_there_5 ?_
  refine lv_if_ne (tgt := 17) hx hb dX9_there_8 (by decide) (fun c8 => ?_) (fun c8 => ?_)
  · have hok := k_neg c8 hok
    refine lv_iload_n hx hb dX9_there_17 rfl (lv_at hl 1 rfl) ?_
    refine lv_iconst (v := 0) hx hb dX9_there_18 (by decide) ?_
    refine lv_bipush (v := 99) hx hb dX9_there_19 (by decide) ?_
    obtain ⟨r21, hc21, hok⟩ := k_bind hok
    refine kCi (wc := (wX9_in cy )) (wc2 := (wX9_in cy )) (wr := [(aM, oX9 vM_1 qM), (qM 15, rI cy 224 vM_r)]) (ws2 := (wX9_there cy aM qM vM_1 vM_r)) (kRunS (As := [.int x1, .int 0, .int 99]) (rest := []) ⟨hx, hb, hml, hown, ht0⟩ (kX9_in l D cy _ x1 (0 : Int32) (99 : Int32) r21 hc21 _ rfl) (va_cwS 3 ht0 (gS wd787 wd788 wd744 wd789) rfl rfl rfl (by decide +kernel) ⟨Nat.le_of_ble_eq_true rfl, Nat.le_of_ble_eq_true rfl⟩) hK hN hP hD [] rfl (by decide) rfl hl.1 rfl (Nat.le_of_ble_eq_true rfl) dX9_there_21 ⟨Nat.zero_le _, Nat.zero_le _⟩) hP hD hS hA [] [0, 1] rfl rfl (by decide) (by decide) [0, 1] (by decide) rfl rfl (fun H locs hP hD hS => ?_)
    refine lv_if_eq (tgt := 47) hx hb dX9_there_24 (by decide) (fun c24 => ?_) (fun c24 => ?_)
    · have hok := k_pos c24 hok
      exact J47 vM_1 H locs ls hP hD hS (lv_sub hl [0] rfl) hok
    · have hok := k_neg c24 hok
      refine lv_iload_n hx hb dX9_there_27 rfl (lv_at hl 2 rfl) ?_
      refine lv_iconst (v := 0) hx hb dX9_there_28 (by decide) ?_
      refine lv_bipush (v := 11) hx hb dX9_there_29 (by decide) ?_
      obtain ⟨r31, hc31, hok⟩ := k_bind hok
      refine kCi (wc := (wX9_in cy )) (wc2 := (wX9_in cy )) (wr := [(aM, oX9 vM_1 qM), (qM 15, rI cy 224 vM_r)]) (ws2 := (wX9_there cy aM qM vM_1 vM_r)) (kRunS (As := [.int x2, .int 0, .int 11]) (rest := []) ⟨hx, hb, hml, hown, ht0⟩ (kX9_in l D cy _ x2 (0 : Int32) (11 : Int32) r31 hc31 _ rfl) (va_cwS 3 ht0 (gS wd787 wd788 wd744 wd789) rfl rfl rfl (by decide +kernel) ⟨Nat.le_of_ble_eq_true rfl, Nat.le_of_ble_eq_true rfl⟩) hK hN hP hD [] rfl (by decide) rfl hl.1 rfl (Nat.le_of_ble_eq_true rfl) dX9_there_31 ⟨Nat.zero_le _, Nat.zero_le _⟩) hP hD hS hA [] [0, 1] rfl rfl (by decide) (by decide) [0, 1] (by decide) rfl rfl (fun H locs hP hD hS => ?_)
      refine lv_if_eq (tgt := 47) hx hb dX9_there_34 (by decide) (fun c34 => ?_) (fun c34 => ?_)
      · have hok := k_pos c34 hok
        exact J47 vM_1 H locs ls hP hD hS (lv_sub hl [0] rfl) hok
      · have hok := k_neg c34 hok
        refine lv_aload_n hx hb dX9_there_37 rfl (lv_at hl 0 rfl) ?_
        refine lv_iconst (v := 0) hx hb dX9_there_38 (by decide) ?_
        refine lv_iload_n hx hb dX9_there_39 rfl (lv_at hl 1 rfl) ?_
        refine lv_iload_n hx hb dX9_there_40 rfl (lv_at hl 2 rfl) ?_
        obtain ⟨r41, hc41, hok⟩ := k_bind hok
        refine kCi (wc := (wX9_rulesBy cy aM qM vM_1 vM_r)) (wc2 := (wX9_rulesBy cy aM qM vM_1 vM_r)) (wr := []) (ws2 := (wX9_there cy aM qM vM_1 vM_r)) (kRunV (As := [.int 0, .int x1, .int x2]) (rest := []) ⟨hx, hb, hml, hown, ht0⟩ (kX9_rulesBy l D cy _ aM qM vM_1 vM_r (0 : Int32) x1 x2 r41 hc41 _ rfl) (cwV 3 ht0 (gV wd990 wd991 wd992 wd744 wd993) rfl rfl rfl (by decide +kernel) ⟨Nat.le_of_ble_eq_true rfl, Nat.le_of_ble_eq_true rfl⟩) hK hN hP hD [0, 1] rfl (by decide) 0 8 rfl rfl rfl hl.1 rfl (Nat.le_of_ble_eq_true rfl) dX9_there_41 ⟨Nat.zero_le _, Nat.zero_le _⟩) hP hD hS hA [0, 1] [] rfl rfl (by decide) (by decide) [0, 1] (by decide) rfl rfl (fun H locs hP hD hS => ?_)
        refine lv_goto (tgt := 52) hx hb dX9_there_44 (by decide) ?_
        exact J52 r41 vM_1 H locs ls hP hD hS (lv_sub hl [] rfl) hok
  · have hok := k_pos c8 hok
    refine lv_aload_n hx hb dX9_there_11 rfl (lv_at hl 0 rfl) ?_
    refine lv_iconst (v := 1) hx hb dX9_there_12 (by decide) ?_
    obtain ⟨⟨r13, vM_13⟩, hc13, hok⟩ := k_bind hok
    try dsimp only at hok
    refine kCi (wc := (wX9_no cy aM qM vM_1)) (wc2 := (wX9_no cy aM qM vM_13)) (wr := [(qM 15, rI cy 224 vM_r)]) (ws2 := (wX9_there cy aM qM vM_13 vM_r)) (kRunV (As := [.int 1]) (rest := []) ⟨hx, hb, hml, hown, ht0⟩ (kX9_no l D cy _ aM qM vM_1 (1 : Int32) r13 vM_13 hc13 _ rfl) (cwV 1 ht0 (gV wd862 wd863 wd864 wd744 wd865) rfl rfl rfl (by decide +kernel) ⟨Nat.le_of_ble_eq_true rfl, Nat.le_of_ble_eq_true rfl⟩) hK hN hP hD [0] rfl (by decide) 0 8 rfl rfl rfl hl.1 rfl (Nat.le_of_ble_eq_true rfl) dX9_there_13 ⟨Nat.zero_le _, Nat.zero_le _⟩) hP hD hS hA [0] [1] rfl rfl (by decide) (by decide) [1, 0] (by decide) rfl rfl (fun H locs hP hD hS => ?_)
    cases hok
    subst hQe; exact W.iret hx hb hr (fun t ht hW => ⟨⟨_, (), rfl, rfl, by rw [ht]; exact hP, va_K.moved hW.alike hK, hD⟩, hS.F ht⟩) hS.2.2 dX9_there_16
def wsX9_surely : List Cond := .code yX9_surely cX9_surely 4 (some .int) :: W0
abbrev wX9_surely (cy : Nat → ClassId) (aM : Nat) (qM : Nat → Nat) (vM : Nat → Int32) (vM_r : Nat → Int32) : va_W := [(aM, oX9 vM qM), (qM 15, rI cy 224 vM_r)]
set_option maxHeartbeats 4000000 in
set_option maxRecDepth 100000 in
theorem kX9_surely (l : Launch) (D : va_G) (cy : Nat → ClassId) (sz : Nat) (aM : Nat) (qM : Nat → Nat) (vM : Nat → Int32) (vM_r : Nat → Int32) (x1 : Int32) (zr : Int32) (z_vM : Nat → Int32) (hok : fX9_surely vM vM_r x1 = some (zr, z_vM)) (A : Nat → Prop) (hAe : va_A (wX9_surely cy aM qM vM vM_r) sz = A) : Met l yX9_surely wsX9_surely ({ frames := 2, cells := 0, slots := 0, locals := 52 } : Room) (kPre D cy [.ref aM, .int x1] (wX9_surely cy aM qM vM vM_r) sz) (kQi D cy zr A (wX9_surely cy aM qM z_vM vM_r)) 0 0 A := by
  refine Met.ofW (cc := cX9_surely) (maxL := 4) (ret := (some .int)) (by decide) rfl ?_
  intro p e s m args below meth c s₁ B hml hv
  obtain ⟨rfl, hsz, hP, hK, hD0, hN⟩ := hv
  have hx := B.exec
  have hb := B.bytes
  have hr := B.returns
  have ht0 : ∀ w ∈ W0, w.before _ s = true := fun w h => atoms_spec (ws := wsX9_surely) B.pre w (List.mem_cons_of_mem _ h)
  have hown : s.vm.findClass RX9 = some m.cls := findClass_of_methodNamed B.named
  have hlocks := B.notSynchronized
  subst hsz
  have hD : va_D A (wX9_surely cy aM qM vM vM_r) := by rw [← hAe]; exact hD0.self
  have hA : ∀ q : Nat, s.heap.size ≤ q → A q := fun q h => by rw [← hAe]; exact Or.inr h
  have hS : va_S A s.heap s.heap [] := va_S.rf
  have hl := lv_entry ([.ref aM, .int x1]) (n := 4) (Nat.le_of_ble_eq_true rfl)
  rw [lg_entry_eq]
  generalize (lg_sl ([.ref aM, .int x1]) ++ List.replicate (4 - (lg_sl ([.ref aM, .int x1])).length) Slot.unset).toArray = ls at hl ⊢
  have hl : lv_has ls 4 [(0, .ref aM), (1, .int x1)] := hl
  generalize hQe : MQ below (kQi D cy zr A (wX9_surely cy aM qM z_vM vM_r)) ([.ref aM, .int x1] : List Value).toArray s 0 0 A = Q
  have L43 : ∀ (fuel : Nat) (y2_43 : Int32) (y3_43 : Int32) (vM_43 : Nat → Int32), ∀ (H : Heap) (locs : List Loc) (ls : Array Slot), va_P D vwCl (wX9_surely cy aM qM vM_43 vM_r) H → va_D A (wX9_surely cy aM qM vM_43 vM_r) → va_S A s.heap H locs → lv_has ls 4 [(0, .ref aM), (2, .int y2_43), (3, .int y3_43)] → lp (fX9_surely_B43 vM_r) fuel (y2_43, y3_43, vM_43) = some (zr, z_vM) → W p l e ({ frames := 2, cells := 0, slots := 0, locals := 52 } : Room) s m ([.ref aM, .int x1] : List Value).toArray below meth c H locs 0 0 Q (F0 m 43 ls []) := by
    intro fuel
    induction fuel with
    | zero => intro y2_43 y3_43 vM_43 H locs ls hP hD hS hl hok; exact (lp_0 hok).elim
    | succ fuel ih43 =>
      intro y2_43 y3_43 vM_43 H locs ls hP hD hS hl hok
      obtain ⟨y43, hok, hL43, hR43⟩ := lp_step hok
      have J66 : ∀ (H : Heap) (locs : List Loc) (ls : Array Slot), va_P D vwCl (wX9_surely cy aM qM vM_43 vM_r) H → va_D A (wX9_surely cy aM qM vM_43 vM_r) → va_S A s.heap H locs → lv_has ls 4 [(0, .ref aM), (2, .int y2_43), (3, .int y3_43)] → fX9_surely_J66 y2_43 y3_43 vM_43 = some y43 → W p l e ({ frames := 2, cells := 0, slots := 0, locals := 52 } : Room) s m ([.ref aM, .int x1] : List Value).toArray below meth c H locs 0 0 Q (F0 m 66 ls []) := by
        intro  H locs ls hP hD hS hl hok
        unfold fX9_surely_J66 at hok
        refine lv_iinc (v := (y3_43 + 1)) (lv' := [(3, .int (y3_43 + 1)), (0, .ref aM), (2, .int y2_43)]) hx hb dX9_surely_66 hl (k := 2) rfl (by first | rfl | decide) (by decide) rfl (fun ls hl => ?_)
        refine lv_goto (tgt := 43) hx hb dX9_surely_69 (by decide) ?_
        exact ih43 y2_43 (y3_43 + 1) vM_43 H locs ls hP hD hS (lv_sub hl [1, 2, 0] rfl) (hR43 _ (Option.some.inj hok).symm)
      unfold fX9_surely_B43 at hok
      try dsimp only at hok
      refine lv_iload_n hx hb dX9_surely_43 rfl (lv_at hl 2 rfl) ?_
      refine lv_bipush (v := 100) hx hb dX9_surely_44 (by decide) ?_
      refine lv_icmp_ge (tgt := 72) hx hb dX9_surely_46 (by decide) (fun c46 => ?_) (fun c46 => ?_)
      · have hok := k_pos c46 hok
        obtain ⟨e43, hok, he43⟩ := ex_some hok
        have hok := hok.trans (congrArg some (hL43 _ he43))
        refine lv_bipush (v := -2) hx hb dX9_surely_72 (by decide) ?_
        cases hok
        subst hQe; exact W.iret hx hb hr (fun t ht hW => ⟨⟨_, (), rfl, rfl, by rw [ht]; exact hP, va_K.moved hW.alike hK, hD⟩, hS.F ht⟩) hS.2.2 dX9_surely_74
      · have hok := k_neg c46 hok
        refine lv_iload_n hx hb dX9_surely_49 rfl (lv_at hl 1 rfl) ?_
        refine lv_if_le (tgt := 66) hx hb dX9_surely_50 (by decide) (fun c50 => ?_) (fun c50 => ?_)
        · have hok := k_pos c50 hok
          exact J66  H locs ls hP hD hS (lv_sub hl [0, 1, 2] rfl) hok
        · have hok := k_neg c50 hok
          refine lv_aload_n hx hb dX9_surely_53 rfl (lv_at hl 0 rfl) ?_
          refine lv_iconst (v := 0) hx hb dX9_surely_54 (by decide) ?_
          refine lv_iload_n hx hb dX9_surely_55 rfl (lv_at hl 2 rfl) ?_
          refine lv_iconst (v := 0) hx hb dX9_surely_56 (by decide) ?_
          obtain ⟨r57, hc57, hok⟩ := k_bind hok
          refine kCi (wc := (wX9_rulesBy cy aM qM vM_43 vM_r)) (wc2 := (wX9_rulesBy cy aM qM vM_43 vM_r)) (wr := []) (ws2 := (wX9_surely cy aM qM vM_43 vM_r)) (kRunV (As := [.int 0, .int y3_43, .int 0]) (rest := []) ⟨hx, hb, hml, hown, ht0⟩ (kX9_rulesBy l D cy _ aM qM vM_43 vM_r (0 : Int32) y3_43 (0 : Int32) r57 hc57 _ rfl) (cwV 3 ht0 (gV wd990 wd991 wd992 wd744 wd993) rfl rfl rfl (by decide +kernel) ⟨Nat.le_of_ble_eq_true rfl, Nat.le_of_ble_eq_true rfl⟩) hK hN hP hD [0, 1] rfl (by decide) 0 8 rfl rfl rfl hl.1 rfl (Nat.le_of_ble_eq_true rfl) dX9_surely_57 ⟨Nat.zero_le _, Nat.zero_le _⟩) hP hD hS hA [0, 1] [] rfl rfl (by decide) (by decide) [0, 1] (by decide) rfl rfl (fun H locs hP hD hS => ?_)
          refine lv_iload_n hx hb dX9_surely_60 rfl (lv_at hl 1 rfl) ?_
          refine lv_icmp_ne (tgt := 66) hx hb dX9_surely_61 (by decide) (fun c61 => ?_) (fun c61 => ?_)
          · have hok := k_neg c61 hok
            exact J66  H locs ls hP hD hS (lv_sub hl [0, 1, 2] rfl) hok
          · have hok := k_pos c61 hok
            obtain ⟨e43, hok, he43⟩ := ex_some hok
            have hok := hok.trans (congrArg some (hL43 _ he43))
            refine lv_iload_n hx hb dX9_surely_64 rfl (lv_at hl 2 rfl) ?_
            cases hok
            subst hQe; exact W.iret hx hb hr (fun t ht hW => ⟨⟨_, (), rfl, rfl, by rw [ht]; exact hP, va_K.moved hW.alike hK, hD⟩, hS.F ht⟩) hS.2.2 dX9_surely_65
  unfold fX9_surely at hok
  obtain ⟨H, hH⟩ : ∃ H, H = s.heap := ⟨_, rfl⟩
  obtain ⟨locs, hlc⟩ : ∃ x : List Loc, x = [] := ⟨_, rfl⟩
  have hP : va_P D vwCl (wX9_surely cy aM qM vM vM_r) H := by rw [hH]; exact hP
  have hS : va_S A s.heap H locs := by rw [hH, hlc]; exact hS
  rw [show W p l e _ s m _ below meth c s.heap [] = W p l e _ s m _ below meth c H locs from by rw [hH, hlc]]
  refine lv_aload_n hx hb dX9_surely_0 rfl (lv_at hl 0 rfl) ?_
  obtain ⟨vM_1, hc1, hok⟩ := k_bind hok
  refine kCv (wc := (wX9_good cy aM qM vM)) (wc2 := (wX9_good cy aM qM vM_1)) (wr := [(qM 15, rI cy 224 vM_r)]) (ws2 := (wX9_surely cy aM qM vM_1 vM_r)) (kRunV (As := []) (rest := []) ⟨hx, hb, hml, hown, ht0⟩ (kX9_good l D cy _ aM qM vM vM_1 hc1 _ rfl) (cwV 0 ht0 (gV wd870 wd871 wd872 wd744 wd873) rfl rfl rfl (by decide +kernel) ⟨Nat.le_of_ble_eq_true rfl, Nat.le_of_ble_eq_true rfl⟩) hK hN hP hD [0] rfl (by decide) 0 8 rfl rfl rfl hl.1 rfl (Nat.le_of_ble_eq_true rfl) dX9_surely_1 ⟨Nat.zero_le _, Nat.zero_le _⟩) hP hD hS hA [0] [1] rfl rfl (by decide) (by decide) [1, 0] (by decide) rfl rfl (fun H locs hP hD hS => ?_)
  refine lv_aload_n hx hb dX9_surely_4 rfl (lv_at hl 0 rfl) ?_
  refine va_get (D := D) (ci := 8) (v := .int (vM_1 14)) (C := RX9) (T := TX9) (N := 29) hx hb ht0 niX9 hown hK hP 0 rfl rfl 14 (by decide) (ht0 _ wd855) (fun _ h9 => h9) rfl dX9_surely_5 ?_
  refine lv_if_ne (tgt := 17) hx hb dX9_surely_8 (by decide) (fun c8 => ?_) (fun c8 => ?_)
  · have hok := k_neg c8 hok
    refine lv_iload_n hx hb dX9_surely_17 rfl (lv_at hl 1 rfl) ?_
    refine lv_iconst (v := 0) hx hb dX9_surely_18 (by decide) ?_
    refine lv_bipush (v := 99) hx hb dX9_surely_19 (by decide) ?_
    obtain ⟨r21, hc21, hok⟩ := k_bind hok
    refine kCi (wc := (wX9_in cy )) (wc2 := (wX9_in cy )) (wr := [(aM, oX9 vM_1 qM), (qM 15, rI cy 224 vM_r)]) (ws2 := (wX9_surely cy aM qM vM_1 vM_r)) (kRunS (As := [.int x1, .int 0, .int 99]) (rest := []) ⟨hx, hb, hml, hown, ht0⟩ (kX9_in l D cy _ x1 (0 : Int32) (99 : Int32) r21 hc21 _ rfl) (va_cwS 3 ht0 (gS wd787 wd788 wd744 wd789) rfl rfl rfl (by decide +kernel) ⟨Nat.le_of_ble_eq_true rfl, Nat.le_of_ble_eq_true rfl⟩) hK hN hP hD [] rfl (by decide) rfl hl.1 rfl (Nat.le_of_ble_eq_true rfl) dX9_surely_21 ⟨Nat.zero_le _, Nat.zero_le _⟩) hP hD hS hA [] [0, 1] rfl rfl (by decide) (by decide) [0, 1] (by decide) rfl rfl (fun H locs hP hD hS => ?_)
    refine lv_if_ne (tgt := 33) hx hb dX9_surely_24 (by decide) (fun c24 => ?_) (fun c24 => ?_)
    · have hok := k_neg c24 hok
      refine lv_aload_n hx hb dX9_surely_33 rfl (lv_at hl 0 rfl) ?_
      refine lv_iconst (v := 1) hx hb dX9_surely_34 (by decide) ?_
      refine lv_iconst (v := 0) hx hb dX9_surely_35 (by decide) ?_
      refine lv_iconst (v := 0) hx hb dX9_surely_36 (by decide) ?_
      obtain ⟨r37, hc37, hok⟩ := k_bind hok
      refine kCi (wc := (wX9_rulesBy cy aM qM vM_1 vM_r)) (wc2 := (wX9_rulesBy cy aM qM vM_1 vM_r)) (wr := []) (ws2 := (wX9_surely cy aM qM vM_1 vM_r)) (kRunV (As := [.int 1, .int 0, .int 0]) (rest := []) ⟨hx, hb, hml, hown, ht0⟩ (kX9_rulesBy l D cy _ aM qM vM_1 vM_r (1 : Int32) (0 : Int32) (0 : Int32) r37 hc37 _ rfl) (cwV 3 ht0 (gV wd990 wd991 wd992 wd744 wd993) rfl rfl rfl (by decide +kernel) ⟨Nat.le_of_ble_eq_true rfl, Nat.le_of_ble_eq_true rfl⟩) hK hN hP hD [0, 1] rfl (by decide) 0 8 rfl rfl rfl hl.1 rfl (Nat.le_of_ble_eq_true rfl) dX9_surely_37 ⟨Nat.zero_le _, Nat.zero_le _⟩) hP hD hS hA [0, 1] [] rfl rfl (by decide) (by decide) [0, 1] (by decide) rfl rfl (fun H locs hP hD hS => ?_)
      refine lv_istore_n (lv' := [(2, .int r37), (0, .ref aM), (1, .int x1)]) hx hb dX9_surely_40 rfl hl (by decide) rfl (fun ls hl => ?_)
      refine lv_iload_n hx hb dX9_surely_41 rfl (lv_at hl 2 rfl) ?_
      refine lv_istore_n (lv' := [(3, .int x1), (2, .int r37), (0, .ref aM), (1, .int x1)]) hx hb dX9_surely_42 rfl hl (by decide) rfl (fun ls hl => ?_)
      exact L43 5000 r37 x1 vM_1 H locs ls hP hD hS (lv_sub hl [2, 1, 0] rfl) hok
    · have hok := k_pos c24 hok
      refine lv_aload_n hx hb dX9_surely_27 rfl (lv_at hl 0 rfl) ?_
      refine lv_iconst (v := 2) hx hb dX9_surely_28 (by decide) ?_
      obtain ⟨⟨r29, vM_29⟩, hc29, hok⟩ := k_bind hok
      try dsimp only at hok
      refine kCi (wc := (wX9_no cy aM qM vM_1)) (wc2 := (wX9_no cy aM qM vM_29)) (wr := [(qM 15, rI cy 224 vM_r)]) (ws2 := (wX9_surely cy aM qM vM_29 vM_r)) (kRunV (As := [.int 2]) (rest := []) ⟨hx, hb, hml, hown, ht0⟩ (kX9_no l D cy _ aM qM vM_1 (2 : Int32) r29 vM_29 hc29 _ rfl) (cwV 1 ht0 (gV wd862 wd863 wd864 wd744 wd865) rfl rfl rfl (by decide +kernel) ⟨Nat.le_of_ble_eq_true rfl, Nat.le_of_ble_eq_true rfl⟩) hK hN hP hD [0] rfl (by decide) 0 8 rfl rfl rfl hl.1 rfl (Nat.le_of_ble_eq_true rfl) dX9_surely_29 ⟨Nat.zero_le _, Nat.zero_le _⟩) hP hD hS hA [0] [1] rfl rfl (by decide) (by decide) [1, 0] (by decide) rfl rfl (fun H locs hP hD hS => ?_)
      cases hok
      subst hQe; exact W.iret hx hb hr (fun t ht hW => ⟨⟨_, (), rfl, rfl, by rw [ht]; exact hP, va_K.moved hW.alike hK, hD⟩, hS.F ht⟩) hS.2.2 dX9_surely_32
  · have hok := k_pos c8 hok
    refine lv_aload_n hx hb dX9_surely_11 rfl (lv_at hl 0 rfl) ?_
    refine lv_iconst (v := 1) hx hb dX9_surely_12 (by decide) ?_
    obtain ⟨⟨r13, vM_13⟩, hc13, hok⟩ := k_bind hok
    try dsimp only at hok
    refine kCi (wc := (wX9_no cy aM qM vM_1)) (wc2 := (wX9_no cy aM qM vM_13)) (wr := [(qM 15, rI cy 224 vM_r)]) (ws2 := (wX9_surely cy aM qM vM_13 vM_r)) (kRunV (As := [.int 1]) (rest := []) ⟨hx, hb, hml, hown, ht0⟩ (kX9_no l D cy _ aM qM vM_1 (1 : Int32) r13 vM_13 hc13 _ rfl) (cwV 1 ht0 (gV wd862 wd863 wd864 wd744 wd865) rfl rfl rfl (by decide +kernel) ⟨Nat.le_of_ble_eq_true rfl, Nat.le_of_ble_eq_true rfl⟩) hK hN hP hD [0] rfl (by decide) 0 8 rfl rfl rfl hl.1 rfl (Nat.le_of_ble_eq_true rfl) dX9_surely_13 ⟨Nat.zero_le _, Nat.zero_le _⟩) hP hD hS hA [0] [1] rfl rfl (by decide) (by decide) [1, 0] (by decide) rfl rfl (fun H locs hP hD hS => ?_)
    cases hok
    subst hQe; exact W.iret hx hb hr (fun t ht hW => ⟨⟨_, (), rfl, rfl, by rw [ht]; exact hP, va_K.moved hW.alike hK, hD⟩, hS.F ht⟩) hS.2.2 dX9_surely_16
def wsX9_lookOf : List Cond := .code yX9_lookOf cX9_lookOf 6 (some .int) :: W0
abbrev wX9_lookOf (cy : Nat → ClassId) (aM : Nat) (qM : Nat → Nat) (vM : Nat → Int32) (vM_counts : Nat → Int32) (vM_r : Nat → Int32) : va_W := [(aM, oX9 vM qM), (qM 24, rI cy 1200 vM_counts), (qM 15, rI cy 224 vM_r)]
set_option maxHeartbeats 4000000 in
set_option maxRecDepth 100000 in
theorem kX9_lookOf (l : Launch) (D : va_G) (cy : Nat → ClassId) (sz : Nat) (aM : Nat) (qM : Nat → Nat) (vM : Nat → Int32) (vM_counts : Nat → Int32) (vM_r : Nat → Int32) (zr : Int32) (z_vM : Nat → Int32) (z_vM_counts : Nat → Int32) (hok : fX9_lookOf vM vM_counts vM_r = some (zr, z_vM, z_vM_counts)) (A : Nat → Prop) (hAe : va_A (wX9_lookOf cy aM qM vM vM_counts vM_r) sz = A) : Met l yX9_lookOf wsX9_lookOf ({ frames := 1, cells := 0, slots := 0, locals := 25 } : Room) (kPre D cy [.ref aM] (wX9_lookOf cy aM qM vM vM_counts vM_r) sz) (kQi D cy zr A (wX9_lookOf cy aM qM z_vM z_vM_counts vM_r)) 0 0 A := by
  refine Met.ofW (cc := cX9_lookOf) (maxL := 6) (ret := (some .int)) (by decide) rfl ?_
  intro p e s m args below meth c s₁ B hml hv
  obtain ⟨rfl, hsz, hP, hK, hD0, hN⟩ := hv
  have hx := B.exec
  have hb := B.bytes
  have hr := B.returns
  have ht0 : ∀ w ∈ W0, w.before _ s = true := fun w h => atoms_spec (ws := wsX9_lookOf) B.pre w (List.mem_cons_of_mem _ h)
  have hown : s.vm.findClass RX9 = some m.cls := findClass_of_methodNamed B.named
  have hlocks := B.notSynchronized
  subst hsz
  have hD : va_D A (wX9_lookOf cy aM qM vM vM_counts vM_r) := by rw [← hAe]; exact hD0.self
  have hA : ∀ q : Nat, s.heap.size ≤ q → A q := fun q h => by rw [← hAe]; exact Or.inr h
  have hS : va_S A s.heap s.heap [] := va_S.rf
  have hl := lv_entry ([.ref aM]) (n := 6) (Nat.le_of_ble_eq_true rfl)
  rw [lg_entry_eq]
  generalize (lg_sl ([.ref aM]) ++ List.replicate (6 - (lg_sl ([.ref aM])).length) Slot.unset).toArray = ls at hl ⊢
  have hl : lv_has ls 6 [(0, .ref aM)] := hl
  generalize hQe : MQ below (kQi D cy zr A (wX9_lookOf cy aM qM z_vM z_vM_counts vM_r)) ([.ref aM] : List Value).toArray s 0 0 A = Q
  have J222 : ∀ (y2_222 : Int32) (vM_counts_222 : Nat → Int32) (vM_222 : Nat → Int32), ∀ (H : Heap) (locs : List Loc) (ls : Array Slot), va_P D vwCl (wX9_lookOf cy aM qM vM_222 vM_counts_222 vM_r) H → va_D A (wX9_lookOf cy aM qM vM_222 vM_counts_222 vM_r) → va_S A s.heap H locs → lv_has ls 6 [(2, .int y2_222)] → fX9_lookOf_J222 y2_222 vM_counts_222 vM_222 = some (zr, z_vM, z_vM_counts) → W p l e ({ frames := 1, cells := 0, slots := 0, locals := 25 } : Room) s m ([.ref aM] : List Value).toArray below meth c H locs 0 0 Q (F0 m 222 ls []) := by
    intro y2_222 vM_counts_222 vM_222 H locs ls hP hD hS hl hok
    unfold fX9_lookOf_J222 at hok
    refine lv_iload_n hx hb dX9_lookOf_222 rfl (lv_at hl 0 rfl) ?_
    cases hok
    subst hQe; exact W.iret hx hb hr (fun t ht hW => ⟨⟨_, (), rfl, rfl, by rw [ht]; exact hP, va_K.moved hW.alike hK, hD⟩, hS.F ht⟩) hS.2.2 dX9_lookOf_223
  have L134 : ∀ (fuel : Nat) (y1_134 : Int32) (y2_134 : Int32) (y3_134 : Int32) (vM_counts_134 : Nat → Int32) (vM_134 : Nat → Int32), ∀ (H : Heap) (locs : List Loc) (ls : Array Slot), va_P D vwCl (wX9_lookOf cy aM qM vM_134 vM_counts_134 vM_r) H → va_D A (wX9_lookOf cy aM qM vM_134 vM_counts_134 vM_r) → va_S A s.heap H locs → lv_has ls 6 [(0, .ref aM), (1, .int y1_134), (2, .int y2_134), (3, .int y3_134)] → lp (fX9_lookOf_B134) fuel (y1_134, y2_134, y3_134, vM_counts_134, vM_134) = some (zr, z_vM, z_vM_counts) → W p l e ({ frames := 1, cells := 0, slots := 0, locals := 25 } : Room) s m ([.ref aM] : List Value).toArray below meth c H locs 0 0 Q (F0 m 134 ls []) := by
    intro fuel
    induction fuel with
    | zero => intro y1_134 y2_134 y3_134 vM_counts_134 vM_134 H locs ls hP hD hS hl hok; exact (lp_0 hok).elim
    | succ fuel ih134 =>
      intro y1_134 y2_134 y3_134 vM_counts_134 vM_134 H locs ls hP hD hS hl hok
      obtain ⟨y134, hok, hL134, hR134⟩ := lp_step hok
      have J216 : ∀ (y2_216 : Int32) (vM_216 : Nat → Int32), ∀ (H : Heap) (locs : List Loc) (ls : Array Slot), va_P D vwCl (wX9_lookOf cy aM qM vM_216 vM_counts_134 vM_r) H → va_D A (wX9_lookOf cy aM qM vM_216 vM_counts_134 vM_r) → va_S A s.heap H locs → lv_has ls 6 [(0, .ref aM), (1, .int y1_134), (2, .int y2_216), (3, .int y3_134)] → fX9_lookOf_J216 y1_134 y3_134 vM_counts_134 y2_216 vM_216 = some y134 → W p l e ({ frames := 1, cells := 0, slots := 0, locals := 25 } : Room) s m ([.ref aM] : List Value).toArray below meth c H locs 0 0 Q (F0 m 216 ls []) := by
        intro y2_216 vM_216 H locs ls hP hD hS hl hok
        unfold fX9_lookOf_J216 at hok
        refine lv_iinc (v := (y3_134 + 1)) (lv' := [(3, .int (y3_134 + 1)), (0, .ref aM), (1, .int y1_134), (2, .int y2_216)]) hx hb dX9_lookOf_216 hl (k := 3) rfl (by first | rfl | decide) (by decide) rfl (fun ls hl => ?_)
        refine lv_goto (tgt := 134) hx hb dX9_lookOf_219 (by decide) ?_
        exact ih134 y1_134 y2_216 (y3_134 + 1) vM_counts_134 vM_216 H locs ls hP hD hS (lv_sub hl [1, 2, 3, 0] rfl) (hR134 _ (Option.some.inj hok).symm)
      have J197 : ∀ (y4_197 : Int32), ∀ (H : Heap) (locs : List Loc) (ls : Array Slot), va_P D vwCl (wX9_lookOf cy aM qM vM_134 vM_counts_134 vM_r) H → va_D A (wX9_lookOf cy aM qM vM_134 vM_counts_134 vM_r) → va_S A s.heap H locs → lv_has ls 6 [(0, .ref aM), (1, .int y1_134), (3, .int y3_134), (4, .int y4_197)] → fX9_lookOf_J197 y1_134 y3_134 vM_counts_134 vM_134 y4_197 = some y134 → W p l e ({ frames := 1, cells := 0, slots := 0, locals := 25 } : Room) s m ([.ref aM] : List Value).toArray below meth c H locs 0 0 Q (F0 m 197 ls []) := by
        intro y4_197 H locs ls hP hD hS hl hok
        unfold fX9_lookOf_J197 at hok
        refine lv_bipush (v := 100) hx hb dX9_lookOf_197 (by decide) ?_
        refine lv_iload_n hx hb dX9_lookOf_199 rfl (lv_at hl 2 rfl) ?_
        refine lv_bipush (v := 12) hx hb dX9_lookOf_200 (by decide) ?_
        refine lv_idiv hx hb dX9_lookOf_202 (by decide) ?_
        refine lv_imul hx hb dX9_lookOf_203 ?_
        refine lv_iload_n hx hb dX9_lookOf_204 rfl (lv_at hl 2 rfl) ?_
        refine lv_bipush (v := 12) hx hb dX9_lookOf_205 (by decide) ?_
        refine lv_irem hx hb dX9_lookOf_207 (by decide) ?_
        refine lv_iadd hx hb dX9_lookOf_208 ?_
        refine lv_istore_n (lv' := [(2, .int (((100 : Int32) * (y3_134 / (12 : Int32))) + (irm y3_134 (12 : Int32)))), (0, .ref aM), (1, .int y1_134), (3, .int y3_134), (4, .int y4_197)]) hx hb dX9_lookOf_209 rfl hl (by decide) rfl (fun ls hl => ?_)
        refine lv_aload_n hx hb dX9_lookOf_210 rfl (lv_at hl 1 rfl) ?_
        refine lv_iload hx hb dX9_lookOf_211 (lv_at hl 4 rfl) ?_
        refine va_put (D := D) (ci := 8) (v := .int y4_197) (ty := .int) (C := RX9) (T := TX9) (N := 29) hx hb ht0 niX9 tyX9 tyX9_ok nmX9 hown hK hP hD hS 0 rfl rfl 25 (by decide) (ht0 _ wd994) (fun _ h9 => h9) rfl (by decide +kernel) rfl rfl (Nat.le_of_ble_eq_true rfl) dX9_lookOf_213 (fun H locs hP hD hS => ?_)
        have hP : va_P D vwCl (wX9_lookOf cy aM qM (upd vM_134 25 y4_197) vM_counts_134 vM_r) H := hP
        have hD : va_D A (wX9_lookOf cy aM qM (upd vM_134 25 y4_197) vM_counts_134 vM_r) := hD
        exact J216 (((100 : Int32) * (y3_134 / (12 : Int32))) + (irm y3_134 (12 : Int32))) (upd vM_134 25 y4_197) H locs ls hP hD hS (lv_sub hl [1, 2, 0, 3] rfl) hok
      have J179 : ∀ (t0_179 : Int32), ∀ (H : Heap) (locs : List Loc) (ls : Array Slot), va_P D vwCl (wX9_lookOf cy aM qM vM_134 vM_counts_134 vM_r) H → va_D A (wX9_lookOf cy aM qM vM_134 vM_counts_134 vM_r) → va_S A s.heap H locs → lv_has ls 6 [(0, .ref aM), (1, .int y1_134), (2, .int y2_134), (3, .int y3_134)] → fX9_lookOf_J179 y1_134 y2_134 y3_134 vM_counts_134 vM_134 t0_179 = some y134 → W p l e ({ frames := 1, cells := 0, slots := 0, locals := 25 } : Room) s m ([.ref aM] : List Value).toArray below meth c H locs 0 0 Q (F0 m 179 ls [.int t0_179]) := by
        intro t0_179 H locs ls hP hD hS hl hok
        unfold fX9_lookOf_J179 at hok
        refine lv_istore (lv' := [(4, .int t0_179), (0, .ref aM), (1, .int y1_134), (2, .int y2_134), (3, .int y3_134)]) hx hb dX9_lookOf_179 hl (by decide) rfl (fun ls hl => ?_)
        refine lv_iload_n hx hb dX9_lookOf_181 rfl (lv_at hl 3 rfl) ?_
        refine lv_if_lt (tgt := 197) hx hb dX9_lookOf_182 (by decide) (fun c182 => ?_) (fun c182 => ?_)
        · have hok := k_pos c182 hok
          exact J197 t0_179 H locs ls hP hD hS (lv_sub hl [1, 2, 4, 0] rfl) hok
        · have hok := k_neg c182 hok
          refine lv_iload hx hb dX9_lookOf_185 (lv_at hl 0 rfl) ?_
          refine lv_aload_n hx hb dX9_lookOf_187 rfl (lv_at hl 1 rfl) ?_
          refine va_get (D := D) (ci := 8) (v := .int (vM_134 25)) (C := RX9) (T := TX9) (N := 29) hx hb ht0 niX9 hown hK hP 0 rfl rfl 25 (by decide) (ht0 _ wd994) (fun _ h9 => h9) rfl dX9_lookOf_188 ?_
          refine lv_icmp_lt (tgt := 197) hx hb dX9_lookOf_191 (by decide) (fun c191 => ?_) (fun c191 => ?_)
          · have hok := k_pos c191 hok
            exact J197 t0_179 H locs ls hP hD hS (lv_sub hl [1, 2, 4, 0] rfl) hok
          · have hok := k_neg c191 hok
            refine lv_goto (tgt := 216) hx hb dX9_lookOf_194 (by decide) ?_
            exact J216 y2_134 vM_134 H locs ls hP hD hS (lv_sub hl [1, 2, 3, 4] rfl) hok
      unfold fX9_lookOf_B134 at hok
      try dsimp only at hok
      refine lv_iload_n hx hb dX9_lookOf_134 rfl (lv_at hl 3 rfl) ?_
      refine lv_sipush (v := 1200) hx hb dX9_lookOf_135 (by decide) ?_
      refine lv_icmp_ge (tgt := 222) hx hb dX9_lookOf_138 (by decide) (fun c138 => ?_) (fun c138 => ?_)
      · have hok := k_pos c138 hok
        obtain ⟨e134, hok, he134⟩ := ex_some hok
        have hok := hok.trans (congrArg some (hL134 _ he134))
        exact J222 y2_134 vM_counts_134 vM_134 H locs ls hP hD hS (lv_sub hl [2] rfl) hok
      · have hok := k_neg c138 hok
        refine lv_iload_n hx hb dX9_lookOf_141 rfl (lv_at hl 1 rfl) ?_
        refine lv_if_le (tgt := 222) hx hb dX9_lookOf_142 (by decide) (fun c142 => ?_) (fun c142 => ?_)
        · have hok := k_pos c142 hok
          obtain ⟨e134, hok, he134⟩ := ex_some hok
          have hok := hok.trans (congrArg some (hL134 _ he134))
          exact J222 y2_134 vM_counts_134 vM_134 H locs ls hP hD hS (lv_sub hl [2] rfl) hok
        · have hok := k_neg c142 hok
          refine lv_aload_n hx hb dX9_lookOf_145 rfl (lv_at hl 0 rfl) ?_
          refine va_get (D := D) (ci := 8) (v := .ref (qM 24)) (C := RX9) (T := TX9) (N := 29) hx hb ht0 niX9 hown hK hP 0 rfl rfl 24 (by decide) (ht0 _ wd995) (fun _ h9 => h9) rfl dX9_lookOf_146 ?_
          refine lv_iload_n hx hb dX9_lookOf_149 rfl (lv_at hl 3 rfl) ?_
          obtain ⟨g150, hok⟩ := gd_some hok
          refine va_iald hx hb hK hP 1 0 rfl rfl (okI_in g150) dX9_lookOf_150 ?_
          refine lv_iload_n hx hb dX9_lookOf_151 rfl (lv_at hl 1 rfl) ?_
          refine lv_aload_n hx hb dX9_lookOf_152 rfl (lv_at hl 0 rfl) ?_
          refine va_get (D := D) (ci := 8) (v := .ref (qM 24)) (C := RX9) (T := TX9) (N := 29) hx hb ht0 niX9 hown hK hP 0 rfl rfl 24 (by decide) (ht0 _ wd995) (fun _ h9 => h9) rfl dX9_lookOf_153 ?_
          refine lv_iload_n hx hb dX9_lookOf_156 rfl (lv_at hl 3 rfl) ?_
          obtain ⟨g157, hok⟩ := gd_some hok
          refine va_iald hx hb hK hP 1 0 rfl rfl (okI_in g157) dX9_lookOf_157 ?_
          refine lv_isub hx hb dX9_lookOf_158 ?_
          refine lv_icmp_le (tgt := 171) hx hb dX9_lookOf_159 (by decide) (fun c159 => ?_) (fun c159 => ?_)
          · have hok := k_pos c159 hok
            refine lv_iload_n hx hb dX9_lookOf_171 rfl (lv_at hl 1 rfl) ?_
            refine lv_aload_n hx hb dX9_lookOf_172 rfl (lv_at hl 0 rfl) ?_
            refine va_get (D := D) (ci := 8) (v := .ref (qM 24)) (C := RX9) (T := TX9) (N := 29) hx hb ht0 niX9 hown hK hP 0 rfl rfl 24 (by decide) (ht0 _ wd995) (fun _ h9 => h9) rfl dX9_lookOf_173 ?_
            refine lv_iload_n hx hb dX9_lookOf_176 rfl (lv_at hl 3 rfl) ?_
            obtain ⟨g177, hok⟩ := gd_some hok
            refine va_iald hx hb hK hP 1 0 rfl rfl (okI_in g177) dX9_lookOf_177 ?_
            refine lv_isub hx hb dX9_lookOf_178 ?_
            exact J179 (y1_134 - (vM_counts_134 y3_134.toNatClampNeg)) H locs ls hP hD hS (lv_sub hl [0, 1, 2, 3] rfl) hok
          · have hok := k_neg c159 hok
            refine lv_aload_n hx hb dX9_lookOf_162 rfl (lv_at hl 0 rfl) ?_
            refine va_get (D := D) (ci := 8) (v := .ref (qM 24)) (C := RX9) (T := TX9) (N := 29) hx hb ht0 niX9 hown hK hP 0 rfl rfl 24 (by decide) (ht0 _ wd995) (fun _ h9 => h9) rfl dX9_lookOf_163 ?_
            refine lv_iload_n hx hb dX9_lookOf_166 rfl (lv_at hl 3 rfl) ?_
            obtain ⟨g167, hok⟩ := gd_some hok
            refine va_iald hx hb hK hP 1 0 rfl rfl (okI_in g167) dX9_lookOf_167 ?_
            refine lv_goto (tgt := 179) hx hb dX9_lookOf_168 (by decide) ?_
            exact J179 (vM_counts_134 y3_134.toNatClampNeg) H locs ls hP hD hS (lv_sub hl [0, 1, 2, 3] rfl) hok
  have L26 : ∀ (fuel : Nat) (y1_26 : Int32) (y2_26 : Int32) (vM_counts_26 : Nat → Int32), ∀ (H : Heap) (locs : List Loc) (ls : Array Slot), va_P D vwCl (wX9_lookOf cy aM qM vM vM_counts_26 vM_r) H → va_D A (wX9_lookOf cy aM qM vM vM_counts_26 vM_r) → va_S A s.heap H locs → lv_has ls 6 [(0, .ref aM), (1, .int y1_26), (2, .int y2_26)] → lp (fX9_lookOf_B26 vM vM_r) fuel (y1_26, y2_26, vM_counts_26) = some (zr, z_vM, z_vM_counts) → W p l e ({ frames := 1, cells := 0, slots := 0, locals := 25 } : Room) s m ([.ref aM] : List Value).toArray below meth c H locs 0 0 Q (F0 m 26 ls []) := by
    intro fuel
    induction fuel with
    | zero => intro y1_26 y2_26 vM_counts_26 H locs ls hP hD hS hl hok; exact (lp_0 hok).elim
    | succ fuel ih26 =>
      intro y1_26 y2_26 vM_counts_26 H locs ls hP hD hS hl hok
      obtain ⟨y26, hok, hL26, hR26⟩ := lp_step hok
      have L34 : ∀ (fuel : Nat) (y1_34 : Int32) (y3_34 : Int32) (vM_counts_34 : Nat → Int32), ∀ (H : Heap) (locs : List Loc) (ls : Array Slot), va_P D vwCl (wX9_lookOf cy aM qM vM vM_counts_34 vM_r) H → va_D A (wX9_lookOf cy aM qM vM vM_counts_34 vM_r) → va_S A s.heap H locs → lv_has ls 6 [(0, .ref aM), (1, .int y1_34), (2, .int y2_26), (3, .int y3_34)] → lp (fX9_lookOf_B34 vM vM_r y2_26) fuel (y1_34, y3_34, vM_counts_34) = some y26 → W p l e ({ frames := 1, cells := 0, slots := 0, locals := 25 } : Room) s m ([.ref aM] : List Value).toArray below meth c H locs 0 0 Q (F0 m 34 ls []) := by
        intro fuel
        induction fuel with
        | zero => intro y1_34 y3_34 vM_counts_34 H locs ls hP hD hS hl hok; exact (lp_0 hok).elim
        | succ fuel ih34 =>
          intro y1_34 y3_34 vM_counts_34 H locs ls hP hD hS hl hok
          obtain ⟨y34, hok, hL34, hR34⟩ := lp_step hok
          have L42 : ∀ (fuel : Nat) (y1_42 : Int32) (y4_42 : Int32) (vM_counts_42 : Nat → Int32), ∀ (H : Heap) (locs : List Loc) (ls : Array Slot), va_P D vwCl (wX9_lookOf cy aM qM vM vM_counts_42 vM_r) H → va_D A (wX9_lookOf cy aM qM vM vM_counts_42 vM_r) → va_S A s.heap H locs → lv_has ls 6 [(0, .ref aM), (1, .int y1_42), (2, .int y2_26), (3, .int y3_34), (4, .int y4_42)] → lp (fX9_lookOf_B42 vM vM_r y2_26 y3_34) fuel (y1_42, y4_42, vM_counts_42) = some y34 → W p l e ({ frames := 1, cells := 0, slots := 0, locals := 25 } : Room) s m ([.ref aM] : List Value).toArray below meth c H locs 0 0 Q (F0 m 42 ls []) := by
            intro fuel
            induction fuel with
            | zero => intro y1_42 y4_42 vM_counts_42 H locs ls hP hD hS hl hok; exact (lp_0 hok).elim
            | succ fuel ih42 =>
              intro y1_42 y4_42 vM_counts_42 H locs ls hP hD hS hl hok
              obtain ⟨y42, hok, hL42, hR42⟩ := lp_step hok
              have J105 : ∀ (y1_105 : Int32) (vM_counts_105 : Nat → Int32), ∀ (H : Heap) (locs : List Loc) (ls : Array Slot), va_P D vwCl (wX9_lookOf cy aM qM vM vM_counts_105 vM_r) H → va_D A (wX9_lookOf cy aM qM vM vM_counts_105 vM_r) → va_S A s.heap H locs → lv_has ls 6 [(0, .ref aM), (1, .int y1_105), (2, .int y2_26), (3, .int y3_34), (4, .int y4_42)] → fX9_lookOf_J105 y4_42 y1_105 vM_counts_105 = some y42 → W p l e ({ frames := 1, cells := 0, slots := 0, locals := 25 } : Room) s m ([.ref aM] : List Value).toArray below meth c H locs 0 0 Q (F0 m 105 ls []) := by
                intro y1_105 vM_counts_105 H locs ls hP hD hS hl hok
                unfold fX9_lookOf_J105 at hok
                refine lv_iinc (v := (y4_42 + 1)) (lv' := [(4, .int (y4_42 + 1)), (0, .ref aM), (1, .int y1_105), (2, .int y2_26), (3, .int y3_34)]) hx hb dX9_lookOf_105 hl (k := 4) rfl (by first | rfl | decide) (by decide) rfl (fun ls hl => ?_)
                refine lv_goto (tgt := 42) hx hb dX9_lookOf_108 (by decide) ?_
                exact ih42 y1_105 (y4_42 + 1) vM_counts_105 H locs ls hP hD hS (lv_sub hl [1, 2, 3, 4, 0] rfl) (hR42 _ (Option.some.inj hok).symm)
              have L68 : ∀ (fuel : Nat) (y5_68 : Int32) (vM_counts_68 : Nat → Int32), ∀ (H : Heap) (locs : List Loc) (ls : Array Slot), va_P D vwCl (wX9_lookOf cy aM qM vM vM_counts_68 vM_r) H → va_D A (wX9_lookOf cy aM qM vM vM_counts_68 vM_r) → va_S A s.heap H locs → lv_has ls 6 [(0, .ref aM), (1, .int (y1_42 + 1)), (2, .int y2_26), (3, .int y3_34), (4, .int y4_42), (5, .int y5_68)] → lp (fX9_lookOf_B68 y2_26 y3_34 y1_42 y4_42) fuel (y5_68, vM_counts_68) = some y42 → W p l e ({ frames := 1, cells := 0, slots := 0, locals := 25 } : Room) s m ([.ref aM] : List Value).toArray below meth c H locs 0 0 Q (F0 m 68 ls []) := by
                intro fuel
                induction fuel with
                | zero => intro y5_68 vM_counts_68 H locs ls hP hD hS hl hok; exact (lp_0 hok).elim
                | succ fuel ih68 =>
                  intro y5_68 vM_counts_68 H locs ls hP hD hS hl hok
                  obtain ⟨y68, hok, hL68, hR68⟩ := lp_step hok
                  unfold fX9_lookOf_B68 at hok
                  try dsimp only at hok
                  refine lv_iload hx hb dX9_lookOf_68 (lv_at hl 5 rfl) ?_
                  refine lv_bipush (v := 100) hx hb dX9_lookOf_70 (by decide) ?_
                  refine lv_icmp_ge (tgt := 105) hx hb dX9_lookOf_72 (by decide) (fun c72 => ?_) (fun c72 => ?_)
                  · have hok := k_pos c72 hok
                    obtain ⟨e68, hok, he68⟩ := ex_some hok
                    have hok := hok.trans (congrArg some (hL68 _ he68))
                    exact J105 (y1_42 + 1) vM_counts_68 H locs ls hP hD hS (lv_sub hl [0, 1, 2, 3, 4] rfl) hok
                  · have hok := k_neg c72 hok
                    refine lv_aload_n hx hb dX9_lookOf_75 rfl (lv_at hl 0 rfl) ?_
                    refine va_get (D := D) (ci := 8) (v := .ref (qM 24)) (C := RX9) (T := TX9) (N := 29) hx hb ht0 niX9 hown hK hP 0 rfl rfl 24 (by decide) (ht0 _ wd995) (fun _ h9 => h9) rfl dX9_lookOf_76 ?_
                    refine lv_bipush (v := 12) hx hb dX9_lookOf_79 (by decide) ?_
                    refine lv_iload hx hb dX9_lookOf_81 (lv_at hl 5 rfl) ?_
                    refine lv_imul hx hb dX9_lookOf_83 ?_
                    refine lv_iload hx hb dX9_lookOf_84 (lv_at hl 4 rfl) ?_
                    refine lv_iload_n hx hb dX9_lookOf_86 rfl (lv_at hl 3 rfl) ?_
                    refine lv_iload hx hb dX9_lookOf_87 (lv_at hl 5 rfl) ?_
                    refine lv_imul hx hb dX9_lookOf_89 ?_
                    refine lv_iadd hx hb dX9_lookOf_90 ?_
                    refine lv_iload_n hx hb dX9_lookOf_91 rfl (lv_at hl 2 rfl) ?_
                    obtain ⟨g92, hok⟩ := gd_some hok
                    refine lv_irem hx hb dX9_lookOf_92 (nzI_ne g92) ?_
                    refine lv_iadd hx hb dX9_lookOf_93 ?_
                    refine lv_dup2_11 hx hb dX9_lookOf_94 rfl rfl ?_
                    obtain ⟨g95, hok⟩ := gd_some hok
                    refine va_iald hx hb hK hP 1 0 rfl rfl (okI_in g95) dX9_lookOf_95 ?_
                    refine lv_iconst (v := 1) hx hb dX9_lookOf_96 (by decide) ?_
                    refine lv_iadd hx hb dX9_lookOf_97 ?_
                    obtain ⟨g98, hok⟩ := gd_some hok
                    refine va_iast hx hb hK hP hD hS 1 0 rfl rfl (okI_in g98) dX9_lookOf_98 (fun H locs hP hD hS => ?_)
                    have hP : va_P D vwCl (wX9_lookOf cy aM qM vM (upd vM_counts_68 (((12 : Int32) * y5_68) + (irm (y4_42 + (y3_34 * y5_68)) y2_26)).toNatClampNeg ((vM_counts_68 (((12 : Int32) * y5_68) + (irm (y4_42 + (y3_34 * y5_68)) y2_26)).toNatClampNeg) + (1 : Int32))) vM_r) H := hP
                    have hD : va_D A (wX9_lookOf cy aM qM vM (upd vM_counts_68 (((12 : Int32) * y5_68) + (irm (y4_42 + (y3_34 * y5_68)) y2_26)).toNatClampNeg ((vM_counts_68 (((12 : Int32) * y5_68) + (irm (y4_42 + (y3_34 * y5_68)) y2_26)).toNatClampNeg) + (1 : Int32))) vM_r) := hD
                    refine lv_iinc (v := (y5_68 + 1)) (lv' := [(5, .int (y5_68 + 1)), (0, .ref aM), (1, .int (y1_42 + 1)), (2, .int y2_26), (3, .int y3_34), (4, .int y4_42)]) hx hb dX9_lookOf_99 hl (k := 5) rfl (by first | rfl | decide) (by decide) rfl (fun ls hl => ?_)
                    refine lv_goto (tgt := 68) hx hb dX9_lookOf_102 (by decide) ?_
                    exact ih68 (y5_68 + 1) (upd vM_counts_68 (((12 : Int32) * y5_68) + (irm (y4_42 + (y3_34 * y5_68)) y2_26)).toNatClampNeg ((vM_counts_68 (((12 : Int32) * y5_68) + (irm (y4_42 + (y3_34 * y5_68)) y2_26)).toNatClampNeg) + (1 : Int32))) H locs ls hP hD hS (lv_sub hl [1, 2, 3, 4, 5, 0] rfl) (hR68 _ (Option.some.inj hok).symm)
              unfold fX9_lookOf_B42 at hok
              try dsimp only at hok
              refine lv_iload hx hb dX9_lookOf_42 (lv_at hl 4 rfl) ?_
              refine lv_iload_n hx hb dX9_lookOf_44 rfl (lv_at hl 2 rfl) ?_
              refine lv_icmp_ge (tgt := 111) hx hb dX9_lookOf_45 (by decide) (fun c45 => ?_) (fun c45 => ?_)
              · have hok := k_pos c45 hok
                obtain ⟨e42, hok, he42⟩ := ex_some hok
                have hok := hok.trans (congrArg some (hL42 _ he42))
                refine lv_iinc (v := (y3_34 + 1)) (lv' := [(3, .int (y3_34 + 1)), (0, .ref aM), (1, .int y1_42), (2, .int y2_26), (4, .int y4_42)]) hx hb dX9_lookOf_111 hl (k := 3) rfl (by first | rfl | decide) (by decide) rfl (fun ls hl => ?_)
                refine lv_goto (tgt := 34) hx hb dX9_lookOf_114 (by decide) ?_
                exact ih34 y1_42 (y3_34 + 1) vM_counts_42 H locs ls hP hD hS (lv_sub hl [1, 2, 3, 0] rfl) (hR34 _ (Option.some.inj hok).symm)
              · have hok := k_neg c45 hok
                refine lv_aload_n hx hb dX9_lookOf_48 rfl (lv_at hl 0 rfl) ?_
                refine lv_iload_n hx hb dX9_lookOf_49 rfl (lv_at hl 2 rfl) ?_
                refine lv_iload_n hx hb dX9_lookOf_50 rfl (lv_at hl 3 rfl) ?_
                refine lv_iload hx hb dX9_lookOf_51 (lv_at hl 4 rfl) ?_
                obtain ⟨r53, hc53, hok⟩ := k_bind hok
                refine kCi (wc := (wX9_isRule cy aM qM vM vM_r)) (wc2 := (wX9_isRule cy aM qM vM vM_r)) (wr := [(qM 24, rI cy 1200 vM_counts_42)]) (ws2 := (wX9_lookOf cy aM qM vM vM_counts_42 vM_r)) (kRunV (As := [.int y2_26, .int y3_34, .int y4_42]) (rest := []) ⟨hx, hb, hml, hown, ht0⟩ (kX9_isRule l D cy _ aM qM vM vM_r y2_26 y3_34 y4_42 r53 hc53 _ rfl) (cwV 3 ht0 (gV wd986 wd987 wd988 wd744 wd989) rfl rfl rfl (by decide +kernel) ⟨Nat.le_of_ble_eq_true rfl, Nat.le_of_ble_eq_true rfl⟩) hK hN hP hD [0, 2] rfl (by decide) 0 8 rfl rfl rfl hl.1 rfl (Nat.le_of_ble_eq_true rfl) dX9_lookOf_53 ⟨Nat.zero_le _, Nat.zero_le _⟩) hP hD hS hA [0, 2] [1] rfl rfl (by decide) (by decide) [1, 0, 2] (by decide) rfl rfl (fun H locs hP hD hS => ?_)
                refine lv_if_ne (tgt := 62) hx hb dX9_lookOf_56 (by decide) (fun c56 => ?_) (fun c56 => ?_)
                · have hok := k_neg c56 hok
                  refine lv_iinc (v := (y1_42 + 1)) (lv' := [(1, .int (y1_42 + 1)), (0, .ref aM), (2, .int y2_26), (3, .int y3_34), (4, .int y4_42)]) hx hb dX9_lookOf_62 hl (k := 1) rfl (by first | rfl | decide) (by decide) rfl (fun ls hl => ?_)
                  refine lv_iconst (v := 0) hx hb dX9_lookOf_65 (by decide) ?_
                  refine lv_istore (lv' := [(5, .int 0), (1, .int (y1_42 + 1)), (0, .ref aM), (2, .int y2_26), (3, .int y3_34), (4, .int y4_42)]) hx hb dX9_lookOf_66 hl (by decide) rfl (fun ls hl => ?_)
                  exact L68 5000 (0 : Int32) vM_counts_42 H locs ls hP hD hS (lv_sub hl [2, 1, 3, 4, 5, 0] rfl) hok
                · have hok := k_pos c56 hok
                  refine lv_goto (tgt := 105) hx hb dX9_lookOf_59 (by decide) ?_
                  exact J105 y1_42 vM_counts_42 H locs ls hP hD hS (lv_sub hl [0, 1, 2, 3, 4] rfl) hok
          unfold fX9_lookOf_B34 at hok
          try dsimp only at hok
          refine lv_iload_n hx hb dX9_lookOf_34 rfl (lv_at hl 3 rfl) ?_
          refine lv_iload_n hx hb dX9_lookOf_35 rfl (lv_at hl 2 rfl) ?_
          refine lv_icmp_ge (tgt := 117) hx hb dX9_lookOf_36 (by decide) (fun c36 => ?_) (fun c36 => ?_)
          · have hok := k_pos c36 hok
            obtain ⟨e34, hok, he34⟩ := ex_some hok
            have hok := hok.trans (congrArg some (hL34 _ he34))
            refine lv_iinc (v := (y2_26 + 1)) (lv' := [(2, .int (y2_26 + 1)), (0, .ref aM), (1, .int y1_34), (3, .int y3_34)]) hx hb dX9_lookOf_117 hl (k := 2) rfl (by first | rfl | decide) (by decide) rfl (fun ls hl => ?_)
            refine lv_goto (tgt := 26) hx hb dX9_lookOf_120 (by decide) ?_
            exact ih26 y1_34 (y2_26 + 1) vM_counts_34 H locs ls hP hD hS (lv_sub hl [1, 2, 0] rfl) (hR26 _ (Option.some.inj hok).symm)
          · have hok := k_neg c36 hok
            refine lv_iconst (v := 0) hx hb dX9_lookOf_39 (by decide) ?_
            refine lv_istore (lv' := [(4, .int 0), (0, .ref aM), (1, .int y1_34), (2, .int y2_26), (3, .int y3_34)]) hx hb dX9_lookOf_40 hl (by decide) rfl (fun ls hl => ?_)
            exact L42 5000 y1_34 (0 : Int32) vM_counts_34 H locs ls hP hD hS (lv_sub hl [1, 2, 3, 4, 0] rfl) hok
      unfold fX9_lookOf_B26 at hok
      try dsimp only at hok
      refine lv_iload_n hx hb dX9_lookOf_26 rfl (lv_at hl 2 rfl) ?_
      refine lv_bipush (v := 12) hx hb dX9_lookOf_27 (by decide) ?_
      refine lv_icmp_gt (tgt := 123) hx hb dX9_lookOf_29 (by decide) (fun c29 => ?_) (fun c29 => ?_)
      · have hok := k_pos c29 hok
        obtain ⟨e26, hok, he26⟩ := ex_some hok
        have hok := hok.trans (congrArg some (hL26 _ he26))
        refine lv_aload_n hx hb dX9_lookOf_123 rfl (lv_at hl 0 rfl) ?_
        refine lv_bipush (v := -2) hx hb dX9_lookOf_124 (by decide) ?_
        refine va_put (D := D) (ci := 8) (v := .int (-2)) (ty := .int) (C := RX9) (T := TX9) (N := 29) hx hb ht0 niX9 tyX9 tyX9_ok nmX9 hown hK hP hD hS 0 rfl rfl 25 (by decide) (ht0 _ wd994) (fun _ h9 => h9) rfl (by decide +kernel) rfl rfl (Nat.le_of_ble_eq_true rfl) dX9_lookOf_126 (fun H locs hP hD hS => ?_)
        have hP : va_P D vwCl (wX9_lookOf cy aM qM (upd vM 25 (-2 : Int32)) vM_counts_26 vM_r) H := hP
        have hD : va_D A (wX9_lookOf cy aM qM (upd vM 25 (-2 : Int32)) vM_counts_26 vM_r) := hD
        refine lv_bipush (v := -2) hx hb dX9_lookOf_129 (by decide) ?_
        refine lv_istore_n (lv' := [(2, .int (-2)), (0, .ref aM), (1, .int y1_26)]) hx hb dX9_lookOf_131 rfl hl (by decide) rfl (fun ls hl => ?_)
        refine lv_iconst (v := 0) hx hb dX9_lookOf_132 (by decide) ?_
        refine lv_istore_n (lv' := [(3, .int 0), (2, .int (-2)), (0, .ref aM), (1, .int y1_26)]) hx hb dX9_lookOf_133 rfl hl (by decide) rfl (fun ls hl => ?_)
        exact L134 5000 y1_26 (-2 : Int32) (0 : Int32) vM_counts_26 (upd vM 25 (-2 : Int32)) H locs ls hP hD hS (lv_sub hl [2, 3, 1, 0] rfl) hok
      · have hok := k_neg c29 hok
        refine lv_iconst (v := 1) hx hb dX9_lookOf_32 (by decide) ?_
        refine lv_istore_n (lv' := [(3, .int 1), (0, .ref aM), (1, .int y1_26), (2, .int y2_26)]) hx hb dX9_lookOf_33 rfl hl (by decide) rfl (fun ls hl => ?_)
        exact L34 5000 y1_26 (1 : Int32) vM_counts_26 H locs ls hP hD hS (lv_sub hl [1, 2, 3, 0] rfl) hok
  have L4 : ∀ (fuel : Nat) (y2_4 : Int32) (vM_counts_4 : Nat → Int32), ∀ (H : Heap) (locs : List Loc) (ls : Array Slot), va_P D vwCl (wX9_lookOf cy aM qM vM vM_counts_4 vM_r) H → va_D A (wX9_lookOf cy aM qM vM vM_counts_4 vM_r) → va_S A s.heap H locs → lv_has ls 6 [(0, .ref aM), (1, .int 0), (2, .int y2_4)] → lp (fX9_lookOf_B4 vM vM_r) fuel (y2_4, vM_counts_4) = some (zr, z_vM, z_vM_counts) → W p l e ({ frames := 1, cells := 0, slots := 0, locals := 25 } : Room) s m ([.ref aM] : List Value).toArray below meth c H locs 0 0 Q (F0 m 4 ls []) := by
    intro fuel
    induction fuel with
    | zero => intro y2_4 vM_counts_4 H locs ls hP hD hS hl hok; exact (lp_0 hok).elim
    | succ fuel ih4 =>
      intro y2_4 vM_counts_4 H locs ls hP hD hS hl hok
      obtain ⟨y4, hok, hL4, hR4⟩ := lp_step hok
      unfold fX9_lookOf_B4 at hok
      try dsimp only at hok
      refine lv_iload_n hx hb dX9_lookOf_4 rfl (lv_at hl 2 rfl) ?_
      refine lv_sipush (v := 1200) hx hb dX9_lookOf_5 (by decide) ?_
      refine lv_icmp_ge (tgt := 24) hx hb dX9_lookOf_8 (by decide) (fun c8 => ?_) (fun c8 => ?_)
      · have hok := k_pos c8 hok
        obtain ⟨e4, hok, he4⟩ := ex_some hok
        have hok := hok.trans (congrArg some (hL4 _ he4))
        refine lv_iconst (v := 2) hx hb dX9_lookOf_24 (by decide) ?_
        refine lv_istore_n (lv' := [(2, .int 2), (0, .ref aM), (1, .int 0)]) hx hb dX9_lookOf_25 rfl hl (by decide) rfl (fun ls hl => ?_)
        exact L26 5000 (0 : Int32) (2 : Int32) vM_counts_4 H locs ls hP hD hS (lv_sub hl [1, 2, 0] rfl) hok
      · have hok := k_neg c8 hok
        refine lv_aload_n hx hb dX9_lookOf_11 rfl (lv_at hl 0 rfl) ?_
        refine va_get (D := D) (ci := 8) (v := .ref (qM 24)) (C := RX9) (T := TX9) (N := 29) hx hb ht0 niX9 hown hK hP 0 rfl rfl 24 (by decide) (ht0 _ wd995) (fun _ h9 => h9) rfl dX9_lookOf_12 ?_
        refine lv_iload_n hx hb dX9_lookOf_15 rfl (lv_at hl 2 rfl) ?_
        refine lv_iconst (v := 0) hx hb dX9_lookOf_16 (by decide) ?_
        obtain ⟨g17, hok⟩ := gd_some hok
        refine va_iast hx hb hK hP hD hS 1 0 rfl rfl (okI_in g17) dX9_lookOf_17 (fun H locs hP hD hS => ?_)
        have hP : va_P D vwCl (wX9_lookOf cy aM qM vM (upd vM_counts_4 y2_4.toNatClampNeg (0 : Int32)) vM_r) H := hP
        have hD : va_D A (wX9_lookOf cy aM qM vM (upd vM_counts_4 y2_4.toNatClampNeg (0 : Int32)) vM_r) := hD
        refine lv_iinc (v := (y2_4 + 1)) (lv' := [(2, .int (y2_4 + 1)), (0, .ref aM), (1, .int 0)]) hx hb dX9_lookOf_18 hl (k := 2) rfl (by first | rfl | decide) (by decide) rfl (fun ls hl => ?_)
        refine lv_goto (tgt := 4) hx hb dX9_lookOf_21 (by decide) ?_
        exact ih4 (y2_4 + 1) (upd vM_counts_4 y2_4.toNatClampNeg (0 : Int32)) H locs ls hP hD hS (lv_sub hl [1, 2, 0] rfl) (hR4 _ (Option.some.inj hok).symm)
  unfold fX9_lookOf at hok
  obtain ⟨H, hH⟩ : ∃ H, H = s.heap := ⟨_, rfl⟩
  obtain ⟨locs, hlc⟩ : ∃ x : List Loc, x = [] := ⟨_, rfl⟩
  have hP : va_P D vwCl (wX9_lookOf cy aM qM vM vM_counts vM_r) H := by rw [hH]; exact hP
  have hS : va_S A s.heap H locs := by rw [hH, hlc]; exact hS
  rw [show W p l e _ s m _ below meth c s.heap [] = W p l e _ s m _ below meth c H locs from by rw [hH, hlc]]
  refine lv_iconst (v := 0) hx hb dX9_lookOf_0 (by decide) ?_
  refine lv_istore_n (lv' := [(1, .int 0), (0, .ref aM)]) hx hb dX9_lookOf_1 rfl hl (by decide) rfl (fun ls hl => ?_)
  refine lv_iconst (v := 0) hx hb dX9_lookOf_2 (by decide) ?_
  refine lv_istore_n (lv' := [(2, .int 0), (1, .int 0), (0, .ref aM)]) hx hb dX9_lookOf_3 rfl hl (by decide) rfl (fun ls hl => ?_)
  exact L4 5000 (0 : Int32) vM_counts H locs ls hP hD hS (lv_sub hl [2, 1, 0] rfl) hok
def wsX9_look : List Cond := .code yX9_look cX9_look 1 (some .int) :: W0
abbrev wX9_look (cy : Nat → ClassId) (aM : Nat) (qM : Nat → Nat) (vM : Nat → Int32) (vM_counts : Nat → Int32) (vM_r : Nat → Int32) : va_W := [(aM, oX9 vM qM), (qM 24, rI cy 1200 vM_counts), (qM 15, rI cy 224 vM_r)]
set_option maxHeartbeats 4000000 in
set_option maxRecDepth 100000 in
theorem kX9_look (l : Launch) (D : va_G) (cy : Nat → ClassId) (sz : Nat) (aM : Nat) (qM : Nat → Nat) (vM : Nat → Int32) (vM_counts : Nat → Int32) (vM_r : Nat → Int32) (zr : Int32) (z_vM : Nat → Int32) (z_vM_counts : Nat → Int32) (hok : fX9_look vM vM_counts vM_r = some (zr, z_vM, z_vM_counts)) (A : Nat → Prop) (hAe : va_A (wX9_look cy aM qM vM vM_counts vM_r) sz = A) : Met l yX9_look wsX9_look ({ frames := 2, cells := 0, slots := 0, locals := 50 } : Room) (kPre D cy [.ref aM] (wX9_look cy aM qM vM vM_counts vM_r) sz) (kQi D cy zr A (wX9_look cy aM qM z_vM z_vM_counts vM_r)) 0 0 A := by
  refine Met.ofW (cc := cX9_look) (maxL := 1) (ret := (some .int)) (by decide) rfl ?_
  intro p e s m args below meth c s₁ B hml hv
  obtain ⟨rfl, hsz, hP, hK, hD0, hN⟩ := hv
  have hx := B.exec
  have hb := B.bytes
  have hr := B.returns
  have ht0 : ∀ w ∈ W0, w.before _ s = true := fun w h => atoms_spec (ws := wsX9_look) B.pre w (List.mem_cons_of_mem _ h)
  have hown : s.vm.findClass RX9 = some m.cls := findClass_of_methodNamed B.named
  have hlocks := B.notSynchronized
  subst hsz
  have hD : va_D A (wX9_look cy aM qM vM vM_counts vM_r) := by rw [← hAe]; exact hD0.self
  have hA : ∀ q : Nat, s.heap.size ≤ q → A q := fun q h => by rw [← hAe]; exact Or.inr h
  have hS : va_S A s.heap s.heap [] := va_S.rf
  have hl := lv_entry ([.ref aM]) (n := 1) (Nat.le_of_ble_eq_true rfl)
  rw [lg_entry_eq]
  generalize (lg_sl ([.ref aM]) ++ List.replicate (1 - (lg_sl ([.ref aM])).length) Slot.unset).toArray = ls at hl ⊢
  have hl : lv_has ls 1 [(0, .ref aM)] := hl
  generalize hQe : MQ below (kQi D cy zr A (wX9_look cy aM qM z_vM z_vM_counts vM_r)) ([.ref aM] : List Value).toArray s 0 0 A = Q
  have J23 : ∀ (t0_23 : Int32) (vM_counts_23 : Nat → Int32) (vM_23 : Nat → Int32), ∀ (H : Heap) (locs : List Loc) (ls : Array Slot), va_P D vwCl (wX9_look cy aM qM vM_23 vM_counts_23 vM_r) H → va_D A (wX9_look cy aM qM vM_23 vM_counts_23 vM_r) → va_S A s.heap H locs → lv_has ls 1 [] → fX9_look_J23 t0_23 vM_counts_23 vM_23 = some (zr, z_vM, z_vM_counts) → W p l e ({ frames := 2, cells := 0, slots := 0, locals := 50 } : Room) s m ([.ref aM] : List Value).toArray below meth c H locs 0 0 Q (F0 m 23 ls [.int t0_23]) := by
    intro t0_23 vM_counts_23 vM_23 H locs ls hP hD hS hl hok
    unfold fX9_look_J23 at hok
    cases hok
    subst hQe; exact W.iret hx hb hr (fun t ht hW => ⟨⟨_, (), rfl, rfl, by rw [ht]; exact hP, va_K.moved hW.alike hK, hD⟩, hS.F ht⟩) hS.2.2 dX9_look_23
  unfold fX9_look at hok
  obtain ⟨H, hH⟩ : ∃ H, H = s.heap := ⟨_, rfl⟩
  obtain ⟨locs, hlc⟩ : ∃ x : List Loc, x = [] := ⟨_, rfl⟩
  have hP : va_P D vwCl (wX9_look cy aM qM vM vM_counts vM_r) H := by rw [hH]; exact hP
  have hS : va_S A s.heap H locs := by rw [hH, hlc]; exact hS
  rw [show W p l e _ s m _ below meth c s.heap [] = W p l e _ s m _ below meth c H locs from by rw [hH, hlc]]
  refine lv_aload_n hx hb dX9_look_0 rfl (lv_at hl 0 rfl) ?_
  obtain ⟨vM_1, hc1, hok⟩ := k_bind hok
  refine kCv (wc := (wX9_good cy aM qM vM)) (wc2 := (wX9_good cy aM qM vM_1)) (wr := [(qM 24, rI cy 1200 vM_counts), (qM 15, rI cy 224 vM_r)]) (ws2 := (wX9_look cy aM qM vM_1 vM_counts vM_r)) (kRunV (As := []) (rest := []) ⟨hx, hb, hml, hown, ht0⟩ (kX9_good l D cy _ aM qM vM vM_1 hc1 _ rfl) (cwV 0 ht0 (gV wd870 wd871 wd872 wd744 wd873) rfl rfl rfl (by decide +kernel) ⟨Nat.le_of_ble_eq_true rfl, Nat.le_of_ble_eq_true rfl⟩) hK hN hP hD [0] rfl (by decide) 0 8 rfl rfl rfl hl.1 rfl (Nat.le_of_ble_eq_true rfl) dX9_look_1 ⟨Nat.zero_le _, Nat.zero_le _⟩) hP hD hS hA [0] [1, 2] rfl rfl (by decide) (by decide) [2, 0, 1] (by decide) rfl rfl (fun H locs hP hD hS => ?_)
  refine lv_aload_n hx hb dX9_look_4 rfl (lv_at hl 0 rfl) ?_
  refine va_get (D := D) (ci := 8) (v := .int (vM_1 14)) (C := RX9) (T := TX9) (N := 29) hx hb ht0 niX9 hown hK hP 0 rfl rfl 14 (by decide) (ht0 _ wd855) (fun _ h9 => h9) rfl dX9_look_5 ?_
  refine lv_if_eq (tgt := 18) hx hb dX9_look_8 (by decide) (fun c8 => ?_) (fun c8 => ?_)
  · have hok := k_pos c8 hok
    refine lv_aload_n hx hb dX9_look_18 rfl (lv_at hl 0 rfl) ?_
    refine lv_iconst (v := 1) hx hb dX9_look_19 (by decide) ?_
    obtain ⟨⟨r20, vM_20⟩, hc20, hok⟩ := k_bind hok
    try dsimp only at hok
    refine kCi (wc := (wX9_no cy aM qM vM_1)) (wc2 := (wX9_no cy aM qM vM_20)) (wr := [(qM 24, rI cy 1200 vM_counts), (qM 15, rI cy 224 vM_r)]) (ws2 := (wX9_look cy aM qM vM_20 vM_counts vM_r)) (kRunV (As := [.int 1]) (rest := []) ⟨hx, hb, hml, hown, ht0⟩ (kX9_no l D cy _ aM qM vM_1 (1 : Int32) r20 vM_20 hc20 _ rfl) (cwV 1 ht0 (gV wd862 wd863 wd864 wd744 wd865) rfl rfl rfl (by decide +kernel) ⟨Nat.le_of_ble_eq_true rfl, Nat.le_of_ble_eq_true rfl⟩) hK hN hP hD [0] rfl (by decide) 0 8 rfl rfl rfl hl.1 rfl (Nat.le_of_ble_eq_true rfl) dX9_look_20 ⟨Nat.zero_le _, Nat.zero_le _⟩) hP hD hS hA [0] [1, 2] rfl rfl (by decide) (by decide) [2, 0, 1] (by decide) rfl rfl (fun H locs hP hD hS => ?_)
    exact J23 r20 vM_counts vM_20 H locs ls hP hD hS (lv_sub hl [] rfl) hok
  · have hok := k_neg c8 hok
    refine lv_aload_n hx hb dX9_look_11 rfl (lv_at hl 0 rfl) ?_
    obtain ⟨⟨r12, vM_12, vM_counts_12⟩, hc12, hok⟩ := k_bind hok
    try dsimp only at hok
    refine kCi (wc := (wX9_lookOf cy aM qM vM_1 vM_counts vM_r)) (wc2 := (wX9_lookOf cy aM qM vM_12 vM_counts_12 vM_r)) (wr := []) (ws2 := (wX9_look cy aM qM vM_12 vM_counts_12 vM_r)) (kRunV (As := []) (rest := []) ⟨hx, hb, hml, hown, ht0⟩ (kX9_lookOf l D cy _ aM qM vM_1 vM_counts vM_r r12 vM_12 vM_counts_12 hc12 _ rfl) (cwV 0 ht0 (gV wd996 wd997 wd998 wd744 wd999) rfl rfl rfl (by decide +kernel) ⟨Nat.le_of_ble_eq_true rfl, Nat.le_of_ble_eq_true rfl⟩) hK hN hP hD [0, 1, 2] rfl (by decide) 0 8 rfl rfl rfl hl.1 rfl (Nat.le_of_ble_eq_true rfl) dX9_look_12 ⟨Nat.zero_le _, Nat.zero_le _⟩) hP hD hS hA [0, 1, 2] [] rfl rfl (by decide) (by decide) [0, 1, 2] (by decide) rfl rfl (fun H locs hP hD hS => ?_)
    refine lv_goto (tgt := 23) hx hb dX9_look_15 (by decide) ?_
    exact J23 r12 vM_counts_12 vM_12 H locs ls hP hD hS (lv_sub hl [] rfl) hok
def wsX9_lookLeaves : List Cond := .code yX9_lookLeaves cX9_lookLeaves 1 (some .int) :: W0
abbrev wX9_lookLeaves (cy : Nat → ClassId) (aM : Nat) (qM : Nat → Nat) (vM : Nat → Int32) (vM_counts : Nat → Int32) (vM_r : Nat → Int32) : va_W := [(aM, oX9 vM qM), (qM 24, rI cy 1200 vM_counts), (qM 15, rI cy 224 vM_r)]
set_option maxHeartbeats 4000000 in
set_option maxRecDepth 100000 in
theorem kX9_lookLeaves (l : Launch) (D : va_G) (cy : Nat → ClassId) (sz : Nat) (aM : Nat) (qM : Nat → Nat) (vM : Nat → Int32) (vM_counts : Nat → Int32) (vM_r : Nat → Int32) (zr : Int32) (z_vM : Nat → Int32) (z_vM_counts : Nat → Int32) (hok : fX9_lookLeaves vM vM_counts vM_r = some (zr, z_vM, z_vM_counts)) (A : Nat → Prop) (hAe : va_A (wX9_lookLeaves cy aM qM vM vM_counts vM_r) sz = A) : Met l yX9_lookLeaves wsX9_lookLeaves ({ frames := 2, cells := 0, slots := 0, locals := 50 } : Room) (kPre D cy [.ref aM] (wX9_lookLeaves cy aM qM vM vM_counts vM_r) sz) (kQi D cy zr A (wX9_lookLeaves cy aM qM z_vM z_vM_counts vM_r)) 0 0 A := by
  refine Met.ofW (cc := cX9_lookLeaves) (maxL := 1) (ret := (some .int)) (by decide) rfl ?_
  intro p e s m args below meth c s₁ B hml hv
  obtain ⟨rfl, hsz, hP, hK, hD0, hN⟩ := hv
  have hx := B.exec
  have hb := B.bytes
  have hr := B.returns
  have ht0 : ∀ w ∈ W0, w.before _ s = true := fun w h => atoms_spec (ws := wsX9_lookLeaves) B.pre w (List.mem_cons_of_mem _ h)
  have hown : s.vm.findClass RX9 = some m.cls := findClass_of_methodNamed B.named
  have hlocks := B.notSynchronized
  subst hsz
  have hD : va_D A (wX9_lookLeaves cy aM qM vM vM_counts vM_r) := by rw [← hAe]; exact hD0.self
  have hA : ∀ q : Nat, s.heap.size ≤ q → A q := fun q h => by rw [← hAe]; exact Or.inr h
  have hS : va_S A s.heap s.heap [] := va_S.rf
  have hl := lv_entry ([.ref aM]) (n := 1) (Nat.le_of_ble_eq_true rfl)
  rw [lg_entry_eq]
  generalize (lg_sl ([.ref aM]) ++ List.replicate (1 - (lg_sl ([.ref aM])).length) Slot.unset).toArray = ls at hl ⊢
  have hl : lv_has ls 1 [(0, .ref aM)] := hl
  unfold fX9_lookLeaves at hok
  obtain ⟨H, hH⟩ : ∃ H, H = s.heap := ⟨_, rfl⟩
  obtain ⟨locs, hlc⟩ : ∃ x : List Loc, x = [] := ⟨_, rfl⟩
  have hP : va_P D vwCl (wX9_lookLeaves cy aM qM vM vM_counts vM_r) H := by rw [hH]; exact hP
  have hS : va_S A s.heap H locs := by rw [hH, hlc]; exact hS
  rw [show W p l e _ s m _ below meth c s.heap [] = W p l e _ s m _ below meth c H locs from by rw [hH, hlc]]
  refine lv_aload_n hx hb dX9_lookLeaves_0 rfl (lv_at hl 0 rfl) ?_
  obtain ⟨vM_1, hc1, hok⟩ := k_bind hok
  refine kCv (wc := (wX9_good cy aM qM vM)) (wc2 := (wX9_good cy aM qM vM_1)) (wr := [(qM 24, rI cy 1200 vM_counts), (qM 15, rI cy 224 vM_r)]) (ws2 := (wX9_lookLeaves cy aM qM vM_1 vM_counts vM_r)) (kRunV (As := []) (rest := []) ⟨hx, hb, hml, hown, ht0⟩ (kX9_good l D cy _ aM qM vM vM_1 hc1 _ rfl) (cwV 0 ht0 (gV wd870 wd871 wd872 wd744 wd873) rfl rfl rfl (by decide +kernel) ⟨Nat.le_of_ble_eq_true rfl, Nat.le_of_ble_eq_true rfl⟩) hK hN hP hD [0] rfl (by decide) 0 8 rfl rfl rfl hl.1 rfl (Nat.le_of_ble_eq_true rfl) dX9_lookLeaves_1 ⟨Nat.zero_le _, Nat.zero_le _⟩) hP hD hS hA [0] [1, 2] rfl rfl (by decide) (by decide) [2, 0, 1] (by decide) rfl rfl (fun H locs hP hD hS => ?_)
  refine lv_aload_n hx hb dX9_lookLeaves_4 rfl (lv_at hl 0 rfl) ?_
  refine va_get (D := D) (ci := 8) (v := .int (vM_1 14)) (C := RX9) (T := TX9) (N := 29) hx hb ht0 niX9 hown hK hP 0 rfl rfl 14 (by decide) (ht0 _ wd855) (fun _ h9 => h9) rfl dX9_lookLeaves_5 ?_
  refine lv_if_ne (tgt := 17) hx hb dX9_lookLeaves_8 (by decide) (fun c8 => ?_) (fun c8 => ?_)
  · have hok := k_neg c8 hok
    refine lv_aload_n hx hb dX9_lookLeaves_17 rfl (lv_at hl 0 rfl) ?_
    obtain ⟨⟨r18, vM_18, vM_counts_18⟩, hc18, hok⟩ := k_bind hok
    try dsimp only at hok
    refine kCi (wc := (wX9_lookOf cy aM qM vM_1 vM_counts vM_r)) (wc2 := (wX9_lookOf cy aM qM vM_18 vM_counts_18 vM_r)) (wr := []) (ws2 := (wX9_lookLeaves cy aM qM vM_18 vM_counts_18 vM_r)) (kRunV (As := []) (rest := []) ⟨hx, hb, hml, hown, ht0⟩ (kX9_lookOf l D cy _ aM qM vM_1 vM_counts vM_r r18 vM_18 vM_counts_18 hc18 _ rfl) (cwV 0 ht0 (gV wd996 wd997 wd998 wd744 wd999) rfl rfl rfl (by decide +kernel) ⟨Nat.le_of_ble_eq_true rfl, Nat.le_of_ble_eq_true rfl⟩) hK hN hP hD [0, 1, 2] rfl (by decide) 0 8 rfl rfl rfl hl.1 rfl (Nat.le_of_ble_eq_true rfl) dX9_lookLeaves_18 ⟨Nat.zero_le _, Nat.zero_le _⟩) hP hD hS hA [0, 1, 2] [] rfl rfl (by decide) (by decide) [0, 1, 2] (by decide) rfl rfl (fun H locs hP hD hS => ?_)
    refine lv_pop hx hb dX9_lookLeaves_21 rfl ?_
    refine lv_aload_n hx hb dX9_lookLeaves_22 rfl (lv_at hl 0 rfl) ?_
    refine va_get (D := D) (ci := 8) (v := .int (vM_18 25)) (C := RX9) (T := TX9) (N := 29) hx hb ht0 niX9 hown hK hP 0 rfl rfl 25 (by decide) (ht0 _ wd994) (fun _ h9 => h9) rfl dX9_lookLeaves_23 ?_
    cases hok
    exact W.iret hx hb hr (fun t ht hW => ⟨⟨_, (), rfl, rfl, by rw [ht]; exact hP, va_K.moved hW.alike hK, hD⟩, hS.F ht⟩) hS.2.2 dX9_lookLeaves_26
  · have hok := k_pos c8 hok
    refine lv_aload_n hx hb dX9_lookLeaves_11 rfl (lv_at hl 0 rfl) ?_
    refine lv_iconst (v := 1) hx hb dX9_lookLeaves_12 (by decide) ?_
    obtain ⟨⟨r13, vM_13⟩, hc13, hok⟩ := k_bind hok
    try dsimp only at hok
    refine kCi (wc := (wX9_no cy aM qM vM_1)) (wc2 := (wX9_no cy aM qM vM_13)) (wr := [(qM 24, rI cy 1200 vM_counts), (qM 15, rI cy 224 vM_r)]) (ws2 := (wX9_lookLeaves cy aM qM vM_13 vM_counts vM_r)) (kRunV (As := [.int 1]) (rest := []) ⟨hx, hb, hml, hown, ht0⟩ (kX9_no l D cy _ aM qM vM_1 (1 : Int32) r13 vM_13 hc13 _ rfl) (cwV 1 ht0 (gV wd862 wd863 wd864 wd744 wd865) rfl rfl rfl (by decide +kernel) ⟨Nat.le_of_ble_eq_true rfl, Nat.le_of_ble_eq_true rfl⟩) hK hN hP hD [0] rfl (by decide) 0 8 rfl rfl rfl hl.1 rfl (Nat.le_of_ble_eq_true rfl) dX9_lookLeaves_13 ⟨Nat.zero_le _, Nat.zero_le _⟩) hP hD hS hA [0] [1, 2] rfl rfl (by decide) (by decide) [2, 0, 1] (by decide) rfl rfl (fun H locs hP hD hS => ?_)
    cases hok
    exact W.iret hx hb hr (fun t ht hW => ⟨⟨_, (), rfl, rfl, by rw [ht]; exact hP, va_K.moved hW.alike hK, hD⟩, hS.F ht⟩) hS.2.2 dX9_lookLeaves_16
def wsX9_heirOf : List Cond := .code yX9_heirOf cX9_heirOf 3 (some .int) :: W0
abbrev wX9_heirOf (cy : Nat → ClassId)  : va_W := []
set_option maxHeartbeats 4000000 in
set_option maxRecDepth 100000 in
theorem kX9_heirOf (l : Launch) (D : va_G) (cy : Nat → ClassId) (sz : Nat) (x0 : Int32) (x1 : Int32) (x2 : Int32) (zr : Int32) (hok : fX9_heirOf x0 x1 x2 = some zr) (A : Nat → Prop) (hAe : va_A (wX9_heirOf cy ) sz = A) : Met l yX9_heirOf wsX9_heirOf ({ frames := 0, cells := 0, slots := 0, locals := 0 } : Room) (kPre D cy [.int x0, .int x1, .int x2] (wX9_heirOf cy ) sz) (kQi D cy zr A (wX9_heirOf cy )) 0 0 A := by
  refine Met.ofW (cc := cX9_heirOf) (maxL := 3) (ret := (some .int)) (by decide) rfl ?_
  intro p e s m args below meth c s₁ B hml hv
  obtain ⟨rfl, hsz, hP, hK, hD0, hN⟩ := hv
  have hx := B.exec
  have hb := B.bytes
  have hr := B.returns
  have ht0 : ∀ w ∈ W0, w.before _ s = true := fun w h => atoms_spec (ws := wsX9_heirOf) B.pre w (List.mem_cons_of_mem _ h)
  have hown : s.vm.findClass RX9 = some m.cls := findClass_of_methodNamed B.named
  have hlocks := B.notSynchronized
  subst hsz
  have hD : va_D A (wX9_heirOf cy ) := by rw [← hAe]; exact hD0.self
  have hA : ∀ q : Nat, s.heap.size ≤ q → A q := fun q h => by rw [← hAe]; exact Or.inr h
  have hS : va_S A s.heap s.heap [] := va_S.rf
  have hl := lv_entry ([.int x0, .int x1, .int x2]) (n := 3) (Nat.le_of_ble_eq_true rfl)
  rw [lg_entry_eq]
  generalize (lg_sl ([.int x0, .int x1, .int x2]) ++ List.replicate (3 - (lg_sl ([.int x0, .int x1, .int x2])).length) Slot.unset).toArray = ls at hl ⊢
  have hl : lv_has ls 3 [(0, .int x0), (1, .int x1), (2, .int x2)] := hl
  generalize hQe : MQ below (kQi D cy zr A (wX9_heirOf cy )) ([.int x0, .int x1, .int x2] : List Value).toArray s 0 0 A = Q
  have J21 : ∀ (t0_21 : Int32), ∀ (H : Heap) (locs : List Loc) (ls : Array Slot), va_P D vwCl (wX9_heirOf cy ) H → va_D A (wX9_heirOf cy ) → va_S A s.heap H locs → lv_has ls 3 [(1, .int x1)] → fX9_heirOf_J21 x1 t0_21 = some zr → W p l e ({ frames := 0, cells := 0, slots := 0, locals := 0 } : Room) s m ([.int x0, .int x1, .int x2] : List Value).toArray below meth c H locs 0 0 Q (F0 m 21 ls [.int t0_21]) := by
    intro t0_21 H locs ls hP hD hS hl hok
    unfold fX9_heirOf_J21 at hok
    refine lv_iload_n hx hb dX9_heirOf_21 rfl (lv_at hl 0 rfl) ?_
    refine lv_iload_n hx hb dX9_heirOf_22 rfl (lv_at hl 0 rfl) ?_
    refine lv_imul hx hb dX9_heirOf_23 ?_
    refine lv_isub hx hb dX9_heirOf_24 ?_
    cases hok
    subst hQe; exact W.iret hx hb hr (fun t ht hW => ⟨⟨_, (), rfl, rfl, by rw [ht]; exact hP, va_K.moved hW.alike hK, hD⟩, hS.F ht⟩) hS.2.2 dX9_heirOf_25
  unfold fX9_heirOf at hok
  obtain ⟨H, hH⟩ : ∃ H, H = s.heap := ⟨_, rfl⟩
  obtain ⟨locs, hlc⟩ : ∃ x : List Loc, x = [] := ⟨_, rfl⟩
  have hP : va_P D vwCl (wX9_heirOf cy ) H := by rw [hH]; exact hP
  have hS : va_S A s.heap H locs := by rw [hH, hlc]; exact hS
  rw [show W p l e _ s m _ below meth c s.heap [] = W p l e _ s m _ below meth c H locs from by rw [hH, hlc]]
  refine lv_iload_n hx hb dX9_heirOf_0 rfl (lv_at hl 1 rfl) ?_
  refine lv_iload_n hx hb dX9_heirOf_1 rfl (lv_at hl 2 rfl) ?_
  refine lv_icmp_le (tgt := 9) hx hb dX9_heirOf_2 (by decide) (fun c2 => ?_) (fun c2 => ?_)
  · have hok := k_pos c2 hok
    refine lv_iload_n hx hb dX9_heirOf_9 rfl (lv_at hl 1 rfl) ?_
    refine lv_iload_n hx hb dX9_heirOf_10 rfl (lv_at hl 2 rfl) ?_
    refine lv_icmp_ne (tgt := 20) hx hb dX9_heirOf_11 (by decide) (fun c11 => ?_) (fun c11 => ?_)
    · have hok := k_neg c11 hok
      refine lv_iconst (v := 0) hx hb dX9_heirOf_20 (by decide) ?_
      exact J21 (0 : Int32) H locs ls hP hD hS (lv_sub hl [1] rfl) hok
    · have hok := k_pos c11 hok
      refine lv_iload_n hx hb dX9_heirOf_14 rfl (lv_at hl 0 rfl) ?_
      refine lv_iconst (v := 2) hx hb dX9_heirOf_15 (by decide) ?_
      refine lv_idiv hx hb dX9_heirOf_16 (by decide) ?_
      refine lv_goto (tgt := 21) hx hb dX9_heirOf_17 (by decide) ?_
      exact J21 (x0 / (2 : Int32)) H locs ls hP hD hS (lv_sub hl [1] rfl) hok
  · have hok := k_neg c2 hok
    refine lv_iload_n hx hb dX9_heirOf_5 rfl (lv_at hl 0 rfl) ?_
    refine lv_goto (tgt := 21) hx hb dX9_heirOf_6 (by decide) ?_
    exact J21 x0 H locs ls hP hD hS (lv_sub hl [1] rfl) hok
def wsX9_heir : List Cond := .code yX9_heir cX9_heir 6 (some .int) :: W0
abbrev wX9_heir (cy : Nat → ClassId) (aM : Nat) (qM : Nat → Nat) (vM : Nat → Int32) : va_W := [(aM, oX9 vM qM)]
set_option maxHeartbeats 4000000 in
set_option maxRecDepth 100000 in
theorem kX9_heir (l : Launch) (D : va_G) (cy : Nat → ClassId) (sz : Nat) (aM : Nat) (qM : Nat → Nat) (vM : Nat → Int32) (x1 : Int32) (x2 : Int32) (x3 : Int32) (x4 : Int32) (zr : Int32) (z_vM : Nat → Int32) (hok : fX9_heir vM x1 x2 x3 x4 = some (zr, z_vM)) (A : Nat → Prop) (hAe : va_A (wX9_heir cy aM qM vM) sz = A) : Met l yX9_heir wsX9_heir ({ frames := 2, cells := 0, slots := 0, locals := 45 } : Room) (kPre D cy [.ref aM, .int x1, .int x2, .int x3, .int x4] (wX9_heir cy aM qM vM) sz) (kQi D cy zr A (wX9_heir cy aM qM z_vM)) 0 0 A := by
  refine Met.ofW (cc := cX9_heir) (maxL := 6) (ret := (some .int)) (by decide) rfl ?_
  intro p e s m args below meth c s₁ B hml hv
  obtain ⟨rfl, hsz, hP, hK, hD0, hN⟩ := hv
  have hx := B.exec
  have hb := B.bytes
  have hr := B.returns
  have ht0 : ∀ w ∈ W0, w.before _ s = true := fun w h => atoms_spec (ws := wsX9_heir) B.pre w (List.mem_cons_of_mem _ h)
  have hown : s.vm.findClass RX9 = some m.cls := findClass_of_methodNamed B.named
  have hlocks := B.notSynchronized
  subst hsz
  have hD : va_D A (wX9_heir cy aM qM vM) := by rw [← hAe]; exact hD0.self
  have hA : ∀ q : Nat, s.heap.size ≤ q → A q := fun q h => by rw [← hAe]; exact Or.inr h
  have hS : va_S A s.heap s.heap [] := va_S.rf
  have hl := lv_entry ([.ref aM, .int x1, .int x2, .int x3, .int x4]) (n := 6) (Nat.le_of_ble_eq_true rfl)
  rw [lg_entry_eq]
  generalize (lg_sl ([.ref aM, .int x1, .int x2, .int x3, .int x4]) ++ List.replicate (6 - (lg_sl ([.ref aM, .int x1, .int x2, .int x3, .int x4])).length) Slot.unset).toArray = ls at hl ⊢
  have hl : lv_has ls 6 [(0, .ref aM), (1, .int x1), (2, .int x2), (3, .int x3), (4, .int x4)] := hl
  generalize hQe : MQ below (kQi D cy zr A (wX9_heir cy aM qM z_vM)) ([.ref aM, .int x1, .int x2, .int x3, .int x4] : List Value).toArray s 0 0 A = Q
  have J70 : ∀ (t0_70 : Int32) (vM_70 : Nat → Int32), ∀ (H : Heap) (locs : List Loc) (ls : Array Slot), va_P D vwCl (wX9_heir cy aM qM vM_70) H → va_D A (wX9_heir cy aM qM vM_70) → va_S A s.heap H locs → lv_has ls 6 [] → fX9_heir_J70 t0_70 vM_70 = some (zr, z_vM) → W p l e ({ frames := 2, cells := 0, slots := 0, locals := 45 } : Room) s m ([.ref aM, .int x1, .int x2, .int x3, .int x4] : List Value).toArray below meth c H locs 0 0 Q (F0 m 70 ls [.int t0_70]) := by
    intro t0_70 vM_70 H locs ls hP hD hS hl hok
    unfold fX9_heir_J70 at hok
    cases hok
    subst hQe; exact W.iret hx hb hr (fun t ht hW => ⟨⟨_, (), rfl, rfl, by rw [ht]; exact hP, va_K.moved hW.alike hK, hD⟩, hS.F ht⟩) hS.2.2 dX9_heir_70
  have J45 : ∀ (y5_45 : Int32) (vM_45 : Nat → Int32), ∀ (H : Heap) (locs : List Loc) (ls : Array Slot), va_P D vwCl (wX9_heir cy aM qM vM_45) H → va_D A (wX9_heir cy aM qM vM_45) → va_S A s.heap H locs → lv_has ls 6 [(0, .ref aM), (1, .int x1), (2, .int x2), (3, .int x3), (4, .int x4), (5, .int y5_45)] → fX9_heir_J45 x1 x2 x3 x4 y5_45 vM_45 = some (zr, z_vM) → W p l e ({ frames := 2, cells := 0, slots := 0, locals := 45 } : Room) s m ([.ref aM, .int x1, .int x2, .int x3, .int x4] : List Value).toArray below meth c H locs 0 0 Q (F0 m 45 ls []) := by
    intro y5_45 vM_45 H locs ls hP hD hS hl hok
    unfold fX9_heir_J45 at hok
    refine lv_iload hx hb dX9_heir_45 (lv_at hl 5 rfl) ?_
    refine lv_if_ne (tgt := 71) hx hb dX9_heir_47 (by decide) (fun c47 => ?_) (fun c47 => ?_)
    · have hok := k_neg c47 hok
      refine lv_aload_n hx hb dX9_heir_71 rfl (lv_at hl 0 rfl) ?_
      refine lv_iload hx hb dX9_heir_72 (lv_at hl 5 rfl) ?_
      refine va_put (D := D) (ci := 8) (v := .int y5_45) (ty := .int) (C := RX9) (T := TX9) (N := 29) hx hb ht0 niX9 tyX9 tyX9_ok nmX9 hown hK hP hD hS 0 rfl rfl 11 (by decide) (ht0 _ wd736) (fun _ h9 => h9) rfl (by decide +kernel) rfl rfl (Nat.le_of_ble_eq_true rfl) dX9_heir_74 (fun H locs hP hD hS => ?_)
      have hP : va_P D vwCl (wX9_heir cy aM qM (upd vM_45 11 y5_45)) H := hP
      have hD : va_D A (wX9_heir cy aM qM (upd vM_45 11 y5_45)) := hD
      refine lv_bipush (v := -100) hx hb dX9_heir_77 (by decide) ?_
      cases hok
      subst hQe; exact W.iret hx hb hr (fun t ht hW => ⟨⟨_, (), rfl, rfl, by rw [ht]; exact hP, va_K.moved hW.alike hK, hD⟩, hS.F ht⟩) hS.2.2 dX9_heir_79
    · have hok := k_pos c47 hok
      refine lv_iload hx hb dX9_heir_50 (lv_at hl 4 rfl) ?_
      refine lv_if_eq (tgt := 64) hx hb dX9_heir_52 (by decide) (fun c52 => ?_) (fun c52 => ?_)
      · have hok := k_pos c52 hok
        refine lv_iload_n hx hb dX9_heir_64 rfl (lv_at hl 1 rfl) ?_
        refine lv_iload_n hx hb dX9_heir_65 rfl (lv_at hl 2 rfl) ?_
        refine lv_iload_n hx hb dX9_heir_66 rfl (lv_at hl 3 rfl) ?_
        obtain ⟨r67, hc67, hok⟩ := k_bind hok
        refine kCi (wc := (wX9_heirOf cy )) (wc2 := (wX9_heirOf cy )) (wr := [(aM, oX9 vM_45 qM)]) (ws2 := (wX9_heir cy aM qM vM_45)) (kRunS (As := [.int x1, .int x2, .int x3]) (rest := []) ⟨hx, hb, hml, hown, ht0⟩ (kX9_heirOf l D cy _ x1 x2 x3 r67 hc67 _ rfl) (va_cwS 3 ht0 (gS wd1000 wd1001 wd744 wd1002) rfl rfl rfl (by decide +kernel) ⟨Nat.le_of_ble_eq_true rfl, Nat.le_of_ble_eq_true rfl⟩) hK hN hP hD [] rfl (by decide) rfl hl.1 rfl (Nat.le_of_ble_eq_true rfl) dX9_heir_67 ⟨Nat.zero_le _, Nat.zero_le _⟩) hP hD hS hA [] [0] rfl rfl (by decide) (by decide) [0] (by decide) rfl rfl (fun H locs hP hD hS => ?_)
        exact J70 r67 vM_45 H locs ls hP hD hS (lv_sub hl [] rfl) hok
      · have hok := k_neg c52 hok
        refine lv_iload_n hx hb dX9_heir_55 rfl (lv_at hl 1 rfl) ?_
        refine lv_iload_n hx hb dX9_heir_56 rfl (lv_at hl 3 rfl) ?_
        refine lv_iload_n hx hb dX9_heir_57 rfl (lv_at hl 2 rfl) ?_
        obtain ⟨r58, hc58, hok⟩ := k_bind hok
        refine kCi (wc := (wX9_heirOf cy )) (wc2 := (wX9_heirOf cy )) (wr := [(aM, oX9 vM_45 qM)]) (ws2 := (wX9_heir cy aM qM vM_45)) (kRunS (As := [.int x1, .int x3, .int x2]) (rest := []) ⟨hx, hb, hml, hown, ht0⟩ (kX9_heirOf l D cy _ x1 x3 x2 r58 hc58 _ rfl) (va_cwS 3 ht0 (gS wd1000 wd1001 wd744 wd1002) rfl rfl rfl (by decide +kernel) ⟨Nat.le_of_ble_eq_true rfl, Nat.le_of_ble_eq_true rfl⟩) hK hN hP hD [] rfl (by decide) rfl hl.1 rfl (Nat.le_of_ble_eq_true rfl) dX9_heir_58 ⟨Nat.zero_le _, Nat.zero_le _⟩) hP hD hS hA [] [0] rfl rfl (by decide) (by decide) [0] (by decide) rfl rfl (fun H locs hP hD hS => ?_)
        refine lv_goto (tgt := 70) hx hb dX9_heir_61 (by decide) ?_
        exact J70 r58 vM_45 H locs ls hP hD hS (lv_sub hl [] rfl) hok
  have J42 : ∀ (vM_42 : Nat → Int32), ∀ (H : Heap) (locs : List Loc) (ls : Array Slot), va_P D vwCl (wX9_heir cy aM qM vM_42) H → va_D A (wX9_heir cy aM qM vM_42) → va_S A s.heap H locs → lv_has ls 6 [(0, .ref aM), (1, .int x1), (2, .int x2), (3, .int x3), (4, .int x4)] → fX9_heir_J42 x1 x2 x3 x4 vM_42 = some (zr, z_vM) → W p l e ({ frames := 2, cells := 0, slots := 0, locals := 45 } : Room) s m ([.ref aM, .int x1, .int x2, .int x3, .int x4] : List Value).toArray below meth c H locs 0 0 Q (F0 m 42 ls []) := by
    intro vM_42 H locs ls hP hD hS hl hok
    unfold fX9_heir_J42 at hok
    refine lv_iconst (v := 2) hx hb dX9_heir_42 (by decide) ?_
    refine lv_istore (lv' := [(5, .int 2), (0, .ref aM), (1, .int x1), (2, .int x2), (3, .int x3), (4, .int x4)]) hx hb dX9_heir_43 hl (by decide) rfl (fun ls hl => ?_)
    exact J45 (2 : Int32) vM_42 H locs ls hP hD hS (lv_sub hl [1, 2, 3, 4, 5, 0] rfl) hok
  unfold fX9_heir at hok
  obtain ⟨H, hH⟩ : ∃ H, H = s.heap := ⟨_, rfl⟩
  obtain ⟨locs, hlc⟩ : ∃ x : List Loc, x = [] := ⟨_, rfl⟩
  have hP : va_P D vwCl (wX9_heir cy aM qM vM) H := by rw [hH]; exact hP
  have hS : va_S A s.heap H locs := by rw [hH, hlc]; exact hS
  rw [show W p l e _ s m _ below meth c s.heap [] = W p l e _ s m _ below meth c H locs from by rw [hH, hlc]]
  refine lv_aload_n hx hb dX9_heir_0 rfl (lv_at hl 0 rfl) ?_
  obtain ⟨vM_1, hc1, hok⟩ := k_bind hok
  refine kCv (wc := (wX9_good cy aM qM vM)) (wc2 := (wX9_good cy aM qM vM_1)) (wr := []) (ws2 := (wX9_heir cy aM qM vM_1)) (kRunV (As := []) (rest := []) ⟨hx, hb, hml, hown, ht0⟩ (kX9_good l D cy _ aM qM vM vM_1 hc1 _ rfl) (cwV 0 ht0 (gV wd870 wd871 wd872 wd744 wd873) rfl rfl rfl (by decide +kernel) ⟨Nat.le_of_ble_eq_true rfl, Nat.le_of_ble_eq_true rfl⟩) hK hN hP hD [0] rfl (by decide) 0 8 rfl rfl rfl hl.1 rfl (Nat.le_of_ble_eq_true rfl) dX9_heir_1 ⟨Nat.zero_le _, Nat.zero_le _⟩) hP hD hS hA [0] [] rfl rfl (by decide) (by decide) [0] (by decide) rfl rfl (fun H locs hP hD hS => ?_)
  refine lv_aload_n hx hb dX9_heir_4 rfl (lv_at hl 0 rfl) ?_
  refine lv_aload_n hx hb dX9_heir_5 rfl (lv_at hl 0 rfl) ?_
  refine va_get (D := D) (ci := 8) (v := .int (vM_1 14)) (C := RX9) (T := TX9) (N := 29) hx hb ht0 niX9 hown hK hP 0 rfl rfl 14 (by decide) (ht0 _ wd855) (fun _ h9 => h9) rfl dX9_heir_6 ?_
  refine lv_iload_n hx hb dX9_heir_9 rfl (lv_at hl 1 rfl) ?_
  refine lv_bipush (v := 99) hx hb dX9_heir_10 (by decide) ?_
  obtain ⟨r12, hc12, hok⟩ := k_bind hok
  refine kCi (wc := (wX9_why cy aM)) (wc2 := (wX9_why cy aM)) (wr := [(aM, oX9 vM_1 qM)]) (ws2 := (wX9_heir cy aM qM vM_1)) (kRunV (As := [.int (vM_1 14), .int x1, .int 99]) (rest := []) ⟨hx, hb, hml, hown, ht0⟩ (kX9_why l D cy _ aM (vM_1 14) x1 (99 : Int32) r12 hc12 _ rfl) (cwV 3 ht0 (gV wd944 wd945 wd946 wd744 wd947) rfl rfl rfl (by decide +kernel) ⟨Nat.le_of_ble_eq_true rfl, Nat.le_of_ble_eq_true rfl⟩) hK hN hP hD [] rfl (by decide) 0 8 rfl rfl rfl hl.1 rfl (Nat.le_of_ble_eq_true rfl) dX9_heir_12 ⟨Nat.zero_le _, Nat.zero_le _⟩) hP hD hS hA [] [0] rfl rfl (by decide) (by decide) [0] (by decide) rfl rfl (fun H locs hP hD hS => ?_)
  refine lv_istore (lv' := [(5, .int r12), (0, .ref aM), (1, .int x1), (2, .int x2), (3, .int x3), (4, .int x4)]) hx hb dX9_heir_15 hl (by decide) rfl (fun ls hl => ?_)
  refine lv_iload hx hb dX9_heir_17 (lv_at hl 0 rfl) ?_
  refine lv_if_ne (tgt := 45) hx hb dX9_heir_19 (by decide) (fun c19 => ?_) (fun c19 => ?_)
  · have hok := k_neg c19 hok
    exact J45 r12 vM_1 H locs ls hP hD hS (lv_sub hl [1, 2, 3, 4, 5, 0] rfl) hok
  · have hok := k_pos c19 hok
    refine lv_iload_n hx hb dX9_heir_22 rfl (lv_at hl 3 rfl) ?_
    refine lv_iconst (v := 0) hx hb dX9_heir_23 (by decide) ?_
    refine lv_bipush (v := 6) hx hb dX9_heir_24 (by decide) ?_
    obtain ⟨r26, hc26, hok⟩ := k_bind hok
    refine kCi (wc := (wX9_in cy )) (wc2 := (wX9_in cy )) (wr := [(aM, oX9 vM_1 qM)]) (ws2 := (wX9_heir cy aM qM vM_1)) (kRunS (As := [.int x2, .int 0, .int 6]) (rest := []) ⟨hx, hb, hml, hown, ht0⟩ (kX9_in l D cy _ x2 (0 : Int32) (6 : Int32) r26 hc26 _ rfl) (va_cwS 3 ht0 (gS wd787 wd788 wd744 wd789) rfl rfl rfl (by decide +kernel) ⟨Nat.le_of_ble_eq_true rfl, Nat.le_of_ble_eq_true rfl⟩) hK hN hP hD [] rfl (by decide) rfl hl.1 rfl (Nat.le_of_ble_eq_true rfl) dX9_heir_26 ⟨Nat.zero_le _, Nat.zero_le _⟩) hP hD hS hA [] [0] rfl rfl (by decide) (by decide) [0] (by decide) rfl rfl (fun H locs hP hD hS => ?_)
    refine lv_if_eq (tgt := 42) hx hb dX9_heir_29 (by decide) (fun c29 => ?_) (fun c29 => ?_)
    · have hok := k_pos c29 hok
      exact J42 vM_1 H locs ls hP hD hS (lv_sub hl [1, 2, 3, 4, 5] rfl) hok
    · have hok := k_neg c29 hok
      refine lv_iload_n hx hb dX9_heir_32 rfl (lv_at hl 4 rfl) ?_
      refine lv_iconst (v := 0) hx hb dX9_heir_33 (by decide) ?_
      refine lv_bipush (v := 6) hx hb dX9_heir_34 (by decide) ?_
      obtain ⟨r36, hc36, hok⟩ := k_bind hok
      refine kCi (wc := (wX9_in cy )) (wc2 := (wX9_in cy )) (wr := [(aM, oX9 vM_1 qM)]) (ws2 := (wX9_heir cy aM qM vM_1)) (kRunS (As := [.int x3, .int 0, .int 6]) (rest := []) ⟨hx, hb, hml, hown, ht0⟩ (kX9_in l D cy _ x3 (0 : Int32) (6 : Int32) r36 hc36 _ rfl) (va_cwS 3 ht0 (gS wd787 wd788 wd744 wd789) rfl rfl rfl (by decide +kernel) ⟨Nat.le_of_ble_eq_true rfl, Nat.le_of_ble_eq_true rfl⟩) hK hN hP hD [] rfl (by decide) rfl hl.1 rfl (Nat.le_of_ble_eq_true rfl) dX9_heir_36 ⟨Nat.zero_le _, Nat.zero_le _⟩) hP hD hS hA [] [0] rfl rfl (by decide) (by decide) [0] (by decide) rfl rfl (fun H locs hP hD hS => ?_)
      refine lv_if_ne (tgt := 45) hx hb dX9_heir_39 (by decide) (fun c39 => ?_) (fun c39 => ?_)
      · have hok := k_neg c39 hok
        exact J45 r12 vM_1 H locs ls hP hD hS (lv_sub hl [1, 2, 3, 4, 5, 0] rfl) hok
      · have hok := k_pos c39 hok
        exact J42 vM_1 H locs ls hP hD hS (lv_sub hl [1, 2, 3, 4, 5] rfl) hok
def wsX9_isRest : List Cond := .code yX9_isRest cX9_isRest 5 (some .boolean) :: W0
abbrev wX9_isRest (cy : Nat → ClassId)  : va_W := []
set_option maxHeartbeats 4000000 in
set_option maxRecDepth 100000 in
theorem kX9_isRest (l : Launch) (D : va_G) (cy : Nat → ClassId) (sz : Nat) (x0 : Int32) (x1 : Int32) (x2 : Int32) (zr : Int32) (hok : fX9_isRest x0 x1 x2 = some zr) (A : Nat → Prop) (hAe : va_A (wX9_isRest cy ) sz = A) : Met l yX9_isRest wsX9_isRest ({ frames := 1, cells := 0, slots := 0, locals := 22 } : Room) (kPre D cy [.int x0, .int x1, .int x2] (wX9_isRest cy ) sz) (kQi D cy zr A (wX9_isRest cy )) 0 0 A := by
  refine Met.ofW (cc := cX9_isRest) (maxL := 5) (ret := (some .boolean)) (by decide) rfl ?_
  intro p e s m args below meth c s₁ B hml hv
  obtain ⟨rfl, hsz, hP, hK, hD0, hN⟩ := hv
  have hx := B.exec
  have hb := B.bytes
  have hr := B.returns
  have ht0 : ∀ w ∈ W0, w.before _ s = true := fun w h => atoms_spec (ws := wsX9_isRest) B.pre w (List.mem_cons_of_mem _ h)
  have hown : s.vm.findClass RX9 = some m.cls := findClass_of_methodNamed B.named
  have hlocks := B.notSynchronized
  subst hsz
  have hD : va_D A (wX9_isRest cy ) := by rw [← hAe]; exact hD0.self
  have hA : ∀ q : Nat, s.heap.size ≤ q → A q := fun q h => by rw [← hAe]; exact Or.inr h
  have hS : va_S A s.heap s.heap [] := va_S.rf
  have hl := lv_entry ([.int x0, .int x1, .int x2]) (n := 5) (Nat.le_of_ble_eq_true rfl)
  rw [lg_entry_eq]
  generalize (lg_sl ([.int x0, .int x1, .int x2]) ++ List.replicate (5 - (lg_sl ([.int x0, .int x1, .int x2])).length) Slot.unset).toArray = ls at hl ⊢
  have hl : lv_has ls 5 [(0, .int x0), (1, .int x1), (2, .int x2)] := hl
  generalize hQe : MQ below (kQi D cy zr A (wX9_isRest cy )) ([.int x0, .int x1, .int x2] : List Value).toArray s 0 0 A = Q
  have L5 : ∀ (fuel : Nat) (y3_5 : Int32) (y4_5 : Int32), ∀ (H : Heap) (locs : List Loc) (ls : Array Slot), va_P D vwCl (wX9_isRest cy ) H → va_D A (wX9_isRest cy ) → va_S A s.heap H locs → lv_has ls 5 [(0, .int x0), (1, .int x1), (2, .int x2), (3, .int y3_5), (4, .int y4_5)] → lp (fX9_isRest_B5 x0 x1 x2) fuel (y3_5, y4_5) = some zr → W p l e ({ frames := 1, cells := 0, slots := 0, locals := 22 } : Room) s m ([.int x0, .int x1, .int x2] : List Value).toArray below meth c H locs 0 0 Q (F0 m 5 ls []) := by
    intro fuel
    induction fuel with
    | zero => intro y3_5 y4_5 H locs ls hP hD hS hl hok; exact (lp_0 hok).elim
    | succ fuel ih5 =>
      intro y3_5 y4_5 H locs ls hP hD hS hl hok
      obtain ⟨y5, hok, hL5, hR5⟩ := lp_step hok
      have J53 : ∀ (t0_53 : Int32), ∀ (H : Heap) (locs : List Loc) (ls : Array Slot), va_P D vwCl (wX9_isRest cy ) H → va_D A (wX9_isRest cy ) → va_S A s.heap H locs → lv_has ls 5 [(0, .int x0), (1, .int x1), (2, .int x2), (4, .int y4_5)] → fX9_isRest_J53 y4_5 t0_53 = some y5 → W p l e ({ frames := 1, cells := 0, slots := 0, locals := 22 } : Room) s m ([.int x0, .int x1, .int x2] : List Value).toArray below meth c H locs 0 0 Q (F0 m 53 ls [.int t0_53]) := by
        intro t0_53 H locs ls hP hD hS hl hok
        unfold fX9_isRest_J53 at hok
        refine lv_istore_n (lv' := [(3, .int t0_53), (0, .int x0), (1, .int x1), (2, .int x2), (4, .int y4_5)]) hx hb dX9_isRest_53 rfl hl (by decide) rfl (fun ls hl => ?_)
        refine lv_iinc (v := (y4_5 + 1)) (lv' := [(4, .int (y4_5 + 1)), (3, .int t0_53), (0, .int x0), (1, .int x1), (2, .int x2)]) hx hb dX9_isRest_54 hl (k := 4) rfl (by first | rfl | decide) (by decide) rfl (fun ls hl => ?_)
        refine lv_goto (tgt := 5) hx hb dX9_isRest_57 (by decide) ?_
        exact ih5 t0_53 (y4_5 + 1) H locs ls hP hD hS (lv_sub hl [2, 3, 4, 1, 0] rfl) (hR5 _ (Option.some.inj hok).symm)
      have J52 : ∀ (H : Heap) (locs : List Loc) (ls : Array Slot), va_P D vwCl (wX9_isRest cy ) H → va_D A (wX9_isRest cy ) → va_S A s.heap H locs → lv_has ls 5 [(0, .int x0), (1, .int x1), (2, .int x2), (4, .int y4_5)] → fX9_isRest_J52 y4_5 = some y5 → W p l e ({ frames := 1, cells := 0, slots := 0, locals := 22 } : Room) s m ([.int x0, .int x1, .int x2] : List Value).toArray below meth c H locs 0 0 Q (F0 m 52 ls []) := by
        intro  H locs ls hP hD hS hl hok
        unfold fX9_isRest_J52 at hok
        refine lv_iconst (v := 0) hx hb dX9_isRest_52 (by decide) ?_
        exact J53 (0 : Int32) H locs ls hP hD hS (lv_sub hl [0, 1, 2, 3] rfl) hok
      unfold fX9_isRest_B5 at hok
      try dsimp only at hok
      refine lv_iload hx hb dX9_isRest_5 (lv_at hl 4 rfl) ?_
      refine lv_bipush (v := 6) hx hb dX9_isRest_7 (by decide) ?_
      refine lv_icmp_gt (tgt := 60) hx hb dX9_isRest_9 (by decide) (fun c9 => ?_) (fun c9 => ?_)
      · have hok := k_pos c9 hok
        obtain ⟨e5, hok, he5⟩ := ex_some hok
        have hok := hok.trans (congrArg some (hL5 _ he5))
        refine lv_iload_n hx hb dX9_isRest_60 rfl (lv_at hl 3 rfl) ?_
        obtain ⟨g61, hok⟩ := gd_some hok
        cases hok
        subst hQe; exact W.zret hx hb hr (isB_nar g61) (fun t ht hW => ⟨⟨_, (), rfl, rfl, by rw [ht]; exact hP, va_K.moved hW.alike hK, hD⟩, hS.F ht⟩) hS.2.2 dX9_isRest_61
      · have hok := k_neg c9 hok
        refine lv_iload_n hx hb dX9_isRest_12 rfl (lv_at hl 3 rfl) ?_
        refine lv_if_eq (tgt := 52) hx hb dX9_isRest_13 (by decide) (fun c13 => ?_) (fun c13 => ?_)
        · have hok := k_pos c13 hok
          exact J52  H locs ls hP hD hS (lv_sub hl [0, 1, 2, 4] rfl) hok
        · have hok := k_neg c13 hok
          refine lv_iload_n hx hb dX9_isRest_16 rfl (lv_at hl 0 rfl) ?_
          refine lv_iload hx hb dX9_isRest_17 (lv_at hl 4 rfl) ?_
          refine lv_iload_n hx hb dX9_isRest_19 rfl (lv_at hl 2 rfl) ?_
          obtain ⟨r20, hc20, hok⟩ := k_bind hok
          refine kCi (wc := (wX9_heirOf cy )) (wc2 := (wX9_heirOf cy )) (wr := []) (ws2 := (wX9_isRest cy )) (kRunS (As := [.int x0, .int y4_5, .int x2]) (rest := []) ⟨hx, hb, hml, hown, ht0⟩ (kX9_heirOf l D cy _ x0 y4_5 x2 r20 hc20 _ rfl) (va_cwS 3 ht0 (gS wd1000 wd1001 wd744 wd1002) rfl rfl rfl (by decide +kernel) ⟨Nat.le_of_ble_eq_true rfl, Nat.le_of_ble_eq_true rfl⟩) hK hN hP hD [] rfl (by decide) rfl hl.1 rfl (Nat.le_of_ble_eq_true rfl) dX9_isRest_20 ⟨Nat.zero_le _, Nat.zero_le _⟩) hP hD hS hA [] [] rfl rfl (by decide) (by decide) [] (by decide) rfl rfl (fun H locs hP hD hS => ?_)
          refine lv_iload_n hx hb dX9_isRest_23 rfl (lv_at hl 0 rfl) ?_
          refine lv_iload_n hx hb dX9_isRest_24 rfl (lv_at hl 1 rfl) ?_
          refine lv_iload_n hx hb dX9_isRest_25 rfl (lv_at hl 2 rfl) ?_
          obtain ⟨r26, hc26, hok⟩ := k_bind hok
          refine kCi (wc := (wX9_heirOf cy )) (wc2 := (wX9_heirOf cy )) (wr := []) (ws2 := (wX9_isRest cy )) (kRunS (As := [.int x0, .int x1, .int x2]) (rest := [.int r20]) ⟨hx, hb, hml, hown, ht0⟩ (kX9_heirOf l D cy _ x0 x1 x2 r26 hc26 _ rfl) (va_cwS 3 ht0 (gS wd1000 wd1001 wd744 wd1002) rfl rfl rfl (by decide +kernel) ⟨Nat.le_of_ble_eq_true rfl, Nat.le_of_ble_eq_true rfl⟩) hK hN hP hD [] rfl (by decide) rfl hl.1 rfl (Nat.le_of_ble_eq_true rfl) dX9_isRest_26 ⟨Nat.zero_le _, Nat.zero_le _⟩) hP hD hS hA [] [] rfl rfl (by decide) (by decide) [] (by decide) rfl rfl (fun H locs hP hD hS => ?_)
          refine lv_icmp_gt (tgt := 52) hx hb dX9_isRest_29 (by decide) (fun c29 => ?_) (fun c29 => ?_)
          · have hok := k_pos c29 hok
            exact J52  H locs ls hP hD hS (lv_sub hl [0, 1, 2, 4] rfl) hok
          · have hok := k_neg c29 hok
            refine lv_iload_n hx hb dX9_isRest_32 rfl (lv_at hl 0 rfl) ?_
            refine lv_iload hx hb dX9_isRest_33 (lv_at hl 4 rfl) ?_
            refine lv_iload_n hx hb dX9_isRest_35 rfl (lv_at hl 1 rfl) ?_
            obtain ⟨r36, hc36, hok⟩ := k_bind hok
            refine kCi (wc := (wX9_heirOf cy )) (wc2 := (wX9_heirOf cy )) (wr := []) (ws2 := (wX9_isRest cy )) (kRunS (As := [.int x0, .int y4_5, .int x1]) (rest := []) ⟨hx, hb, hml, hown, ht0⟩ (kX9_heirOf l D cy _ x0 y4_5 x1 r36 hc36 _ rfl) (va_cwS 3 ht0 (gS wd1000 wd1001 wd744 wd1002) rfl rfl rfl (by decide +kernel) ⟨Nat.le_of_ble_eq_true rfl, Nat.le_of_ble_eq_true rfl⟩) hK hN hP hD [] rfl (by decide) rfl hl.1 rfl (Nat.le_of_ble_eq_true rfl) dX9_isRest_36 ⟨Nat.zero_le _, Nat.zero_le _⟩) hP hD hS hA [] [] rfl rfl (by decide) (by decide) [] (by decide) rfl rfl (fun H locs hP hD hS => ?_)
            refine lv_iload_n hx hb dX9_isRest_39 rfl (lv_at hl 0 rfl) ?_
            refine lv_iload_n hx hb dX9_isRest_40 rfl (lv_at hl 2 rfl) ?_
            refine lv_iload_n hx hb dX9_isRest_41 rfl (lv_at hl 1 rfl) ?_
            obtain ⟨r42, hc42, hok⟩ := k_bind hok
            refine kCi (wc := (wX9_heirOf cy )) (wc2 := (wX9_heirOf cy )) (wr := []) (ws2 := (wX9_isRest cy )) (kRunS (As := [.int x0, .int x2, .int x1]) (rest := [.int r36]) ⟨hx, hb, hml, hown, ht0⟩ (kX9_heirOf l D cy _ x0 x2 x1 r42 hc42 _ rfl) (va_cwS 3 ht0 (gS wd1000 wd1001 wd744 wd1002) rfl rfl rfl (by decide +kernel) ⟨Nat.le_of_ble_eq_true rfl, Nat.le_of_ble_eq_true rfl⟩) hK hN hP hD [] rfl (by decide) rfl hl.1 rfl (Nat.le_of_ble_eq_true rfl) dX9_isRest_42 ⟨Nat.zero_le _, Nat.zero_le _⟩) hP hD hS hA [] [] rfl rfl (by decide) (by decide) [] (by decide) rfl rfl (fun H locs hP hD hS => ?_)
            refine lv_icmp_gt (tgt := 52) hx hb dX9_isRest_45 (by decide) (fun c45 => ?_) (fun c45 => ?_)
            · have hok := k_pos c45 hok
              exact J52  H locs ls hP hD hS (lv_sub hl [0, 1, 2, 4] rfl) hok
            · have hok := k_neg c45 hok
              refine lv_iconst (v := 1) hx hb dX9_isRest_48 (by decide) ?_
              refine lv_goto (tgt := 53) hx hb dX9_isRest_49 (by decide) ?_
              exact J53 (1 : Int32) H locs ls hP hD hS (lv_sub hl [0, 1, 2, 4] rfl) hok
  unfold fX9_isRest at hok
  obtain ⟨H, hH⟩ : ∃ H, H = s.heap := ⟨_, rfl⟩
  obtain ⟨locs, hlc⟩ : ∃ x : List Loc, x = [] := ⟨_, rfl⟩
  have hP : va_P D vwCl (wX9_isRest cy ) H := by rw [hH]; exact hP
  have hS : va_S A s.heap H locs := by rw [hH, hlc]; exact hS
  rw [show W p l e _ s m _ below meth c s.heap [] = W p l e _ s m _ below meth c H locs from by rw [hH, hlc]]
  refine lv_iconst (v := 1) hx hb dX9_isRest_0 (by decide) ?_
  refine lv_istore_n (lv' := [(3, .int 1), (0, .int x0), (1, .int x1), (2, .int x2)]) hx hb dX9_isRest_1 rfl hl (by decide) rfl (fun ls hl => ?_)
  refine lv_iconst (v := 0) hx hb dX9_isRest_2 (by decide) ?_
  refine lv_istore (lv' := [(4, .int 0), (3, .int 1), (0, .int x0), (1, .int x1), (2, .int x2)]) hx hb dX9_isRest_3 hl (by decide) rfl (fun ls hl => ?_)
  exact L5 5000 (1 : Int32) (0 : Int32) H locs ls hP hD hS (lv_sub hl [2, 3, 4, 1, 0] rfl) hok
def wsX9_seekRests : List Cond := .code yX9_seekRests cX9_seekRests 5 (some .int) :: W0
abbrev wX9_seekRests (cy : Nat → ClassId) (aM : Nat) (qM : Nat → Nat) (vM : Nat → Int32) : va_W := [(aM, oX9 vM qM)]
set_option maxHeartbeats 4000000 in
set_option maxRecDepth 100000 in
theorem kX9_seekRests (l : Launch) (D : va_G) (cy : Nat → ClassId) (sz : Nat) (aM : Nat) (qM : Nat → Nat) (vM : Nat → Int32) (x1 : Int32) (zr : Int32) (z_vM : Nat → Int32) (hok : fX9_seekRests vM x1 = some (zr, z_vM)) (A : Nat → Prop) (hAe : va_A (wX9_seekRests cy aM qM vM) sz = A) : Met l yX9_seekRests wsX9_seekRests ({ frames := 2, cells := 0, slots := 0, locals := 46 } : Room) (kPre D cy [.ref aM, .int x1] (wX9_seekRests cy aM qM vM) sz) (kQi D cy zr A (wX9_seekRests cy aM qM z_vM)) 0 0 A := by
  refine Met.ofW (cc := cX9_seekRests) (maxL := 5) (ret := (some .int)) (by decide) rfl ?_
  intro p e s m args below meth c s₁ B hml hv
  obtain ⟨rfl, hsz, hP, hK, hD0, hN⟩ := hv
  have hx := B.exec
  have hb := B.bytes
  have hr := B.returns
  have ht0 : ∀ w ∈ W0, w.before _ s = true := fun w h => atoms_spec (ws := wsX9_seekRests) B.pre w (List.mem_cons_of_mem _ h)
  have hown : s.vm.findClass RX9 = some m.cls := findClass_of_methodNamed B.named
  have hlocks := B.notSynchronized
  subst hsz
  have hD : va_D A (wX9_seekRests cy aM qM vM) := by rw [← hAe]; exact hD0.self
  have hA : ∀ q : Nat, s.heap.size ≤ q → A q := fun q h => by rw [← hAe]; exact Or.inr h
  have hS : va_S A s.heap s.heap [] := va_S.rf
  have hl := lv_entry ([.ref aM, .int x1]) (n := 5) (Nat.le_of_ble_eq_true rfl)
  rw [lg_entry_eq]
  generalize (lg_sl ([.ref aM, .int x1]) ++ List.replicate (5 - (lg_sl ([.ref aM, .int x1])).length) Slot.unset).toArray = ls at hl ⊢
  have hl : lv_has ls 5 [(0, .ref aM), (1, .int x1)] := hl
  generalize hQe : MQ below (kQi D cy zr A (wX9_seekRests cy aM qM z_vM)) ([.ref aM, .int x1] : List Value).toArray s 0 0 A = Q
  have L10 : ∀ (fuel : Nat) (y2_10 : Int32) (y3_10 : Int32) (vM_10 : Nat → Int32), ∀ (H : Heap) (locs : List Loc) (ls : Array Slot), va_P D vwCl (wX9_seekRests cy aM qM vM_10) H → va_D A (wX9_seekRests cy aM qM vM_10) → va_S A s.heap H locs → lv_has ls 5 [(0, .ref aM), (1, .int x1), (2, .int y2_10), (3, .int y3_10)] → lp (fX9_seekRests_B10 x1) fuel (y2_10, y3_10, vM_10) = some (zr, z_vM) → W p l e ({ frames := 2, cells := 0, slots := 0, locals := 46 } : Room) s m ([.ref aM, .int x1] : List Value).toArray below meth c H locs 0 0 Q (F0 m 10 ls []) := by
    intro fuel
    induction fuel with
    | zero => intro y2_10 y3_10 vM_10 H locs ls hP hD hS hl hok; exact (lp_0 hok).elim
    | succ fuel ih10 =>
      intro y2_10 y3_10 vM_10 H locs ls hP hD hS hl hok
      obtain ⟨y10, hok, hL10, hR10⟩ := lp_step hok
      have L19 : ∀ (fuel : Nat) (y2_19 : Int32) (y4_19 : Int32) (vM_19 : Nat → Int32), ∀ (H : Heap) (locs : List Loc) (ls : Array Slot), va_P D vwCl (wX9_seekRests cy aM qM vM_19) H → va_D A (wX9_seekRests cy aM qM vM_19) → va_S A s.heap H locs → lv_has ls 5 [(0, .ref aM), (1, .int x1), (2, .int y2_19), (3, .int y3_10), (4, .int y4_19)] → lp (fX9_seekRests_B19 x1 y3_10) fuel (y2_19, y4_19, vM_19) = some y10 → W p l e ({ frames := 2, cells := 0, slots := 0, locals := 46 } : Room) s m ([.ref aM, .int x1] : List Value).toArray below meth c H locs 0 0 Q (F0 m 19 ls []) := by
        intro fuel
        induction fuel with
        | zero => intro y2_19 y4_19 vM_19 H locs ls hP hD hS hl hok; exact (lp_0 hok).elim
        | succ fuel ih19 =>
          intro y2_19 y4_19 vM_19 H locs ls hP hD hS hl hok
          obtain ⟨y19, hok, hL19, hR19⟩ := lp_step hok
          have J57 : ∀ (y2_57 : Int32) (vM_57 : Nat → Int32), ∀ (H : Heap) (locs : List Loc) (ls : Array Slot), va_P D vwCl (wX9_seekRests cy aM qM vM_57) H → va_D A (wX9_seekRests cy aM qM vM_57) → va_S A s.heap H locs → lv_has ls 5 [(0, .ref aM), (1, .int x1), (2, .int y2_57), (3, .int y3_10), (4, .int y4_19)] → fX9_seekRests_J57 y4_19 y2_57 vM_57 = some y19 → W p l e ({ frames := 2, cells := 0, slots := 0, locals := 46 } : Room) s m ([.ref aM, .int x1] : List Value).toArray below meth c H locs 0 0 Q (F0 m 57 ls []) := by
            intro y2_57 vM_57 H locs ls hP hD hS hl hok
            unfold fX9_seekRests_J57 at hok
            refine lv_iinc (v := (y4_19 + 1)) (lv' := [(4, .int (y4_19 + 1)), (0, .ref aM), (1, .int x1), (2, .int y2_57), (3, .int y3_10)]) hx hb dX9_seekRests_57 hl (k := 4) rfl (by first | rfl | decide) (by decide) rfl (fun ls hl => ?_)
            refine lv_goto (tgt := 19) hx hb dX9_seekRests_60 (by decide) ?_
            exact ih19 y2_57 (y4_19 + 1) vM_57 H locs ls hP hD hS (lv_sub hl [1, 2, 3, 4, 0] rfl) (hR19 _ (Option.some.inj hok).symm)
          have J54 : ∀ (vM_54 : Nat → Int32), ∀ (H : Heap) (locs : List Loc) (ls : Array Slot), va_P D vwCl (wX9_seekRests cy aM qM vM_54) H → va_D A (wX9_seekRests cy aM qM vM_54) → va_S A s.heap H locs → lv_has ls 5 [(0, .ref aM), (1, .int x1), (2, .int y2_19), (3, .int y3_10), (4, .int y4_19)] → fX9_seekRests_J54 y2_19 y4_19 vM_54 = some y19 → W p l e ({ frames := 2, cells := 0, slots := 0, locals := 46 } : Room) s m ([.ref aM, .int x1] : List Value).toArray below meth c H locs 0 0 Q (F0 m 54 ls []) := by
            intro vM_54 H locs ls hP hD hS hl hok
            unfold fX9_seekRests_J54 at hok
            refine lv_iinc (v := (y2_19 + 1)) (lv' := [(2, .int (y2_19 + 1)), (0, .ref aM), (1, .int x1), (3, .int y3_10), (4, .int y4_19)]) hx hb dX9_seekRests_54 hl (k := 2) rfl (by first | rfl | decide) (by decide) rfl (fun ls hl => ?_)
            exact J57 (y2_19 + 1) vM_54 H locs ls hP hD hS (lv_sub hl [1, 2, 0, 3, 4] rfl) hok
          unfold fX9_seekRests_B19 at hok
          try dsimp only at hok
          refine lv_iload hx hb dX9_seekRests_19 (lv_at hl 4 rfl) ?_
          refine lv_bipush (v := 6) hx hb dX9_seekRests_21 (by decide) ?_
          refine lv_icmp_gt (tgt := 63) hx hb dX9_seekRests_23 (by decide) (fun c23 => ?_) (fun c23 => ?_)
          · have hok := k_pos c23 hok
            obtain ⟨e19, hok, he19⟩ := ex_some hok
            have hok := hok.trans (congrArg some (hL19 _ he19))
            refine lv_iinc (v := (y3_10 + 1)) (lv' := [(3, .int (y3_10 + 1)), (0, .ref aM), (1, .int x1), (2, .int y2_19), (4, .int y4_19)]) hx hb dX9_seekRests_63 hl (k := 3) rfl (by first | rfl | decide) (by decide) rfl (fun ls hl => ?_)
            refine lv_goto (tgt := 10) hx hb dX9_seekRests_66 (by decide) ?_
            exact ih10 y2_19 (y3_10 + 1) vM_19 H locs ls hP hD hS (lv_sub hl [1, 2, 3, 0] rfl) (hR10 _ (Option.some.inj hok).symm)
          · have hok := k_neg c23 hok
            refine lv_iload_n hx hb dX9_seekRests_26 rfl (lv_at hl 1 rfl) ?_
            refine lv_iload_n hx hb dX9_seekRests_27 rfl (lv_at hl 3 rfl) ?_
            refine lv_iload hx hb dX9_seekRests_28 (lv_at hl 4 rfl) ?_
            obtain ⟨r30, hc30, hok⟩ := k_bind hok
            refine kCi (wc := (wX9_isRest cy )) (wc2 := (wX9_isRest cy )) (wr := [(aM, oX9 vM_19 qM)]) (ws2 := (wX9_seekRests cy aM qM vM_19)) (kRunS (As := [.int x1, .int y3_10, .int y4_19]) (rest := []) ⟨hx, hb, hml, hown, ht0⟩ (kX9_isRest l D cy _ x1 y3_10 y4_19 r30 hc30 _ rfl) (va_cwS 3 ht0 (gS wd1003 wd1004 wd744 wd1005) rfl rfl rfl (by decide +kernel) ⟨Nat.le_of_ble_eq_true rfl, Nat.le_of_ble_eq_true rfl⟩) hK hN hP hD [] rfl (by decide) rfl hl.1 rfl (Nat.le_of_ble_eq_true rfl) dX9_seekRests_30 ⟨Nat.zero_le _, Nat.zero_le _⟩) hP hD hS hA [] [0] rfl rfl (by decide) (by decide) [0] (by decide) rfl rfl (fun H locs hP hD hS => ?_)
            refine lv_if_ne (tgt := 39) hx hb dX9_seekRests_33 (by decide) (fun c33 => ?_) (fun c33 => ?_)
            · have hok := k_neg c33 hok
              refine lv_iload_n hx hb dX9_seekRests_39 rfl (lv_at hl 2 rfl) ?_
              refine lv_if_ne (tgt := 54) hx hb dX9_seekRests_40 (by decide) (fun c40 => ?_) (fun c40 => ?_)
              · have hok := k_neg c40 hok
                exact J54 vM_19 H locs ls hP hD hS (lv_sub hl [0, 1, 2, 3, 4] rfl) hok
              · have hok := k_pos c40 hok
                refine lv_aload_n hx hb dX9_seekRests_43 rfl (lv_at hl 0 rfl) ?_
                refine lv_bipush (v := 10) hx hb dX9_seekRests_44 (by decide) ?_
                refine lv_iload_n hx hb dX9_seekRests_46 rfl (lv_at hl 3 rfl) ?_
                refine lv_imul hx hb dX9_seekRests_47 ?_
                refine lv_iload hx hb dX9_seekRests_48 (lv_at hl 4 rfl) ?_
                refine lv_iadd hx hb dX9_seekRests_50 ?_
                refine va_put (D := D) (ci := 8) (v := .int (((10 : Int32) * y3_10) + y4_19)) (ty := .int) (C := RX9) (T := TX9) (N := 29) hx hb ht0 niX9 tyX9 tyX9_ok nmX9 hown hK hP hD hS 0 rfl rfl 26 (by decide) (ht0 _ wd1006) (fun _ h9 => h9) rfl (by decide +kernel) rfl rfl (Nat.le_of_ble_eq_true rfl) dX9_seekRests_51 (fun H locs hP hD hS => ?_)
                have hP : va_P D vwCl (wX9_seekRests cy aM qM (upd vM_19 26 (((10 : Int32) * y3_10) + y4_19))) H := hP
                have hD : va_D A (wX9_seekRests cy aM qM (upd vM_19 26 (((10 : Int32) * y3_10) + y4_19))) := hD
                exact J54 (upd vM_19 26 (((10 : Int32) * y3_10) + y4_19)) H locs ls hP hD hS (lv_sub hl [0, 1, 2, 3, 4] rfl) hok
            · have hok := k_pos c33 hok
              refine lv_goto (tgt := 57) hx hb dX9_seekRests_36 (by decide) ?_
              exact J57 y2_19 vM_19 H locs ls hP hD hS (lv_sub hl [0, 1, 2, 3, 4] rfl) hok
      unfold fX9_seekRests_B10 at hok
      try dsimp only at hok
      refine lv_iload_n hx hb dX9_seekRests_10 rfl (lv_at hl 3 rfl) ?_
      refine lv_bipush (v := 6) hx hb dX9_seekRests_11 (by decide) ?_
      refine lv_icmp_gt (tgt := 69) hx hb dX9_seekRests_13 (by decide) (fun c13 => ?_) (fun c13 => ?_)
      · have hok := k_pos c13 hok
        obtain ⟨e10, hok, he10⟩ := ex_some hok
        have hok := hok.trans (congrArg some (hL10 _ he10))
        refine lv_iload_n hx hb dX9_seekRests_69 rfl (lv_at hl 2 rfl) ?_
        cases hok
        subst hQe; exact W.iret hx hb hr (fun t ht hW => ⟨⟨_, (), rfl, rfl, by rw [ht]; exact hP, va_K.moved hW.alike hK, hD⟩, hS.F ht⟩) hS.2.2 dX9_seekRests_70
      · have hok := k_neg c13 hok
        refine lv_iconst (v := 0) hx hb dX9_seekRests_16 (by decide) ?_
        refine lv_istore (lv' := [(4, .int 0), (0, .ref aM), (1, .int x1), (2, .int y2_10), (3, .int y3_10)]) hx hb dX9_seekRests_17 hl (by decide) rfl (fun ls hl => ?_)
        exact L19 5000 y2_10 (0 : Int32) vM_10 H locs ls hP hD hS (lv_sub hl [1, 2, 3, 4, 0] rfl) hok
  unfold fX9_seekRests at hok
  obtain ⟨H, hH⟩ : ∃ H, H = s.heap := ⟨_, rfl⟩
  obtain ⟨locs, hlc⟩ : ∃ x : List Loc, x = [] := ⟨_, rfl⟩
  have hP : va_P D vwCl (wX9_seekRests cy aM qM vM) H := by rw [hH]; exact hP
  have hS : va_S A s.heap H locs := by rw [hH, hlc]; exact hS
  rw [show W p l e _ s m _ below meth c s.heap [] = W p l e _ s m _ below meth c H locs from by rw [hH, hlc]]
  refine lv_iconst (v := 0) hx hb dX9_seekRests_0 (by decide) ?_
  refine lv_istore_n (lv' := [(2, .int 0), (0, .ref aM), (1, .int x1)]) hx hb dX9_seekRests_1 rfl hl (by decide) rfl (fun ls hl => ?_)
  refine lv_aload_n hx hb dX9_seekRests_2 rfl (lv_at hl 1 rfl) ?_
  refine lv_bipush (v := -2) hx hb dX9_seekRests_3 (by decide) ?_
  refine va_put (D := D) (ci := 8) (v := .int (-2)) (ty := .int) (C := RX9) (T := TX9) (N := 29) hx hb ht0 niX9 tyX9 tyX9_ok nmX9 hown hK hP hD hS 0 rfl rfl 26 (by decide) (ht0 _ wd1006) (fun _ h9 => h9) rfl (by decide +kernel) rfl rfl (Nat.le_of_ble_eq_true rfl) dX9_seekRests_5 (fun H locs hP hD hS => ?_)
  have hP : va_P D vwCl (wX9_seekRests cy aM qM (upd vM 26 (-2 : Int32))) H := hP
  have hD : va_D A (wX9_seekRests cy aM qM (upd vM 26 (-2 : Int32))) := hD
  refine lv_iconst (v := 0) hx hb dX9_seekRests_8 (by decide) ?_
  refine lv_istore_n (lv' := [(3, .int 0), (2, .int 0), (0, .ref aM), (1, .int x1)]) hx hb dX9_seekRests_9 rfl hl (by decide) rfl (fun ls hl => ?_)
  exact L10 5000 (0 : Int32) (0 : Int32) (upd vM 26 (-2 : Int32)) H locs ls hP hD hS (lv_sub hl [2, 3, 1, 0] rfl) hok
def wsX9_rests : List Cond := .code yX9_rests cX9_rests 3 (some .int) :: W0
abbrev wX9_rests (cy : Nat → ClassId) (aM : Nat) (qM : Nat → Nat) (vM : Nat → Int32) : va_W := [(aM, oX9 vM qM)]
set_option maxHeartbeats 4000000 in
set_option maxRecDepth 100000 in
theorem kX9_rests (l : Launch) (D : va_G) (cy : Nat → ClassId) (sz : Nat) (aM : Nat) (qM : Nat → Nat) (vM : Nat → Int32) (x1 : Int32) (zr : Int32) (z_vM : Nat → Int32) (hok : fX9_rests vM x1 = some (zr, z_vM)) (A : Nat → Prop) (hAe : va_A (wX9_rests cy aM qM vM) sz = A) : Met l yX9_rests wsX9_rests ({ frames := 3, cells := 0, slots := 0, locals := 70 } : Room) (kPre D cy [.ref aM, .int x1] (wX9_rests cy aM qM vM) sz) (kQi D cy zr A (wX9_rests cy aM qM z_vM)) 0 0 A := by
  refine Met.ofW (cc := cX9_rests) (maxL := 3) (ret := (some .int)) (by decide) rfl ?_
  intro p e s m args below meth c s₁ B hml hv
  obtain ⟨rfl, hsz, hP, hK, hD0, hN⟩ := hv
  have hx := B.exec
  have hb := B.bytes
  have hr := B.returns
  have ht0 : ∀ w ∈ W0, w.before _ s = true := fun w h => atoms_spec (ws := wsX9_rests) B.pre w (List.mem_cons_of_mem _ h)
  have hown : s.vm.findClass RX9 = some m.cls := findClass_of_methodNamed B.named
  have hlocks := B.notSynchronized
  subst hsz
  have hD : va_D A (wX9_rests cy aM qM vM) := by rw [← hAe]; exact hD0.self
  have hA : ∀ q : Nat, s.heap.size ≤ q → A q := fun q h => by rw [← hAe]; exact Or.inr h
  have hS : va_S A s.heap s.heap [] := va_S.rf
  have hl := lv_entry ([.ref aM, .int x1]) (n := 3) (Nat.le_of_ble_eq_true rfl)
  rw [lg_entry_eq]
  generalize (lg_sl ([.ref aM, .int x1]) ++ List.replicate (3 - (lg_sl ([.ref aM, .int x1])).length) Slot.unset).toArray = ls at hl ⊢
  have hl : lv_has ls 3 [(0, .ref aM), (1, .int x1)] := hl
  generalize hQe : MQ below (kQi D cy zr A (wX9_rests cy aM qM z_vM)) ([.ref aM, .int x1] : List Value).toArray s 0 0 A = Q
  have J33 : ∀ (t0_33 : Int32) (vM_33 : Nat → Int32), ∀ (H : Heap) (locs : List Loc) (ls : Array Slot), va_P D vwCl (wX9_rests cy aM qM vM_33) H → va_D A (wX9_rests cy aM qM vM_33) → va_S A s.heap H locs → lv_has ls 3 [] → fX9_rests_J33 t0_33 vM_33 = some (zr, z_vM) → W p l e ({ frames := 3, cells := 0, slots := 0, locals := 70 } : Room) s m ([.ref aM, .int x1] : List Value).toArray below meth c H locs 0 0 Q (F0 m 33 ls [.int t0_33]) := by
    intro t0_33 vM_33 H locs ls hP hD hS hl hok
    unfold fX9_rests_J33 at hok
    cases hok
    subst hQe; exact W.iret hx hb hr (fun t ht hW => ⟨⟨_, (), rfl, rfl, by rw [ht]; exact hP, va_K.moved hW.alike hK, hD⟩, hS.F ht⟩) hS.2.2 dX9_rests_33
  unfold fX9_rests at hok
  obtain ⟨H, hH⟩ : ∃ H, H = s.heap := ⟨_, rfl⟩
  obtain ⟨locs, hlc⟩ : ∃ x : List Loc, x = [] := ⟨_, rfl⟩
  have hP : va_P D vwCl (wX9_rests cy aM qM vM) H := by rw [hH]; exact hP
  have hS : va_S A s.heap H locs := by rw [hH, hlc]; exact hS
  rw [show W p l e _ s m _ below meth c s.heap [] = W p l e _ s m _ below meth c H locs from by rw [hH, hlc]]
  refine lv_aload_n hx hb dX9_rests_0 rfl (lv_at hl 0 rfl) ?_
  obtain ⟨vM_1, hc1, hok⟩ := k_bind hok
  refine kCv (wc := (wX9_good cy aM qM vM)) (wc2 := (wX9_good cy aM qM vM_1)) (wr := []) (ws2 := (wX9_rests cy aM qM vM_1)) (kRunV (As := []) (rest := []) ⟨hx, hb, hml, hown, ht0⟩ (kX9_good l D cy _ aM qM vM vM_1 hc1 _ rfl) (cwV 0 ht0 (gV wd870 wd871 wd872 wd744 wd873) rfl rfl rfl (by decide +kernel) ⟨Nat.le_of_ble_eq_true rfl, Nat.le_of_ble_eq_true rfl⟩) hK hN hP hD [0] rfl (by decide) 0 8 rfl rfl rfl hl.1 rfl (Nat.le_of_ble_eq_true rfl) dX9_rests_1 ⟨Nat.zero_le _, Nat.zero_le _⟩) hP hD hS hA [0] [] rfl rfl (by decide) (by decide) [0] (by decide) rfl rfl (fun H locs hP hD hS => ?_)
  refine lv_aload_n hx hb dX9_rests_4 rfl (lv_at hl 0 rfl) ?_
  refine lv_aload_n hx hb dX9_rests_5 rfl (lv_at hl 0 rfl) ?_
  refine va_get (D := D) (ci := 8) (v := .int (vM_1 14)) (C := RX9) (T := TX9) (N := 29) hx hb ht0 niX9 hown hK hP 0 rfl rfl 14 (by decide) (ht0 _ wd855) (fun _ h9 => h9) rfl dX9_rests_6 ?_
  refine lv_iload_n hx hb dX9_rests_9 rfl (lv_at hl 1 rfl) ?_
  refine lv_bipush (v := 99) hx hb dX9_rests_10 (by decide) ?_
  obtain ⟨r12, hc12, hok⟩ := k_bind hok
  refine kCi (wc := (wX9_why cy aM)) (wc2 := (wX9_why cy aM)) (wr := [(aM, oX9 vM_1 qM)]) (ws2 := (wX9_rests cy aM qM vM_1)) (kRunV (As := [.int (vM_1 14), .int x1, .int 99]) (rest := []) ⟨hx, hb, hml, hown, ht0⟩ (kX9_why l D cy _ aM (vM_1 14) x1 (99 : Int32) r12 hc12 _ rfl) (cwV 3 ht0 (gV wd944 wd945 wd946 wd744 wd947) rfl rfl rfl (by decide +kernel) ⟨Nat.le_of_ble_eq_true rfl, Nat.le_of_ble_eq_true rfl⟩) hK hN hP hD [] rfl (by decide) 0 8 rfl rfl rfl hl.1 rfl (Nat.le_of_ble_eq_true rfl) dX9_rests_12 ⟨Nat.zero_le _, Nat.zero_le _⟩) hP hD hS hA [] [0] rfl rfl (by decide) (by decide) [0] (by decide) rfl rfl (fun H locs hP hD hS => ?_)
  refine lv_istore_n (lv' := [(2, .int r12), (0, .ref aM), (1, .int x1)]) hx hb dX9_rests_15 rfl hl (by decide) rfl (fun ls hl => ?_)
  refine lv_iload_n hx hb dX9_rests_16 rfl (lv_at hl 0 rfl) ?_
  refine lv_if_eq (tgt := 28) hx hb dX9_rests_17 (by decide) (fun c17 => ?_) (fun c17 => ?_)
  · have hok := k_pos c17 hok
    refine lv_aload_n hx hb dX9_rests_28 rfl (lv_at hl 1 rfl) ?_
    refine lv_iload_n hx hb dX9_rests_29 rfl (lv_at hl 2 rfl) ?_
    obtain ⟨⟨r30, vM_30⟩, hc30, hok⟩ := k_bind hok
    try dsimp only at hok
    refine kCi (wc := (wX9_seekRests cy aM qM vM_1)) (wc2 := (wX9_seekRests cy aM qM vM_30)) (wr := []) (ws2 := (wX9_rests cy aM qM vM_30)) (kRunV (As := [.int x1]) (rest := []) ⟨hx, hb, hml, hown, ht0⟩ (kX9_seekRests l D cy _ aM qM vM_1 x1 r30 vM_30 hc30 _ rfl) (cwV 1 ht0 (gV wd1007 wd1008 wd1009 wd744 wd1010) rfl rfl rfl (by decide +kernel) ⟨Nat.le_of_ble_eq_true rfl, Nat.le_of_ble_eq_true rfl⟩) hK hN hP hD [0] rfl (by decide) 0 8 rfl rfl rfl hl.1 rfl (Nat.le_of_ble_eq_true rfl) dX9_rests_30 ⟨Nat.zero_le _, Nat.zero_le _⟩) hP hD hS hA [0] [] rfl rfl (by decide) (by decide) [0] (by decide) rfl rfl (fun H locs hP hD hS => ?_)
    exact J33 r30 vM_30 H locs ls hP hD hS (lv_sub hl [] rfl) hok
  · have hok := k_neg c17 hok
    refine lv_aload_n hx hb dX9_rests_20 rfl (lv_at hl 1 rfl) ?_
    refine lv_iload_n hx hb dX9_rests_21 rfl (lv_at hl 0 rfl) ?_
    obtain ⟨⟨r22, vM_22⟩, hc22, hok⟩ := k_bind hok
    try dsimp only at hok
    refine kCi (wc := (wX9_no cy aM qM vM_1)) (wc2 := (wX9_no cy aM qM vM_22)) (wr := []) (ws2 := (wX9_rests cy aM qM vM_22)) (kRunV (As := [.int r12]) (rest := []) ⟨hx, hb, hml, hown, ht0⟩ (kX9_no l D cy _ aM qM vM_1 r12 r22 vM_22 hc22 _ rfl) (cwV 1 ht0 (gV wd862 wd863 wd864 wd744 wd865) rfl rfl rfl (by decide +kernel) ⟨Nat.le_of_ble_eq_true rfl, Nat.le_of_ble_eq_true rfl⟩) hK hN hP hD [0] rfl (by decide) 0 8 rfl rfl rfl hl.1 rfl (Nat.le_of_ble_eq_true rfl) dX9_rests_22 ⟨Nat.zero_le _, Nat.zero_le _⟩) hP hD hS hA [0] [] rfl rfl (by decide) (by decide) [0] (by decide) rfl rfl (fun H locs hP hD hS => ?_)
    refine lv_goto (tgt := 33) hx hb dX9_rests_25 (by decide) ?_
    exact J33 r22 vM_22 H locs ls hP hD hS (lv_sub hl [] rfl) hok
def wsX9_rest : List Cond := .code yX9_rest cX9_rest 3 (some .int) :: W0
abbrev wX9_rest (cy : Nat → ClassId) (aM : Nat) (qM : Nat → Nat) (vM : Nat → Int32) : va_W := [(aM, oX9 vM qM)]
set_option maxHeartbeats 4000000 in
set_option maxRecDepth 100000 in
theorem kX9_rest (l : Launch) (D : va_G) (cy : Nat → ClassId) (sz : Nat) (aM : Nat) (qM : Nat → Nat) (vM : Nat → Int32) (x1 : Int32) (zr : Int32) (z_vM : Nat → Int32) (hok : fX9_rest vM x1 = some (zr, z_vM)) (A : Nat → Prop) (hAe : va_A (wX9_rest cy aM qM vM) sz = A) : Met l yX9_rest wsX9_rest ({ frames := 3, cells := 0, slots := 0, locals := 70 } : Room) (kPre D cy [.ref aM, .int x1] (wX9_rest cy aM qM vM) sz) (kQi D cy zr A (wX9_rest cy aM qM z_vM)) 0 0 A := by
  refine Met.ofW (cc := cX9_rest) (maxL := 3) (ret := (some .int)) (by decide) rfl ?_
  intro p e s m args below meth c s₁ B hml hv
  obtain ⟨rfl, hsz, hP, hK, hD0, hN⟩ := hv
  have hx := B.exec
  have hb := B.bytes
  have hr := B.returns
  have ht0 : ∀ w ∈ W0, w.before _ s = true := fun w h => atoms_spec (ws := wsX9_rest) B.pre w (List.mem_cons_of_mem _ h)
  have hown : s.vm.findClass RX9 = some m.cls := findClass_of_methodNamed B.named
  have hlocks := B.notSynchronized
  subst hsz
  have hD : va_D A (wX9_rest cy aM qM vM) := by rw [← hAe]; exact hD0.self
  have hA : ∀ q : Nat, s.heap.size ≤ q → A q := fun q h => by rw [← hAe]; exact Or.inr h
  have hS : va_S A s.heap s.heap [] := va_S.rf
  have hl := lv_entry ([.ref aM, .int x1]) (n := 3) (Nat.le_of_ble_eq_true rfl)
  rw [lg_entry_eq]
  generalize (lg_sl ([.ref aM, .int x1]) ++ List.replicate (3 - (lg_sl ([.ref aM, .int x1])).length) Slot.unset).toArray = ls at hl ⊢
  have hl : lv_has ls 3 [(0, .ref aM), (1, .int x1)] := hl
  unfold fX9_rest at hok
  obtain ⟨H, hH⟩ : ∃ H, H = s.heap := ⟨_, rfl⟩
  obtain ⟨locs, hlc⟩ : ∃ x : List Loc, x = [] := ⟨_, rfl⟩
  have hP : va_P D vwCl (wX9_rest cy aM qM vM) H := by rw [hH]; exact hP
  have hS : va_S A s.heap H locs := by rw [hH, hlc]; exact hS
  rw [show W p l e _ s m _ below meth c s.heap [] = W p l e _ s m _ below meth c H locs from by rw [hH, hlc]]
  refine lv_aload_n hx hb dX9_rest_0 rfl (lv_at hl 0 rfl) ?_
  obtain ⟨vM_1, hc1, hok⟩ := k_bind hok
  refine kCv (wc := (wX9_good cy aM qM vM)) (wc2 := (wX9_good cy aM qM vM_1)) (wr := []) (ws2 := (wX9_rest cy aM qM vM_1)) (kRunV (As := []) (rest := []) ⟨hx, hb, hml, hown, ht0⟩ (kX9_good l D cy _ aM qM vM vM_1 hc1 _ rfl) (cwV 0 ht0 (gV wd870 wd871 wd872 wd744 wd873) rfl rfl rfl (by decide +kernel) ⟨Nat.le_of_ble_eq_true rfl, Nat.le_of_ble_eq_true rfl⟩) hK hN hP hD [0] rfl (by decide) 0 8 rfl rfl rfl hl.1 rfl (Nat.le_of_ble_eq_true rfl) dX9_rest_1 ⟨Nat.zero_le _, Nat.zero_le _⟩) hP hD hS hA [0] [] rfl rfl (by decide) (by decide) [0] (by decide) rfl rfl (fun H locs hP hD hS => ?_)
  refine lv_aload_n hx hb dX9_rest_4 rfl (lv_at hl 0 rfl) ?_
  refine lv_aload_n hx hb dX9_rest_5 rfl (lv_at hl 0 rfl) ?_
  refine va_get (D := D) (ci := 8) (v := .int (vM_1 14)) (C := RX9) (T := TX9) (N := 29) hx hb ht0 niX9 hown hK hP 0 rfl rfl 14 (by decide) (ht0 _ wd855) (fun _ h9 => h9) rfl dX9_rest_6 ?_
  refine lv_iload_n hx hb dX9_rest_9 rfl (lv_at hl 1 rfl) ?_
  refine lv_bipush (v := 99) hx hb dX9_rest_10 (by decide) ?_
  obtain ⟨r12, hc12, hok⟩ := k_bind hok
  refine kCi (wc := (wX9_why cy aM)) (wc2 := (wX9_why cy aM)) (wr := [(aM, oX9 vM_1 qM)]) (ws2 := (wX9_rest cy aM qM vM_1)) (kRunV (As := [.int (vM_1 14), .int x1, .int 99]) (rest := []) ⟨hx, hb, hml, hown, ht0⟩ (kX9_why l D cy _ aM (vM_1 14) x1 (99 : Int32) r12 hc12 _ rfl) (cwV 3 ht0 (gV wd944 wd945 wd946 wd744 wd947) rfl rfl rfl (by decide +kernel) ⟨Nat.le_of_ble_eq_true rfl, Nat.le_of_ble_eq_true rfl⟩) hK hN hP hD [] rfl (by decide) 0 8 rfl rfl rfl hl.1 rfl (Nat.le_of_ble_eq_true rfl) dX9_rest_12 ⟨Nat.zero_le _, Nat.zero_le _⟩) hP hD hS hA [] [0] rfl rfl (by decide) (by decide) [0] (by decide) rfl rfl (fun H locs hP hD hS => ?_)
  refine lv_istore_n (lv' := [(2, .int r12), (0, .ref aM), (1, .int x1)]) hx hb dX9_rest_15 rfl hl (by decide) rfl (fun ls hl => ?_)
  refine lv_iload_n hx hb dX9_rest_16 rfl (lv_at hl 0 rfl) ?_
  refine lv_if_eq (tgt := 26) hx hb dX9_rest_17 (by decide) (fun c17 => ?_) (fun c17 => ?_)
  · have hok := k_pos c17 hok
    refine lv_aload_n hx hb dX9_rest_26 rfl (lv_at hl 1 rfl) ?_
    refine lv_iload_n hx hb dX9_rest_27 rfl (lv_at hl 2 rfl) ?_
    obtain ⟨⟨r28, vM_28⟩, hc28, hok⟩ := k_bind hok
    try dsimp only at hok
    refine kCi (wc := (wX9_seekRests cy aM qM vM_1)) (wc2 := (wX9_seekRests cy aM qM vM_28)) (wr := []) (ws2 := (wX9_rest cy aM qM vM_28)) (kRunV (As := [.int x1]) (rest := []) ⟨hx, hb, hml, hown, ht0⟩ (kX9_seekRests l D cy _ aM qM vM_1 x1 r28 vM_28 hc28 _ rfl) (cwV 1 ht0 (gV wd1007 wd1008 wd1009 wd744 wd1010) rfl rfl rfl (by decide +kernel) ⟨Nat.le_of_ble_eq_true rfl, Nat.le_of_ble_eq_true rfl⟩) hK hN hP hD [0] rfl (by decide) 0 8 rfl rfl rfl hl.1 rfl (Nat.le_of_ble_eq_true rfl) dX9_rest_28 ⟨Nat.zero_le _, Nat.zero_le _⟩) hP hD hS hA [0] [] rfl rfl (by decide) (by decide) [0] (by decide) rfl rfl (fun H locs hP hD hS => ?_)
    refine lv_pop hx hb dX9_rest_31 rfl ?_
    refine lv_aload_n hx hb dX9_rest_32 rfl (lv_at hl 1 rfl) ?_
    refine va_get (D := D) (ci := 8) (v := .int (vM_28 26)) (C := RX9) (T := TX9) (N := 29) hx hb ht0 niX9 hown hK hP 0 rfl rfl 26 (by decide) (ht0 _ wd1006) (fun _ h9 => h9) rfl dX9_rest_33 ?_
    cases hok
    exact W.iret hx hb hr (fun t ht hW => ⟨⟨_, (), rfl, rfl, by rw [ht]; exact hP, va_K.moved hW.alike hK, hD⟩, hS.F ht⟩) hS.2.2 dX9_rest_36
  · have hok := k_neg c17 hok
    refine lv_aload_n hx hb dX9_rest_20 rfl (lv_at hl 1 rfl) ?_
    refine lv_iload_n hx hb dX9_rest_21 rfl (lv_at hl 0 rfl) ?_
    obtain ⟨⟨r22, vM_22⟩, hc22, hok⟩ := k_bind hok
    try dsimp only at hok
    refine kCi (wc := (wX9_no cy aM qM vM_1)) (wc2 := (wX9_no cy aM qM vM_22)) (wr := []) (ws2 := (wX9_rest cy aM qM vM_22)) (kRunV (As := [.int r12]) (rest := []) ⟨hx, hb, hml, hown, ht0⟩ (kX9_no l D cy _ aM qM vM_1 r12 r22 vM_22 hc22 _ rfl) (cwV 1 ht0 (gV wd862 wd863 wd864 wd744 wd865) rfl rfl rfl (by decide +kernel) ⟨Nat.le_of_ble_eq_true rfl, Nat.le_of_ble_eq_true rfl⟩) hK hN hP hD [0] rfl (by decide) 0 8 rfl rfl rfl hl.1 rfl (Nat.le_of_ble_eq_true rfl) dX9_rest_22 ⟨Nat.zero_le _, Nat.zero_le _⟩) hP hD hS hA [0] [] rfl rfl (by decide) (by decide) [0] (by decide) rfl rfl (fun H locs hP hD hS => ?_)
    cases hok
    exact W.iret hx hb hr (fun t ht hW => ⟨⟨_, (), rfl, rfl, by rw [ht]; exact hP, va_K.moved hW.alike hK, hD⟩, hS.F ht⟩) hS.2.2 dX9_rest_25
def wsX9_dampWhy : List Cond := .code yX9_dampWhy cX9_dampWhy 10 (some .int) :: W0
abbrev wX9_dampWhy (cy : Nat → ClassId) (aM : Nat) (qM : Nat → Nat) (vM : Nat → Int32) (vM_st : Nat → Int32) (vM_trial : Nat → Int32) (vM_r : Nat → Int32) : va_W := [(aM, oX9 vM qM), (qM 17, rI cy 9 vM_st), (qM 22, rI cy 9 vM_trial), (qM 15, rI cy 224 vM_r)]
set_option maxHeartbeats 4000000 in
set_option maxRecDepth 100000 in
theorem kX9_dampWhy (l : Launch) (D : va_G) (cy : Nat → ClassId) (sz : Nat) (aM : Nat) (qM : Nat → Nat) (vM : Nat → Int32) (vM_st : Nat → Int32) (vM_trial : Nat → Int32) (vM_r : Nat → Int32) (x1 : Int32) (x2 : Int32) (x3 : Int32) (x4 : Int32) (x5 : Int32) (zr : Int32) (z_vM : Nat → Int32) (z_vM_trial : Nat → Int32) (hok : fX9_dampWhy vM vM_st vM_trial vM_r x1 x2 x3 x4 x5 = some (zr, z_vM, z_vM_trial)) (A : Nat → Prop) (hAe : va_A (wX9_dampWhy cy aM qM vM vM_st vM_trial vM_r) sz = A) : Met l yX9_dampWhy wsX9_dampWhy ({ frames := 3, cells := 0, slots := 0, locals := 71 } : Room) (kPre D cy [.ref aM, .int x1, .int x2, .int x3, .int x4, .int x5] (wX9_dampWhy cy aM qM vM vM_st vM_trial vM_r) sz) (kQi D cy zr A (wX9_dampWhy cy aM qM z_vM vM_st z_vM_trial vM_r)) 0 0 A := by
  refine Met.ofW (cc := cX9_dampWhy) (maxL := 10) (ret := (some .int)) (by decide) rfl ?_
  intro p e s m args below meth c s₁ B hml hv
  obtain ⟨rfl, hsz, hP, hK, hD0, hN⟩ := hv
  have hx := B.exec
  have hb := B.bytes
  have hr := B.returns
  have ht0 : ∀ w ∈ W0, w.before _ s = true := fun w h => atoms_spec (ws := wsX9_dampWhy) B.pre w (List.mem_cons_of_mem _ h)
  have hown : s.vm.findClass RX9 = some m.cls := findClass_of_methodNamed B.named
  have hlocks := B.notSynchronized
  subst hsz
  have hD : va_D A (wX9_dampWhy cy aM qM vM vM_st vM_trial vM_r) := by rw [← hAe]; exact hD0.self
  have hA : ∀ q : Nat, s.heap.size ≤ q → A q := fun q h => by rw [← hAe]; exact Or.inr h
  have hS : va_S A s.heap s.heap [] := va_S.rf
  have hl := lv_entry ([.ref aM, .int x1, .int x2, .int x3, .int x4, .int x5]) (n := 10) (Nat.le_of_ble_eq_true rfl)
  rw [lg_entry_eq]
  generalize (lg_sl ([.ref aM, .int x1, .int x2, .int x3, .int x4, .int x5]) ++ List.replicate (10 - (lg_sl ([.ref aM, .int x1, .int x2, .int x3, .int x4, .int x5])).length) Slot.unset).toArray = ls at hl ⊢
  have hl : lv_has ls 10 [(0, .ref aM), (1, .int x1), (2, .int x2), (3, .int x3), (4, .int x4), (5, .int x5)] := hl
  generalize hQe : MQ below (kQi D cy zr A (wX9_dampWhy cy aM qM z_vM vM_st z_vM_trial vM_r)) ([.ref aM, .int x1, .int x2, .int x3, .int x4, .int x5] : List Value).toArray s 0 0 A = Q
  have L49 : ∀ (fuel : Nat) (y6_49 : Int32) (y7_49 : Int32) (vM_trial_49 : Nat → Int32) (vM_49 : Nat → Int32), ∀ (H : Heap) (locs : List Loc) (ls : Array Slot), va_P D vwCl (wX9_dampWhy cy aM qM vM_49 vM_st vM_trial_49 vM_r) H → va_D A (wX9_dampWhy cy aM qM vM_49 vM_st vM_trial_49 vM_r) → va_S A s.heap H locs → lv_has ls 10 [(0, .ref aM), (3, .int x3), (4, .int x4), (5, .int x5), (6, .int y6_49), (7, .int y7_49)] → lp (fX9_dampWhy_B49 vM_r x3 x4 x5) fuel (y6_49, y7_49, vM_trial_49, vM_49) = some (zr, z_vM, z_vM_trial) → W p l e ({ frames := 3, cells := 0, slots := 0, locals := 71 } : Room) s m ([.ref aM, .int x1, .int x2, .int x3, .int x4, .int x5] : List Value).toArray below meth c H locs 0 0 Q (F0 m 49 ls []) := by
    intro fuel
    induction fuel with
    | zero => intro y6_49 y7_49 vM_trial_49 vM_49 H locs ls hP hD hS hl hok; exact (lp_0 hok).elim
    | succ fuel ih49 =>
      intro y6_49 y7_49 vM_trial_49 vM_49 H locs ls hP hD hS hl hok
      obtain ⟨y49, hok, hL49, hR49⟩ := lp_step hok
      have J192 : ∀ (y6_192 : Int32) (vM_trial_192 : Nat → Int32) (vM_192 : Nat → Int32), ∀ (H : Heap) (locs : List Loc) (ls : Array Slot), va_P D vwCl (wX9_dampWhy cy aM qM vM_192 vM_st vM_trial_192 vM_r) H → va_D A (wX9_dampWhy cy aM qM vM_192 vM_st vM_trial_192 vM_r) → va_S A s.heap H locs → lv_has ls 10 [(0, .ref aM), (3, .int x3), (4, .int x4), (5, .int x5), (6, .int y6_192), (7, .int y7_49)] → fX9_dampWhy_J192 y7_49 y6_192 vM_trial_192 vM_192 = some y49 → W p l e ({ frames := 3, cells := 0, slots := 0, locals := 71 } : Room) s m ([.ref aM, .int x1, .int x2, .int x3, .int x4, .int x5] : List Value).toArray below meth c H locs 0 0 Q (F0 m 192 ls []) := by
        intro y6_192 vM_trial_192 vM_192 H locs ls hP hD hS hl hok
        unfold fX9_dampWhy_J192 at hok
        refine lv_iinc (v := (y7_49 + 1)) (lv' := [(7, .int (y7_49 + 1)), (0, .ref aM), (3, .int x3), (4, .int x4), (5, .int x5), (6, .int y6_192)]) hx hb dX9_dampWhy_192 hl (k := 5) rfl (by first | rfl | decide) (by decide) rfl (fun ls hl => ?_)
        refine lv_goto (tgt := 49) hx hb dX9_dampWhy_195 (by decide) ?_
        exact ih49 y6_192 (y7_49 + 1) vM_trial_192 vM_192 H locs ls hP hD hS (lv_sub hl [1, 2, 3, 4, 5, 0] rfl) (hR49 _ (Option.some.inj hok).symm)
      have L68 : ∀ (fuel : Nat) (y6_68 : Int32) (y8_68 : Int32) (y9_68 : Int32), ∀ (H : Heap) (locs : List Loc) (ls : Array Slot), va_P D vwCl (wX9_dampWhy cy aM qM vM_49 vM_st vM_trial_49 vM_r) H → va_D A (wX9_dampWhy cy aM qM vM_49 vM_st vM_trial_49 vM_r) → va_S A s.heap H locs → lv_has ls 10 [(0, .ref aM), (3, .int x3), (4, .int x4), (5, .int x5), (6, .int y6_68), (7, .int y7_49), (8, .int y8_68), (9, .int y9_68)] → lp (fX9_dampWhy_B68 vM_r x4 x5 y7_49 vM_trial_49 vM_49) fuel (y6_68, y8_68, y9_68) = some y49 → W p l e ({ frames := 3, cells := 0, slots := 0, locals := 71 } : Room) s m ([.ref aM, .int x1, .int x2, .int x3, .int x4, .int x5] : List Value).toArray below meth c H locs 0 0 Q (F0 m 68 ls []) := by
        intro fuel
        induction fuel with
        | zero => intro y6_68 y8_68 y9_68 H locs ls hP hD hS hl hok; exact (lp_0 hok).elim
        | succ fuel ih68 =>
          intro y6_68 y8_68 y9_68 H locs ls hP hD hS hl hok
          obtain ⟨y68, hok, hL68, hR68⟩ := lp_step hok
          have J117 : ∀ (t0_117 : Int32), ∀ (H : Heap) (locs : List Loc) (ls : Array Slot), va_P D vwCl (wX9_dampWhy cy aM qM vM_49 vM_st vM_trial_49 vM_r) H → va_D A (wX9_dampWhy cy aM qM vM_49 vM_st vM_trial_49 vM_r) → va_S A s.heap H locs → lv_has ls 10 [(0, .ref aM), (3, .int x3), (4, .int x4), (5, .int x5), (6, .int (irm (((75 : Int32) * y6_68) + (74 : Int32)) (65537 : Int32))), (7, .int y7_49), (9, .int y9_68)] → fX9_dampWhy_J117 y6_68 y8_68 y9_68 t0_117 = some y68 → W p l e ({ frames := 3, cells := 0, slots := 0, locals := 71 } : Room) s m ([.ref aM, .int x1, .int x2, .int x3, .int x4, .int x5] : List Value).toArray below meth c H locs 0 0 Q (F0 m 117 ls [.int t0_117, .int y8_68]) := by
            intro t0_117 H locs ls hP hD hS hl hok
            unfold fX9_dampWhy_J117 at hok
            refine lv_ior hx hb dX9_dampWhy_117 ?_
            refine lv_istore (lv' := [(8, .int (y8_68 ||| t0_117)), (0, .ref aM), (3, .int x3), (4, .int x4), (5, .int x5), (6, .int (irm (((75 : Int32) * y6_68) + (74 : Int32)) (65537 : Int32))), (7, .int y7_49), (9, .int y9_68)]) hx hb dX9_dampWhy_118 hl (by decide) rfl (fun ls hl => ?_)
            refine lv_iinc (v := (y9_68 + 1)) (lv' := [(9, .int (y9_68 + 1)), (8, .int (y8_68 ||| t0_117)), (0, .ref aM), (3, .int x3), (4, .int x4), (5, .int x5), (6, .int (irm (((75 : Int32) * y6_68) + (74 : Int32)) (65537 : Int32))), (7, .int y7_49)]) hx hb dX9_dampWhy_120 hl (k := 7) rfl (by first | rfl | decide) (by decide) rfl (fun ls hl => ?_)
            refine lv_goto (tgt := 68) hx hb dX9_dampWhy_123 (by decide) ?_
            exact ih68 (irm (((75 : Int32) * y6_68) + (74 : Int32)) (65537 : Int32)) (y8_68 ||| t0_117) (y9_68 + 1) H locs ls hP hD hS (lv_sub hl [2, 3, 4, 5, 6, 7, 1, 0] rfl) (hR68 _ (Option.some.inj hok).symm)
          unfold fX9_dampWhy_B68 at hok
          try dsimp only at hok
          refine lv_iload hx hb dX9_dampWhy_68 (lv_at hl 7 rfl) ?_
          refine lv_aload_n hx hb dX9_dampWhy_70 rfl (lv_at hl 0 rfl) ?_
          refine va_get (D := D) (ci := 8) (v := .ref (qM 15)) (C := RX9) (T := TX9) (N := 29) hx hb ht0 niX9 hown hK hP 0 rfl rfl 15 (by decide) (ht0 _ wd854) (fun _ h9 => h9) rfl dX9_dampWhy_71 ?_
          refine lv_iconst (v := 3) hx hb dX9_dampWhy_74 (by decide) ?_
          obtain ⟨g75, hok⟩ := gd_some hok
          refine va_iald hx hb hK hP 3 0 rfl rfl (okI_in g75) dX9_dampWhy_75 ?_
          refine lv_icmp_ge (tgt := 126) hx hb dX9_dampWhy_76 (by decide) (fun c76 => ?_) (fun c76 => ?_)
          · have hok := k_pos c76 hok
            obtain ⟨e68, hok, he68⟩ := ex_some hok
            have hok := hok.trans (congrArg some (hL68 _ he68))
            refine lv_aload_n hx hb dX9_dampWhy_126 rfl (lv_at hl 0 rfl) ?_
            refine lv_aload_n hx hb dX9_dampWhy_127 rfl (lv_at hl 0 rfl) ?_
            refine va_get (D := D) (ci := 8) (v := .ref (qM 22)) (C := RX9) (T := TX9) (N := 29) hx hb ht0 niX9 hown hK hP 0 rfl rfl 22 (by decide) (ht0 _ wd921) (fun _ h9 => h9) rfl dX9_dampWhy_128 ?_
            refine lv_iload hx hb dX9_dampWhy_131 (lv_at hl 6 rfl) ?_
            obtain ⟨r133, hc133, hok⟩ := k_bind hok
            refine kCi (wc := (wX9_goingBy cy aM (qM 22) qM vM_49 vM_r 9 vM_trial_49)) (wc2 := (wX9_goingBy cy aM (qM 22) qM vM_49 vM_r 9 vM_trial_49)) (wr := [(qM 17, rI cy 9 vM_st)]) (ws2 := (wX9_dampWhy cy aM qM vM_49 vM_st vM_trial_49 vM_r)) (kRunV (As := [.ref (qM 22), .int y8_68]) (rest := []) ⟨hx, hb, hml, hown, ht0⟩ (kX9_goingBy l D cy _ aM (qM 22) qM vM_49 vM_r 9 vM_trial_49 y8_68 r133 hc133 _ rfl) (cwV 2 ht0 (gV wd909 wd910 wd911 wd744 wd912) rfl rfl rfl (by decide +kernel) ⟨Nat.le_of_ble_eq_true rfl, Nat.le_of_ble_eq_true rfl⟩) hK hN hP hD [0, 3, 2] rfl (by decide) 0 8 rfl rfl rfl hl.1 rfl (Nat.le_of_ble_eq_true rfl) dX9_dampWhy_133 ⟨Nat.zero_le _, Nat.zero_le _⟩) hP hD hS hA [0, 3, 2] [1] rfl rfl (by decide) (by decide) [1, 0, 3, 2] (by decide) rfl rfl (fun H locs hP hD hS => ?_)
            refine lv_istore (lv' := [(9, .int r133), (0, .ref aM), (3, .int x3), (4, .int x4), (5, .int x5), (6, .int y6_68), (7, .int y7_49), (8, .int y8_68)]) hx hb dX9_dampWhy_136 hl (by decide) rfl (fun ls hl => ?_)
            refine lv_aload_n hx hb dX9_dampWhy_138 rfl (lv_at hl 1 rfl) ?_
            refine lv_aload_n hx hb dX9_dampWhy_139 rfl (lv_at hl 1 rfl) ?_
            refine va_get (D := D) (ci := 8) (v := .ref (qM 22)) (C := RX9) (T := TX9) (N := 29) hx hb ht0 niX9 hown hK hP 0 rfl rfl 22 (by decide) (ht0 _ wd921) (fun _ h9 => h9) rfl dX9_dampWhy_140 ?_
            refine lv_iload hx hb dX9_dampWhy_143 (lv_at hl 0 rfl) ?_
            obtain ⟨p1_145, hc145, hok⟩ := k_bind hok
            refine kCv (wc := (wX9_goOver cy aM (qM 22) qM vM_49 vM_r 9 vM_trial_49)) (wc2 := (wX9_goOver cy aM (qM 22) qM vM_49 vM_r 9 p1_145)) (wr := [(qM 17, rI cy 9 vM_st)]) (ws2 := (wX9_dampWhy cy aM qM vM_49 vM_st p1_145 vM_r)) (kRunV (As := [.ref (qM 22), .int r133]) (rest := []) ⟨hx, hb, hml, hown, ht0⟩ (kX9_goOver l D cy _ aM (qM 22) qM vM_49 vM_r 9 vM_trial_49 r133 p1_145 hc145 _ rfl) (cwV 2 ht0 (gV wd917 wd918 wd919 wd744 wd920) rfl rfl rfl (by decide +kernel) ⟨Nat.le_of_ble_eq_true rfl, Nat.le_of_ble_eq_true rfl⟩) hK hN hP hD [0, 3, 2] rfl (by decide) 0 8 rfl rfl rfl hl.1 rfl (Nat.le_of_ble_eq_true rfl) dX9_dampWhy_145 ⟨Nat.zero_le _, Nat.zero_le _⟩) hP hD hS hA [0, 3, 2] [1] rfl rfl (by decide) (by decide) [1, 0, 3, 2] (by decide) rfl rfl (fun H locs hP hD hS => ?_)
            refine lv_aload_n hx hb dX9_dampWhy_148 rfl (lv_at hl 1 rfl) ?_
            refine lv_dup hx hb dX9_dampWhy_149 rfl ?_
            refine va_get (D := D) (ci := 8) (v := .int (vM_49 27)) (C := RX9) (T := TX9) (N := 29) hx hb ht0 niX9 hown hK hP 0 rfl rfl 27 (by decide) (ht0 _ wd1013) (fun _ h9 => h9) rfl dX9_dampWhy_150 ?_
            refine lv_iload hx hb dX9_dampWhy_153 (lv_at hl 0 rfl) ?_
            obtain ⟨r155, hc155, hok⟩ := k_bind hok
            refine kCi (wc := (wX9_ones cy )) (wc2 := (wX9_ones cy )) (wr := [(aM, oX9 vM_49 qM), (qM 17, rI cy 9 vM_st), (qM 22, rI cy 9 p1_145), (qM 15, rI cy 224 vM_r)]) (ws2 := (wX9_dampWhy cy aM qM vM_49 vM_st p1_145 vM_r)) (kRunS (As := [.int r133]) (rest := [.int (vM_49 27), .ref aM]) ⟨hx, hb, hml, hown, ht0⟩ (kX9_ones l D cy _ r133 r155 hc155 _ rfl) (va_cwS 1 ht0 (gS wd922 wd923 wd744 wd924) rfl rfl rfl (by decide +kernel) ⟨Nat.le_of_ble_eq_true rfl, Nat.le_of_ble_eq_true rfl⟩) hK hN hP hD [] rfl (by decide) rfl hl.1 rfl (Nat.le_of_ble_eq_true rfl) dX9_dampWhy_155 ⟨Nat.zero_le _, Nat.zero_le _⟩) hP hD hS hA [] [0, 1, 2, 3] rfl rfl (by decide) (by decide) [0, 1, 2, 3] (by decide) rfl rfl (fun H locs hP hD hS => ?_)
            refine lv_iadd hx hb dX9_dampWhy_158 ?_
            refine va_put (D := D) (ci := 8) (v := .int ((vM_49 27) + r155)) (ty := .int) (C := RX9) (T := TX9) (N := 29) hx hb ht0 niX9 tyX9 tyX9_ok nmX9 hown hK hP hD hS 0 rfl rfl 27 (by decide) (ht0 _ wd1013) (fun _ h9 => h9) rfl (by decide +kernel) rfl rfl (Nat.le_of_ble_eq_true rfl) dX9_dampWhy_159 (fun H locs hP hD hS => ?_)
            have hP : va_P D vwCl (wX9_dampWhy cy aM qM (upd vM_49 27 ((vM_49 27) + r155)) vM_st p1_145 vM_r) H := hP
            have hD : va_D A (wX9_dampWhy cy aM qM (upd vM_49 27 ((vM_49 27) + r155)) vM_st p1_145 vM_r) := hD
            refine lv_iload hx hb dX9_dampWhy_162 (lv_at hl 3 rfl) ?_
            refine lv_if_lt (tgt := 192) hx hb dX9_dampWhy_164 (by decide) (fun c164 => ?_) (fun c164 => ?_)
            · have hok := k_pos c164 hok
              exact J192 y6_68 p1_145 (upd vM_49 27 ((vM_49 27) + r155)) H locs ls hP hD hS (lv_sub hl [1, 2, 3, 4, 5, 6] rfl) hok
            · have hok := k_neg c164 hok
              refine lv_aload_n hx hb dX9_dampWhy_167 rfl (lv_at hl 1 rfl) ?_
              refine va_get (D := D) (ci := 8) (v := .int (vM_49 28)) (C := RX9) (T := TX9) (N := 29) hx hb ht0 niX9 hown hK hP 0 rfl rfl 28 (by decide) (ht0 _ wd1014) (fun _ h9 => h9) rfl dX9_dampWhy_168 ?_
              refine lv_if_ne (tgt := 192) hx hb dX9_dampWhy_171 (by decide) (fun c171 => ?_) (fun c171 => ?_)
              · have hok := k_neg c171 hok
                exact J192 y6_68 p1_145 (upd vM_49 27 ((vM_49 27) + r155)) H locs ls hP hD hS (lv_sub hl [1, 2, 3, 4, 5, 6] rfl) hok
              · have hok := k_pos c171 hok
                refine lv_aload_n hx hb dX9_dampWhy_174 rfl (lv_at hl 1 rfl) ?_
                refine va_get (D := D) (ci := 8) (v := .ref (qM 22)) (C := RX9) (T := TX9) (N := 29) hx hb ht0 niX9 hown hK hP 0 rfl rfl 22 (by decide) (ht0 _ wd921) (fun _ h9 => h9) rfl dX9_dampWhy_175 ?_
                refine lv_iload hx hb dX9_dampWhy_178 (lv_at hl 3 rfl) ?_
                obtain ⟨g180, hok⟩ := gd_some hok
                refine va_iald hx hb hK hP 2 0 rfl rfl (okI_in g180) dX9_dampWhy_180 ?_
                refine lv_iload hx hb dX9_dampWhy_181 (lv_at hl 4 rfl) ?_
                refine lv_icmp_ne (tgt := 192) hx hb dX9_dampWhy_183 (by decide) (fun c183 => ?_) (fun c183 => ?_)
                · have hok := k_neg c183 hok
                  exact J192 y6_68 p1_145 (upd vM_49 27 ((vM_49 27) + r155)) H locs ls hP hD hS (lv_sub hl [1, 2, 3, 4, 5, 6] rfl) hok
                · have hok := k_pos c183 hok
                  refine lv_aload_n hx hb dX9_dampWhy_186 rfl (lv_at hl 1 rfl) ?_
                  refine lv_iload hx hb dX9_dampWhy_187 (lv_at hl 6 rfl) ?_
                  refine va_put (D := D) (ci := 8) (v := .int y7_49) (ty := .int) (C := RX9) (T := TX9) (N := 29) hx hb ht0 niX9 tyX9 tyX9_ok nmX9 hown hK hP hD hS 0 rfl rfl 28 (by decide) (ht0 _ wd1014) (fun _ h9 => h9) rfl (by decide +kernel) rfl rfl (Nat.le_of_ble_eq_true rfl) dX9_dampWhy_189 (fun H locs hP hD hS => ?_)
                  have hP : va_P D vwCl (wX9_dampWhy cy aM qM (upd (upd vM_49 27 ((vM_49 27) + r155)) 28 y7_49) vM_st p1_145 vM_r) H := hP
                  have hD : va_D A (wX9_dampWhy cy aM qM (upd (upd vM_49 27 ((vM_49 27) + r155)) 28 y7_49) vM_st p1_145 vM_r) := hD
                  exact J192 y6_68 p1_145 (upd (upd vM_49 27 ((vM_49 27) + r155)) 28 y7_49) H locs ls hP hD hS (lv_sub hl [1, 2, 3, 4, 5, 6] rfl) hok
          · have hok := k_neg c76 hok
            refine lv_bipush (v := 75) hx hb dX9_dampWhy_79 (by decide) ?_
            refine lv_iload hx hb dX9_dampWhy_81 (lv_at hl 4 rfl) ?_
            refine lv_imul hx hb dX9_dampWhy_83 ?_
            refine lv_bipush (v := 74) hx hb dX9_dampWhy_84 (by decide) ?_
            refine lv_iadd hx hb dX9_dampWhy_86 ?_
            refine lv_ldcw (v := 65537) hx hb hown (ht0 _ wd1012) dX9_dampWhy_87 ?_
            refine lv_irem hx hb dX9_dampWhy_90 (by decide) ?_
            refine lv_istore (lv' := [(6, .int (irm (((75 : Int32) * y6_68) + (74 : Int32)) (65537 : Int32))), (0, .ref aM), (3, .int x3), (4, .int x4), (5, .int x5), (7, .int y7_49), (8, .int y8_68), (9, .int y9_68)]) hx hb dX9_dampWhy_91 hl (by decide) rfl (fun ls hl => ?_)
            refine lv_iload hx hb dX9_dampWhy_93 (lv_at hl 6 rfl) ?_
            refine lv_iload hx hb dX9_dampWhy_95 (lv_at hl 0 rfl) ?_
            refine lv_bipush (v := 100) hx hb dX9_dampWhy_97 (by decide) ?_
            refine lv_irem hx hb dX9_dampWhy_99 (by decide) ?_
            refine lv_aload_n hx hb dX9_dampWhy_100 rfl (lv_at hl 1 rfl) ?_
            refine va_get (D := D) (ci := 8) (v := .ref (qM 15)) (C := RX9) (T := TX9) (N := 29) hx hb ht0 niX9 hown hK hP 0 rfl rfl 15 (by decide) (ht0 _ wd854) (fun _ h9 => h9) rfl dX9_dampWhy_101 ?_
            refine lv_iconst (v := 1) hx hb dX9_dampWhy_104 (by decide) ?_
            obtain ⟨g105, hok⟩ := gd_some hok
            refine va_iald hx hb hK hP 3 0 rfl rfl (okI_in g105) dX9_dampWhy_105 ?_
            refine lv_icmp_ge (tgt := 116) hx hb dX9_dampWhy_106 (by decide) (fun c106 => ?_) (fun c106 => ?_)
            · have hok := k_pos c106 hok
              refine lv_iconst (v := 0) hx hb dX9_dampWhy_116 (by decide) ?_
              exact J117 (0 : Int32) H locs ls hP hD hS (lv_sub hl [1, 2, 3, 4, 0, 5, 7] rfl) hok
            · have hok := k_neg c106 hok
              refine lv_iconst (v := 1) hx hb dX9_dampWhy_109 (by decide) ?_
              refine lv_iload hx hb dX9_dampWhy_110 (lv_at hl 7 rfl) ?_
              refine lv_ishl hx hb dX9_dampWhy_112 ?_
              refine lv_goto (tgt := 117) hx hb dX9_dampWhy_113 (by decide) ?_
              exact J117 (isl (1 : Int32) y9_68) H locs ls hP hD hS (lv_sub hl [1, 2, 3, 4, 0, 5, 7] rfl) hok
      unfold fX9_dampWhy_B49 at hok
      try dsimp only at hok
      refine lv_iload hx hb dX9_dampWhy_49 (lv_at hl 5 rfl) ?_
      refine lv_iload_n hx hb dX9_dampWhy_51 rfl (lv_at hl 1 rfl) ?_
      refine lv_icmp_gt (tgt := 198) hx hb dX9_dampWhy_52 (by decide) (fun c52 => ?_) (fun c52 => ?_)
      · have hok := k_pos c52 hok
        obtain ⟨e49, hok, he49⟩ := ex_some hok
        have hok := hok.trans (congrArg some (hL49 _ he49))
        refine lv_iconst (v := 0) hx hb dX9_dampWhy_198 (by decide) ?_
        cases hok
        subst hQe; exact W.iret hx hb hr (fun t ht hW => ⟨⟨_, (), rfl, rfl, by rw [ht]; exact hP, va_K.moved hW.alike hK, hD⟩, hS.F ht⟩) hS.2.2 dX9_dampWhy_199
      · have hok := k_neg c52 hok
        refine lv_aload_n hx hb dX9_dampWhy_55 rfl (lv_at hl 0 rfl) ?_
        refine lv_aload_n hx hb dX9_dampWhy_56 rfl (lv_at hl 0 rfl) ?_
        refine va_get (D := D) (ci := 8) (v := .ref (qM 22)) (C := RX9) (T := TX9) (N := 29) hx hb ht0 niX9 hown hK hP 0 rfl rfl 22 (by decide) (ht0 _ wd921) (fun _ h9 => h9) rfl dX9_dampWhy_57 ?_
        obtain ⟨r60, hc60, hok⟩ := k_bind hok
        refine kCi (wc := (wX9_fixed cy aM (qM 22) qM vM_49 vM_r 9 vM_trial_49)) (wc2 := (wX9_fixed cy aM (qM 22) qM vM_49 vM_r 9 vM_trial_49)) (wr := [(qM 17, rI cy 9 vM_st)]) (ws2 := (wX9_dampWhy cy aM qM vM_49 vM_st vM_trial_49 vM_r)) (kRunV (As := [.ref (qM 22)]) (rest := []) ⟨hx, hb, hml, hown, ht0⟩ (kX9_fixed l D cy _ aM (qM 22) qM vM_49 vM_r 9 vM_trial_49 r60 hc60 _ rfl) (cwV 1 ht0 (gV wd905 wd906 wd907 wd744 wd908) rfl rfl rfl (by decide +kernel) ⟨Nat.le_of_ble_eq_true rfl, Nat.le_of_ble_eq_true rfl⟩) hK hN hP hD [0, 3, 2] rfl (by decide) 0 8 rfl rfl rfl hl.1 rfl (Nat.le_of_ble_eq_true rfl) dX9_dampWhy_60 ⟨Nat.zero_le _, Nat.zero_le _⟩) hP hD hS hA [0, 3, 2] [1] rfl rfl (by decide) (by decide) [1, 0, 3, 2] (by decide) rfl rfl (fun H locs hP hD hS => ?_)
        refine lv_istore (lv' := [(8, .int r60), (0, .ref aM), (3, .int x3), (4, .int x4), (5, .int x5), (6, .int y6_49), (7, .int y7_49)]) hx hb dX9_dampWhy_63 hl (by decide) rfl (fun ls hl => ?_)
        refine lv_iconst (v := 0) hx hb dX9_dampWhy_65 (by decide) ?_
        refine lv_istore (lv' := [(9, .int 0), (8, .int r60), (0, .ref aM), (3, .int x3), (4, .int x4), (5, .int x5), (6, .int y6_49), (7, .int y7_49)]) hx hb dX9_dampWhy_66 hl (by decide) rfl (fun ls hl => ?_)
        exact L68 5000 y6_49 r60 (0 : Int32) H locs ls hP hD hS (lv_sub hl [2, 3, 4, 5, 6, 7, 1, 0] rfl) hok
  have J27 : ∀ (H : Heap) (locs : List Loc) (ls : Array Slot), va_P D vwCl (wX9_dampWhy cy aM qM vM vM_st vM_trial vM_r) H → va_D A (wX9_dampWhy cy aM qM vM vM_st vM_trial vM_r) → va_S A s.heap H locs → lv_has ls 10 [] → fX9_dampWhy_J27 vM vM_trial = some (zr, z_vM, z_vM_trial) → W p l e ({ frames := 3, cells := 0, slots := 0, locals := 71 } : Room) s m ([.ref aM, .int x1, .int x2, .int x3, .int x4, .int x5] : List Value).toArray below meth c H locs 0 0 Q (F0 m 27 ls []) := by
    intro  H locs ls hP hD hS hl hok
    unfold fX9_dampWhy_J27 at hok
    refine lv_iconst (v := 2) hx hb dX9_dampWhy_27 (by decide) ?_
    cases hok
    subst hQe; exact W.iret hx hb hr (fun t ht hW => ⟨⟨_, (), rfl, rfl, by rw [ht]; exact hP, va_K.moved hW.alike hK, hD⟩, hS.F ht⟩) hS.2.2 dX9_dampWhy_28
  unfold fX9_dampWhy at hok
  obtain ⟨H, hH⟩ : ∃ H, H = s.heap := ⟨_, rfl⟩
  obtain ⟨locs, hlc⟩ : ∃ x : List Loc, x = [] := ⟨_, rfl⟩
  have hP : va_P D vwCl (wX9_dampWhy cy aM qM vM vM_st vM_trial vM_r) H := by rw [hH]; exact hP
  have hS : va_S A s.heap H locs := by rw [hH, hlc]; exact hS
  rw [show W p l e _ s m _ below meth c s.heap [] = W p l e _ s m _ below meth c H locs from by rw [hH, hlc]]
  refine lv_iload_n hx hb dX9_dampWhy_0 rfl (lv_at hl 1 rfl) ?_
  refine lv_if_ne (tgt := 6) hx hb dX9_dampWhy_1 (by decide) (fun c1 => ?_) (fun c1 => ?_)
  · have hok := k_neg c1 hok
    refine lv_iload_n hx hb dX9_dampWhy_6 rfl (lv_at hl 2 rfl) ?_
    refine lv_iconst (v := 0) hx hb dX9_dampWhy_7 (by decide) ?_
    refine lv_ldcw (v := 65536) hx hb hown (ht0 _ wd1011) dX9_dampWhy_8 ?_
    obtain ⟨r11, hc11, hok⟩ := k_bind hok
    refine kCi (wc := (wX9_in cy )) (wc2 := (wX9_in cy )) (wr := [(aM, oX9 vM qM), (qM 17, rI cy 9 vM_st), (qM 22, rI cy 9 vM_trial), (qM 15, rI cy 224 vM_r)]) (ws2 := (wX9_dampWhy cy aM qM vM vM_st vM_trial vM_r)) (kRunS (As := [.int x2, .int 0, .int 65536]) (rest := []) ⟨hx, hb, hml, hown, ht0⟩ (kX9_in l D cy _ x2 (0 : Int32) (65536 : Int32) r11 hc11 _ rfl) (va_cwS 3 ht0 (gS wd787 wd788 wd744 wd789) rfl rfl rfl (by decide +kernel) ⟨Nat.le_of_ble_eq_true rfl, Nat.le_of_ble_eq_true rfl⟩) hK hN hP hD [] rfl (by decide) rfl hl.1 rfl (Nat.le_of_ble_eq_true rfl) dX9_dampWhy_11 ⟨Nat.zero_le _, Nat.zero_le _⟩) hP hD hS hA [] [0, 1, 2, 3] rfl rfl (by decide) (by decide) [0, 1, 2, 3] (by decide) rfl rfl (fun H locs hP hD hS => ?_)
    refine lv_if_eq (tgt := 27) hx hb dX9_dampWhy_14 (by decide) (fun c14 => ?_) (fun c14 => ?_)
    · have hok := k_pos c14 hok
      exact J27  H locs ls hP hD hS (lv_sub hl [] rfl) hok
    · have hok := k_neg c14 hok
      refine lv_iload_n hx hb dX9_dampWhy_17 rfl (lv_at hl 3 rfl) ?_
      refine lv_iconst (v := 0) hx hb dX9_dampWhy_18 (by decide) ?_
      refine lv_bipush (v := 60) hx hb dX9_dampWhy_19 (by decide) ?_
      obtain ⟨r21, hc21, hok⟩ := k_bind hok
      refine kCi (wc := (wX9_in cy )) (wc2 := (wX9_in cy )) (wr := [(aM, oX9 vM qM), (qM 17, rI cy 9 vM_st), (qM 22, rI cy 9 vM_trial), (qM 15, rI cy 224 vM_r)]) (ws2 := (wX9_dampWhy cy aM qM vM vM_st vM_trial vM_r)) (kRunS (As := [.int x3, .int 0, .int 60]) (rest := []) ⟨hx, hb, hml, hown, ht0⟩ (kX9_in l D cy _ x3 (0 : Int32) (60 : Int32) r21 hc21 _ rfl) (va_cwS 3 ht0 (gS wd787 wd788 wd744 wd789) rfl rfl rfl (by decide +kernel) ⟨Nat.le_of_ble_eq_true rfl, Nat.le_of_ble_eq_true rfl⟩) hK hN hP hD [] rfl (by decide) rfl hl.1 rfl (Nat.le_of_ble_eq_true rfl) dX9_dampWhy_21 ⟨Nat.zero_le _, Nat.zero_le _⟩) hP hD hS hA [] [0, 1, 2, 3] rfl rfl (by decide) (by decide) [0, 1, 2, 3] (by decide) rfl rfl (fun H locs hP hD hS => ?_)
      refine lv_if_ne (tgt := 29) hx hb dX9_dampWhy_24 (by decide) (fun c24 => ?_) (fun c24 => ?_)
      · have hok := k_neg c24 hok
        refine lv_aload_n hx hb dX9_dampWhy_29 rfl (lv_at hl 0 rfl) ?_
        obtain ⟨vM_trial_30, hc30, hok⟩ := k_bind hok
        refine kCv (wc := (wX9_begin cy aM qM vM vM_st vM_trial)) (wc2 := (wX9_begin cy aM qM vM vM_st vM_trial_30)) (wr := [(qM 15, rI cy 224 vM_r)]) (ws2 := (wX9_dampWhy cy aM qM vM vM_st vM_trial_30 vM_r)) (kRunV (As := []) (rest := []) ⟨hx, hb, hml, hown, ht0⟩ (kX9_begin l D cy _ aM qM vM vM_st vM_trial vM_trial_30 hc30 _ rfl) (cwV 0 ht0 (gV wd948 wd949 wd950 wd744 wd951) rfl rfl rfl (by decide +kernel) ⟨Nat.le_of_ble_eq_true rfl, Nat.le_of_ble_eq_true rfl⟩) hK hN hP hD [0, 1, 2] rfl (by decide) 0 8 rfl rfl rfl hl.1 rfl (Nat.le_of_ble_eq_true rfl) dX9_dampWhy_30 ⟨Nat.zero_le _, Nat.zero_le _⟩) hP hD hS hA [0, 1, 2] [3] rfl rfl (by decide) (by decide) [1, 2, 3, 0] (by decide) rfl rfl (fun H locs hP hD hS => ?_)
        refine lv_aload_n hx hb dX9_dampWhy_33 rfl (lv_at hl 0 rfl) ?_
        refine lv_iconst (v := 0) hx hb dX9_dampWhy_34 (by decide) ?_
        refine va_put (D := D) (ci := 8) (v := .int 0) (ty := .int) (C := RX9) (T := TX9) (N := 29) hx hb ht0 niX9 tyX9 tyX9_ok nmX9 hown hK hP hD hS 0 rfl rfl 27 (by decide) (ht0 _ wd1013) (fun _ h9 => h9) rfl (by decide +kernel) rfl rfl (Nat.le_of_ble_eq_true rfl) dX9_dampWhy_35 (fun H locs hP hD hS => ?_)
        have hP : va_P D vwCl (wX9_dampWhy cy aM qM (upd vM 27 (0 : Int32)) vM_st vM_trial_30 vM_r) H := hP
        have hD : va_D A (wX9_dampWhy cy aM qM (upd vM 27 (0 : Int32)) vM_st vM_trial_30 vM_r) := hD
        refine lv_aload_n hx hb dX9_dampWhy_38 rfl (lv_at hl 0 rfl) ?_
        refine lv_iconst (v := 0) hx hb dX9_dampWhy_39 (by decide) ?_
        refine va_put (D := D) (ci := 8) (v := .int 0) (ty := .int) (C := RX9) (T := TX9) (N := 29) hx hb ht0 niX9 tyX9 tyX9_ok nmX9 hown hK hP hD hS 0 rfl rfl 28 (by decide) (ht0 _ wd1014) (fun _ h9 => h9) rfl (by decide +kernel) rfl rfl (Nat.le_of_ble_eq_true rfl) dX9_dampWhy_40 (fun H locs hP hD hS => ?_)
        have hP : va_P D vwCl (wX9_dampWhy cy aM qM (upd (upd vM 27 (0 : Int32)) 28 (0 : Int32)) vM_st vM_trial_30 vM_r) H := hP
        have hD : va_D A (wX9_dampWhy cy aM qM (upd (upd vM 27 (0 : Int32)) 28 (0 : Int32)) vM_st vM_trial_30 vM_r) := hD
        refine lv_iload_n hx hb dX9_dampWhy_43 rfl (lv_at hl 2 rfl) ?_
        refine lv_istore (lv' := [(6, .int x2), (0, .ref aM), (1, .int x1), (2, .int x2), (3, .int x3), (4, .int x4), (5, .int x5)]) hx hb dX9_dampWhy_44 hl (by decide) rfl (fun ls hl => ?_)
        refine lv_iconst (v := 1) hx hb dX9_dampWhy_46 (by decide) ?_
        refine lv_istore (lv' := [(7, .int 1), (6, .int x2), (0, .ref aM), (1, .int x1), (2, .int x2), (3, .int x3), (4, .int x4), (5, .int x5)]) hx hb dX9_dampWhy_47 hl (by decide) rfl (fun ls hl => ?_)
        exact L49 5000 x2 (1 : Int32) vM_trial_30 (upd (upd vM 27 (0 : Int32)) 28 (0 : Int32)) H locs ls hP hD hS (lv_sub hl [2, 5, 6, 7, 1, 0] rfl) hok
      · have hok := k_pos c24 hok
        exact J27  H locs ls hP hD hS (lv_sub hl [] rfl) hok
  · have hok := k_pos c1 hok
    refine lv_iconst (v := 1) hx hb dX9_dampWhy_4 (by decide) ?_
    cases hok
    subst hQe; exact W.iret hx hb hr (fun t ht hW => ⟨⟨_, (), rfl, rfl, by rw [ht]; exact hP, va_K.moved hW.alike hK, hD⟩, hS.F ht⟩) hS.2.2 dX9_dampWhy_5
def wsX9_damp : List Cond := .code yX9_damp cX9_damp 5 (some .int) :: W0
abbrev wX9_damp (cy : Nat → ClassId) (aM : Nat) (qM : Nat → Nat) (vM : Nat → Int32) (vM_r : Nat → Int32) (vM_st : Nat → Int32) (vM_trial : Nat → Int32) : va_W := [(aM, oX9 vM qM), (qM 15, rI cy 224 vM_r), (qM 17, rI cy 9 vM_st), (qM 22, rI cy 9 vM_trial)]
set_option maxHeartbeats 4000000 in
set_option maxRecDepth 100000 in
theorem kX9_damp (l : Launch) (D : va_G) (cy : Nat → ClassId) (sz : Nat) (aM : Nat) (qM : Nat → Nat) (vM : Nat → Int32) (vM_r : Nat → Int32) (vM_st : Nat → Int32) (vM_trial : Nat → Int32) (x1 : Int32) (x2 : Int32) (x3 : Int32) (zr : Int32) (z_vM : Nat → Int32) (z_vM_trial : Nat → Int32) (hok : fX9_damp vM vM_r vM_st vM_trial x1 x2 x3 = some (zr, z_vM, z_vM_trial)) (A : Nat → Prop) (hAe : va_A (wX9_damp cy aM qM vM vM_r vM_st vM_trial) sz = A) : Met l yX9_damp wsX9_damp ({ frames := 4, cells := 0, slots := 0, locals := 100 } : Room) (kPre D cy [.ref aM, .int x1, .int x2, .int x3] (wX9_damp cy aM qM vM vM_r vM_st vM_trial) sz) (kQi D cy zr A (wX9_damp cy aM qM z_vM vM_r vM_st z_vM_trial)) 0 0 A := by
  refine Met.ofW (cc := cX9_damp) (maxL := 5) (ret := (some .int)) (by decide) rfl ?_
  intro p e s m args below meth c s₁ B hml hv
  obtain ⟨rfl, hsz, hP, hK, hD0, hN⟩ := hv
  have hx := B.exec
  have hb := B.bytes
  have hr := B.returns
  have ht0 : ∀ w ∈ W0, w.before _ s = true := fun w h => atoms_spec (ws := wsX9_damp) B.pre w (List.mem_cons_of_mem _ h)
  have hown : s.vm.findClass RX9 = some m.cls := findClass_of_methodNamed B.named
  have hlocks := B.notSynchronized
  subst hsz
  have hD : va_D A (wX9_damp cy aM qM vM vM_r vM_st vM_trial) := by rw [← hAe]; exact hD0.self
  have hA : ∀ q : Nat, s.heap.size ≤ q → A q := fun q h => by rw [← hAe]; exact Or.inr h
  have hS : va_S A s.heap s.heap [] := va_S.rf
  have hl := lv_entry ([.ref aM, .int x1, .int x2, .int x3]) (n := 5) (Nat.le_of_ble_eq_true rfl)
  rw [lg_entry_eq]
  generalize (lg_sl ([.ref aM, .int x1, .int x2, .int x3]) ++ List.replicate (5 - (lg_sl ([.ref aM, .int x1, .int x2, .int x3])).length) Slot.unset).toArray = ls at hl ⊢
  have hl : lv_has ls 5 [(0, .ref aM), (1, .int x1), (2, .int x2), (3, .int x3)] := hl
  generalize hQe : MQ below (kQi D cy zr A (wX9_damp cy aM qM z_vM vM_r vM_st z_vM_trial)) ([.ref aM, .int x1, .int x2, .int x3] : List Value).toArray s 0 0 A = Q
  have J42 : ∀ (t0_42 : Int32) (vM_trial_42 : Nat → Int32) (vM_42 : Nat → Int32), ∀ (H : Heap) (locs : List Loc) (ls : Array Slot), va_P D vwCl (wX9_damp cy aM qM vM_42 vM_r vM_st vM_trial_42) H → va_D A (wX9_damp cy aM qM vM_42 vM_r vM_st vM_trial_42) → va_S A s.heap H locs → lv_has ls 5 [] → fX9_damp_J42 t0_42 vM_trial_42 vM_42 = some (zr, z_vM, z_vM_trial) → W p l e ({ frames := 4, cells := 0, slots := 0, locals := 100 } : Room) s m ([.ref aM, .int x1, .int x2, .int x3] : List Value).toArray below meth c H locs 0 0 Q (F0 m 42 ls [.int t0_42]) := by
    intro t0_42 vM_trial_42 vM_42 H locs ls hP hD hS hl hok
    unfold fX9_damp_J42 at hok
    cases hok
    subst hQe; exact W.iret hx hb hr (fun t ht hW => ⟨⟨_, (), rfl, rfl, by rw [ht]; exact hP, va_K.moved hW.alike hK, hD⟩, hS.F ht⟩) hS.2.2 dX9_damp_42
  unfold fX9_damp at hok
  obtain ⟨H, hH⟩ : ∃ H, H = s.heap := ⟨_, rfl⟩
  obtain ⟨locs, hlc⟩ : ∃ x : List Loc, x = [] := ⟨_, rfl⟩
  have hP : va_P D vwCl (wX9_damp cy aM qM vM vM_r vM_st vM_trial) H := by rw [hH]; exact hP
  have hS : va_S A s.heap H locs := by rw [hH, hlc]; exact hS
  rw [show W p l e _ s m _ below meth c s.heap [] = W p l e _ s m _ below meth c H locs from by rw [hH, hlc]]
  refine lv_aload_n hx hb dX9_damp_0 rfl (lv_at hl 0 rfl) ?_
  obtain ⟨vM_1, hc1, hok⟩ := k_bind hok
  refine kCv (wc := (wX9_good cy aM qM vM)) (wc2 := (wX9_good cy aM qM vM_1)) (wr := [(qM 15, rI cy 224 vM_r), (qM 17, rI cy 9 vM_st), (qM 22, rI cy 9 vM_trial)]) (ws2 := (wX9_damp cy aM qM vM_1 vM_r vM_st vM_trial)) (kRunV (As := []) (rest := []) ⟨hx, hb, hml, hown, ht0⟩ (kX9_good l D cy _ aM qM vM vM_1 hc1 _ rfl) (cwV 0 ht0 (gV wd870 wd871 wd872 wd744 wd873) rfl rfl rfl (by decide +kernel) ⟨Nat.le_of_ble_eq_true rfl, Nat.le_of_ble_eq_true rfl⟩) hK hN hP hD [0] rfl (by decide) 0 8 rfl rfl rfl hl.1 rfl (Nat.le_of_ble_eq_true rfl) dX9_damp_1 ⟨Nat.zero_le _, Nat.zero_le _⟩) hP hD hS hA [0] [1, 2, 3] rfl rfl (by decide) (by decide) [3, 0, 1, 2] (by decide) rfl rfl (fun H locs hP hD hS => ?_)
  refine lv_aload_n hx hb dX9_damp_4 rfl (lv_at hl 0 rfl) ?_
  refine lv_aload_n hx hb dX9_damp_5 rfl (lv_at hl 0 rfl) ?_
  refine lv_iload_n hx hb dX9_damp_6 rfl (lv_at hl 1 rfl) ?_
  obtain ⟨r7, hc7, hok⟩ := k_bind hok
  refine kCi (wc := (wX9_isThing cy aM qM vM_1 vM_r)) (wc2 := (wX9_isThing cy aM qM vM_1 vM_r)) (wr := [(qM 17, rI cy 9 vM_st), (qM 22, rI cy 9 vM_trial)]) (ws2 := (wX9_damp cy aM qM vM_1 vM_r vM_st vM_trial)) (kRunV (As := [.int x1]) (rest := [.ref aM]) ⟨hx, hb, hml, hown, ht0⟩ (kX9_isThing l D cy _ aM qM vM_1 vM_r x1 r7 hc7 _ rfl) (cwV 1 ht0 (gV wd925 wd926 wd927 wd744 wd928) rfl rfl rfl (by decide +kernel) ⟨Nat.le_of_ble_eq_true rfl, Nat.le_of_ble_eq_true rfl⟩) hK hN hP hD [0, 1] rfl (by decide) 0 8 rfl rfl rfl hl.1 rfl (Nat.le_of_ble_eq_true rfl) dX9_damp_7 ⟨Nat.zero_le _, Nat.zero_le _⟩) hP hD hS hA [0, 1] [2, 3] rfl rfl (by decide) (by decide) [2, 3, 0, 1] (by decide) rfl rfl (fun H locs hP hD hS => ?_)
  refine lv_iload_n hx hb dX9_damp_10 rfl (lv_at hl 2 rfl) ?_
  refine lv_iload_n hx hb dX9_damp_11 rfl (lv_at hl 3 rfl) ?_
  refine lv_iconst (v := -1) hx hb dX9_damp_12 (by decide) ?_
  refine lv_iconst (v := 0) hx hb dX9_damp_13 (by decide) ?_
  obtain ⟨⟨r14, vM_14, vM_trial_14⟩, hc14, hok⟩ := k_bind hok
  try dsimp only at hok
  refine kCi (wc := (wX9_dampWhy cy aM qM vM_1 vM_st vM_trial vM_r)) (wc2 := (wX9_dampWhy cy aM qM vM_14 vM_st vM_trial_14 vM_r)) (wr := []) (ws2 := (wX9_damp cy aM qM vM_14 vM_r vM_st vM_trial_14)) (kRunV (As := [.int r7, .int x2, .int x3, .int (-1), .int 0]) (rest := []) ⟨hx, hb, hml, hown, ht0⟩ (kX9_dampWhy l D cy _ aM qM vM_1 vM_st vM_trial vM_r r7 x2 x3 (-1 : Int32) (0 : Int32) r14 vM_14 vM_trial_14 hc14 _ rfl) (cwV 5 ht0 (gV wd1015 wd1016 wd1017 wd744 wd1018) rfl rfl rfl (by decide +kernel) ⟨Nat.le_of_ble_eq_true rfl, Nat.le_of_ble_eq_true rfl⟩) hK hN hP hD [0, 2, 3, 1] rfl (by decide) 0 8 rfl rfl rfl hl.1 rfl (Nat.le_of_ble_eq_true rfl) dX9_damp_14 ⟨Nat.zero_le _, Nat.zero_le _⟩) hP hD hS hA [0, 2, 3, 1] [] rfl rfl (by decide) (by decide) [0, 3, 1, 2] (by decide) rfl rfl (fun H locs hP hD hS => ?_)
  refine lv_istore (lv' := [(4, .int r14), (0, .ref aM), (1, .int x1), (2, .int x2), (3, .int x3)]) hx hb dX9_damp_17 hl (by decide) rfl (fun ls hl => ?_)
  refine lv_iload hx hb dX9_damp_19 (lv_at hl 0 rfl) ?_
  refine lv_if_eq (tgt := 33) hx hb dX9_damp_21 (by decide) (fun c21 => ?_) (fun c21 => ?_)
  · have hok := k_pos c21 hok
    refine lv_aload_n hx hb dX9_damp_33 rfl (lv_at hl 1 rfl) ?_
    refine va_get (D := D) (ci := 8) (v := .ref (qM 22)) (C := RX9) (T := TX9) (N := 29) hx hb ht0 niX9 hown hK hP 0 rfl rfl 22 (by decide) (ht0 _ wd921) (fun _ h9 => h9) rfl dX9_damp_34 ?_
    refine lv_iload_n hx hb dX9_damp_37 rfl (lv_at hl 2 rfl) ?_
    obtain ⟨g38, hok⟩ := gd_some hok
    refine va_iald hx hb hK hP 3 0 rfl rfl (okI_in g38) dX9_damp_38 ?_
    obtain ⟨r39, hc39, hok⟩ := k_bind hok
    refine kCi (wc := (wX9_coded cy )) (wc2 := (wX9_coded cy )) (wr := [(aM, oX9 vM_14 qM), (qM 15, rI cy 224 vM_r), (qM 17, rI cy 9 vM_st), (qM 22, rI cy 9 vM_trial_14)]) (ws2 := (wX9_damp cy aM qM vM_14 vM_r vM_st vM_trial_14)) (kRunS (As := [.int (vM_trial_14 x1.toNatClampNeg)]) (rest := []) ⟨hx, hb, hml, hown, ht0⟩ (kX9_coded l D cy _ (vM_trial_14 x1.toNatClampNeg) r39 hc39 _ rfl) (va_cwS 1 ht0 (gS wd937 wd938 wd744 wd939) rfl rfl rfl (by decide +kernel) ⟨Nat.le_of_ble_eq_true rfl, Nat.le_of_ble_eq_true rfl⟩) hK hN hP hD [] rfl (by decide) rfl hl.1 rfl (Nat.le_of_ble_eq_true rfl) dX9_damp_39 ⟨Nat.zero_le _, Nat.zero_le _⟩) hP hD hS hA [] [0, 1, 2, 3] rfl rfl (by decide) (by decide) [0, 1, 2, 3] (by decide) rfl rfl (fun H locs hP hD hS => ?_)
    exact J42 r39 vM_trial_14 vM_14 H locs ls hP hD hS (lv_sub hl [] rfl) hok
  · have hok := k_neg c21 hok
    refine lv_aload_n hx hb dX9_damp_24 rfl (lv_at hl 1 rfl) ?_
    refine lv_iload hx hb dX9_damp_25 (lv_at hl 0 rfl) ?_
    obtain ⟨⟨r27, vM_27⟩, hc27, hok⟩ := k_bind hok
    try dsimp only at hok
    refine kCi (wc := (wX9_no cy aM qM vM_14)) (wc2 := (wX9_no cy aM qM vM_27)) (wr := [(qM 15, rI cy 224 vM_r), (qM 17, rI cy 9 vM_st), (qM 22, rI cy 9 vM_trial_14)]) (ws2 := (wX9_damp cy aM qM vM_27 vM_r vM_st vM_trial_14)) (kRunV (As := [.int r14]) (rest := []) ⟨hx, hb, hml, hown, ht0⟩ (kX9_no l D cy _ aM qM vM_14 r14 r27 vM_27 hc27 _ rfl) (cwV 1 ht0 (gV wd862 wd863 wd864 wd744 wd865) rfl rfl rfl (by decide +kernel) ⟨Nat.le_of_ble_eq_true rfl, Nat.le_of_ble_eq_true rfl⟩) hK hN hP hD [0] rfl (by decide) 0 8 rfl rfl rfl hl.1 rfl (Nat.le_of_ble_eq_true rfl) dX9_damp_27 ⟨Nat.zero_le _, Nat.zero_le _⟩) hP hD hS hA [0] [1, 2, 3] rfl rfl (by decide) (by decide) [3, 0, 1, 2] (by decide) rfl rfl (fun H locs hP hD hS => ?_)
    refine lv_goto (tgt := 42) hx hb dX9_damp_30 (by decide) ?_
    exact J42 r27 vM_trial_14 vM_27 H locs ls hP hD hS (lv_sub hl [] rfl) hok
def wsX9_dampSteps : List Cond := .code yX9_dampSteps cX9_dampSteps 4 (some .int) :: W0
abbrev wX9_dampSteps (cy : Nat → ClassId) (aM : Nat) (qM : Nat → Nat) (vM : Nat → Int32) (vM_st : Nat → Int32) (vM_trial : Nat → Int32) (vM_r : Nat → Int32) : va_W := [(aM, oX9 vM qM), (qM 17, rI cy 9 vM_st), (qM 22, rI cy 9 vM_trial), (qM 15, rI cy 224 vM_r)]
set_option maxHeartbeats 4000000 in
set_option maxRecDepth 100000 in
theorem kX9_dampSteps (l : Launch) (D : va_G) (cy : Nat → ClassId) (sz : Nat) (aM : Nat) (qM : Nat → Nat) (vM : Nat → Int32) (vM_st : Nat → Int32) (vM_trial : Nat → Int32) (vM_r : Nat → Int32) (x1 : Int32) (x2 : Int32) (zr : Int32) (z_vM : Nat → Int32) (z_vM_trial : Nat → Int32) (hok : fX9_dampSteps vM vM_st vM_trial vM_r x1 x2 = some (zr, z_vM, z_vM_trial)) (A : Nat → Prop) (hAe : va_A (wX9_dampSteps cy aM qM vM vM_st vM_trial vM_r) sz = A) : Met l yX9_dampSteps wsX9_dampSteps ({ frames := 4, cells := 0, slots := 0, locals := 100 } : Room) (kPre D cy [.ref aM, .int x1, .int x2] (wX9_dampSteps cy aM qM vM vM_st vM_trial vM_r) sz) (kQi D cy zr A (wX9_dampSteps cy aM qM z_vM vM_st z_vM_trial vM_r)) 0 0 A := by
  refine Met.ofW (cc := cX9_dampSteps) (maxL := 4) (ret := (some .int)) (by decide) rfl ?_
  intro p e s m args below meth c s₁ B hml hv
  obtain ⟨rfl, hsz, hP, hK, hD0, hN⟩ := hv
  have hx := B.exec
  have hb := B.bytes
  have hr := B.returns
  have ht0 : ∀ w ∈ W0, w.before _ s = true := fun w h => atoms_spec (ws := wsX9_dampSteps) B.pre w (List.mem_cons_of_mem _ h)
  have hown : s.vm.findClass RX9 = some m.cls := findClass_of_methodNamed B.named
  have hlocks := B.notSynchronized
  subst hsz
  have hD : va_D A (wX9_dampSteps cy aM qM vM vM_st vM_trial vM_r) := by rw [← hAe]; exact hD0.self
  have hA : ∀ q : Nat, s.heap.size ≤ q → A q := fun q h => by rw [← hAe]; exact Or.inr h
  have hS : va_S A s.heap s.heap [] := va_S.rf
  have hl := lv_entry ([.ref aM, .int x1, .int x2]) (n := 4) (Nat.le_of_ble_eq_true rfl)
  rw [lg_entry_eq]
  generalize (lg_sl ([.ref aM, .int x1, .int x2]) ++ List.replicate (4 - (lg_sl ([.ref aM, .int x1, .int x2])).length) Slot.unset).toArray = ls at hl ⊢
  have hl : lv_has ls 4 [(0, .ref aM), (1, .int x1), (2, .int x2)] := hl
  generalize hQe : MQ below (kQi D cy zr A (wX9_dampSteps cy aM qM z_vM vM_st z_vM_trial vM_r)) ([.ref aM, .int x1, .int x2] : List Value).toArray s 0 0 A = Q
  have J33 : ∀ (t0_33 : Int32) (vM_trial_33 : Nat → Int32) (vM_33 : Nat → Int32), ∀ (H : Heap) (locs : List Loc) (ls : Array Slot), va_P D vwCl (wX9_dampSteps cy aM qM vM_33 vM_st vM_trial_33 vM_r) H → va_D A (wX9_dampSteps cy aM qM vM_33 vM_st vM_trial_33 vM_r) → va_S A s.heap H locs → lv_has ls 4 [] → fX9_dampSteps_J33 t0_33 vM_trial_33 vM_33 = some (zr, z_vM, z_vM_trial) → W p l e ({ frames := 4, cells := 0, slots := 0, locals := 100 } : Room) s m ([.ref aM, .int x1, .int x2] : List Value).toArray below meth c H locs 0 0 Q (F0 m 33 ls [.int t0_33]) := by
    intro t0_33 vM_trial_33 vM_33 H locs ls hP hD hS hl hok
    unfold fX9_dampSteps_J33 at hok
    cases hok
    subst hQe; exact W.iret hx hb hr (fun t ht hW => ⟨⟨_, (), rfl, rfl, by rw [ht]; exact hP, va_K.moved hW.alike hK, hD⟩, hS.F ht⟩) hS.2.2 dX9_dampSteps_33
  unfold fX9_dampSteps at hok
  obtain ⟨H, hH⟩ : ∃ H, H = s.heap := ⟨_, rfl⟩
  obtain ⟨locs, hlc⟩ : ∃ x : List Loc, x = [] := ⟨_, rfl⟩
  have hP : va_P D vwCl (wX9_dampSteps cy aM qM vM vM_st vM_trial vM_r) H := by rw [hH]; exact hP
  have hS : va_S A s.heap H locs := by rw [hH, hlc]; exact hS
  rw [show W p l e _ s m _ below meth c s.heap [] = W p l e _ s m _ below meth c H locs from by rw [hH, hlc]]
  refine lv_aload_n hx hb dX9_dampSteps_0 rfl (lv_at hl 0 rfl) ?_
  obtain ⟨vM_1, hc1, hok⟩ := k_bind hok
  refine kCv (wc := (wX9_good cy aM qM vM)) (wc2 := (wX9_good cy aM qM vM_1)) (wr := [(qM 17, rI cy 9 vM_st), (qM 22, rI cy 9 vM_trial), (qM 15, rI cy 224 vM_r)]) (ws2 := (wX9_dampSteps cy aM qM vM_1 vM_st vM_trial vM_r)) (kRunV (As := []) (rest := []) ⟨hx, hb, hml, hown, ht0⟩ (kX9_good l D cy _ aM qM vM vM_1 hc1 _ rfl) (cwV 0 ht0 (gV wd870 wd871 wd872 wd744 wd873) rfl rfl rfl (by decide +kernel) ⟨Nat.le_of_ble_eq_true rfl, Nat.le_of_ble_eq_true rfl⟩) hK hN hP hD [0] rfl (by decide) 0 8 rfl rfl rfl hl.1 rfl (Nat.le_of_ble_eq_true rfl) dX9_dampSteps_1 ⟨Nat.zero_le _, Nat.zero_le _⟩) hP hD hS hA [0] [1, 2, 3] rfl rfl (by decide) (by decide) [3, 0, 1, 2] (by decide) rfl rfl (fun H locs hP hD hS => ?_)
  refine lv_aload_n hx hb dX9_dampSteps_4 rfl (lv_at hl 0 rfl) ?_
  refine lv_aload_n hx hb dX9_dampSteps_5 rfl (lv_at hl 0 rfl) ?_
  refine va_get (D := D) (ci := 8) (v := .int (vM_1 14)) (C := RX9) (T := TX9) (N := 29) hx hb ht0 niX9 hown hK hP 0 rfl rfl 14 (by decide) (ht0 _ wd855) (fun _ h9 => h9) rfl dX9_dampSteps_6 ?_
  refine lv_iload_n hx hb dX9_dampSteps_9 rfl (lv_at hl 1 rfl) ?_
  refine lv_iload_n hx hb dX9_dampSteps_10 rfl (lv_at hl 2 rfl) ?_
  refine lv_iconst (v := -1) hx hb dX9_dampSteps_11 (by decide) ?_
  refine lv_iconst (v := 0) hx hb dX9_dampSteps_12 (by decide) ?_
  obtain ⟨⟨r13, vM_13, vM_trial_13⟩, hc13, hok⟩ := k_bind hok
  try dsimp only at hok
  refine kCi (wc := (wX9_dampWhy cy aM qM vM_1 vM_st vM_trial vM_r)) (wc2 := (wX9_dampWhy cy aM qM vM_13 vM_st vM_trial_13 vM_r)) (wr := []) (ws2 := (wX9_dampSteps cy aM qM vM_13 vM_st vM_trial_13 vM_r)) (kRunV (As := [.int (vM_1 14), .int x1, .int x2, .int (-1), .int 0]) (rest := []) ⟨hx, hb, hml, hown, ht0⟩ (kX9_dampWhy l D cy _ aM qM vM_1 vM_st vM_trial vM_r (vM_1 14) x1 x2 (-1 : Int32) (0 : Int32) r13 vM_13 vM_trial_13 hc13 _ rfl) (cwV 5 ht0 (gV wd1015 wd1016 wd1017 wd744 wd1018) rfl rfl rfl (by decide +kernel) ⟨Nat.le_of_ble_eq_true rfl, Nat.le_of_ble_eq_true rfl⟩) hK hN hP hD [0, 1, 2, 3] rfl (by decide) 0 8 rfl rfl rfl hl.1 rfl (Nat.le_of_ble_eq_true rfl) dX9_dampSteps_13 ⟨Nat.zero_le _, Nat.zero_le _⟩) hP hD hS hA [0, 1, 2, 3] [] rfl rfl (by decide) (by decide) [0, 1, 2, 3] (by decide) rfl rfl (fun H locs hP hD hS => ?_)
  refine lv_istore_n (lv' := [(3, .int r13), (0, .ref aM), (1, .int x1), (2, .int x2)]) hx hb dX9_dampSteps_16 rfl hl (by decide) rfl (fun ls hl => ?_)
  refine lv_iload_n hx hb dX9_dampSteps_17 rfl (lv_at hl 0 rfl) ?_
  refine lv_if_eq (tgt := 29) hx hb dX9_dampSteps_18 (by decide) (fun c18 => ?_) (fun c18 => ?_)
  · have hok := k_pos c18 hok
    refine lv_aload_n hx hb dX9_dampSteps_29 rfl (lv_at hl 1 rfl) ?_
    refine va_get (D := D) (ci := 8) (v := .int (vM_13 27)) (C := RX9) (T := TX9) (N := 29) hx hb ht0 niX9 hown hK hP 0 rfl rfl 27 (by decide) (ht0 _ wd1013) (fun _ h9 => h9) rfl dX9_dampSteps_30 ?_
    exact J33 (vM_13 27) vM_trial_13 vM_13 H locs ls hP hD hS (lv_sub hl [] rfl) hok
  · have hok := k_neg c18 hok
    refine lv_aload_n hx hb dX9_dampSteps_21 rfl (lv_at hl 1 rfl) ?_
    refine lv_iload_n hx hb dX9_dampSteps_22 rfl (lv_at hl 0 rfl) ?_
    obtain ⟨⟨r23, vM_23⟩, hc23, hok⟩ := k_bind hok
    try dsimp only at hok
    refine kCi (wc := (wX9_no cy aM qM vM_13)) (wc2 := (wX9_no cy aM qM vM_23)) (wr := [(qM 17, rI cy 9 vM_st), (qM 22, rI cy 9 vM_trial_13), (qM 15, rI cy 224 vM_r)]) (ws2 := (wX9_dampSteps cy aM qM vM_23 vM_st vM_trial_13 vM_r)) (kRunV (As := [.int r13]) (rest := []) ⟨hx, hb, hml, hown, ht0⟩ (kX9_no l D cy _ aM qM vM_13 r13 r23 vM_23 hc23 _ rfl) (cwV 1 ht0 (gV wd862 wd863 wd864 wd744 wd865) rfl rfl rfl (by decide +kernel) ⟨Nat.le_of_ble_eq_true rfl, Nat.le_of_ble_eq_true rfl⟩) hK hN hP hD [0] rfl (by decide) 0 8 rfl rfl rfl hl.1 rfl (Nat.le_of_ble_eq_true rfl) dX9_dampSteps_23 ⟨Nat.zero_le _, Nat.zero_le _⟩) hP hD hS hA [0] [1, 2, 3] rfl rfl (by decide) (by decide) [3, 0, 1, 2] (by decide) rfl rfl (fun H locs hP hD hS => ?_)
    refine lv_goto (tgt := 33) hx hb dX9_dampSteps_26 (by decide) ?_
    exact J33 r23 vM_trial_13 vM_23 H locs ls hP hD hS (lv_sub hl [] rfl) hok
def wsX9_dampWhen : List Cond := .code yX9_dampWhen cX9_dampWhen 6 (some .int) :: W0
abbrev wX9_dampWhen (cy : Nat → ClassId) (aM : Nat) (qM : Nat → Nat) (vM : Nat → Int32) (vM_r : Nat → Int32) (vM_st : Nat → Int32) (vM_trial : Nat → Int32) : va_W := [(aM, oX9 vM qM), (qM 15, rI cy 224 vM_r), (qM 17, rI cy 9 vM_st), (qM 22, rI cy 9 vM_trial)]
set_option maxHeartbeats 4000000 in
set_option maxRecDepth 100000 in
theorem kX9_dampWhen (l : Launch) (D : va_G) (cy : Nat → ClassId) (sz : Nat) (aM : Nat) (qM : Nat → Nat) (vM : Nat → Int32) (vM_r : Nat → Int32) (vM_st : Nat → Int32) (vM_trial : Nat → Int32) (x1 : Int32) (x2 : Int32) (x3 : Int32) (x4 : Int32) (zr : Int32) (z_vM : Nat → Int32) (z_vM_trial : Nat → Int32) (hok : fX9_dampWhen vM vM_r vM_st vM_trial x1 x2 x3 x4 = some (zr, z_vM, z_vM_trial)) (A : Nat → Prop) (hAe : va_A (wX9_dampWhen cy aM qM vM vM_r vM_st vM_trial) sz = A) : Met l yX9_dampWhen wsX9_dampWhen ({ frames := 4, cells := 0, slots := 0, locals := 100 } : Room) (kPre D cy [.ref aM, .int x1, .int x2, .int x3, .int x4] (wX9_dampWhen cy aM qM vM vM_r vM_st vM_trial) sz) (kQi D cy zr A (wX9_dampWhen cy aM qM z_vM vM_r vM_st z_vM_trial)) 0 0 A := by
  refine Met.ofW (cc := cX9_dampWhen) (maxL := 6) (ret := (some .int)) (by decide) rfl ?_
  intro p e s m args below meth c s₁ B hml hv
  obtain ⟨rfl, hsz, hP, hK, hD0, hN⟩ := hv
  have hx := B.exec
  have hb := B.bytes
  have hr := B.returns
  have ht0 : ∀ w ∈ W0, w.before _ s = true := fun w h => atoms_spec (ws := wsX9_dampWhen) B.pre w (List.mem_cons_of_mem _ h)
  have hown : s.vm.findClass RX9 = some m.cls := findClass_of_methodNamed B.named
  have hlocks := B.notSynchronized
  subst hsz
  have hD : va_D A (wX9_dampWhen cy aM qM vM vM_r vM_st vM_trial) := by rw [← hAe]; exact hD0.self
  have hA : ∀ q : Nat, s.heap.size ≤ q → A q := fun q h => by rw [← hAe]; exact Or.inr h
  have hS : va_S A s.heap s.heap [] := va_S.rf
  have hl := lv_entry ([.ref aM, .int x1, .int x2, .int x3, .int x4]) (n := 6) (Nat.le_of_ble_eq_true rfl)
  rw [lg_entry_eq]
  generalize (lg_sl ([.ref aM, .int x1, .int x2, .int x3, .int x4]) ++ List.replicate (6 - (lg_sl ([.ref aM, .int x1, .int x2, .int x3, .int x4])).length) Slot.unset).toArray = ls at hl ⊢
  have hl : lv_has ls 6 [(0, .ref aM), (1, .int x1), (2, .int x2), (3, .int x3), (4, .int x4)] := hl
  generalize hQe : MQ below (kQi D cy zr A (wX9_dampWhen cy aM qM z_vM vM_r vM_st z_vM_trial)) ([.ref aM, .int x1, .int x2, .int x3, .int x4] : List Value).toArray s 0 0 A = Q
  have J78 : ∀ (t0_78 : Int32) (vM_trial_78 : Nat → Int32) (vM_78 : Nat → Int32), ∀ (H : Heap) (locs : List Loc) (ls : Array Slot), va_P D vwCl (wX9_dampWhen cy aM qM vM_78 vM_r vM_st vM_trial_78) H → va_D A (wX9_dampWhen cy aM qM vM_78 vM_r vM_st vM_trial_78) → va_S A s.heap H locs → lv_has ls 6 [] → fX9_dampWhen_J78 t0_78 vM_trial_78 vM_78 = some (zr, z_vM, z_vM_trial) → W p l e ({ frames := 4, cells := 0, slots := 0, locals := 100 } : Room) s m ([.ref aM, .int x1, .int x2, .int x3, .int x4] : List Value).toArray below meth c H locs 0 0 Q (F0 m 78 ls [.int t0_78]) := by
    intro t0_78 vM_trial_78 vM_78 H locs ls hP hD hS hl hok
    unfold fX9_dampWhen_J78 at hok
    cases hok
    subst hQe; exact W.iret hx hb hr (fun t ht hW => ⟨⟨_, (), rfl, rfl, by rw [ht]; exact hP, va_K.moved hW.alike hK, hD⟩, hS.F ht⟩) hS.2.2 dX9_dampWhen_78
  have J29 : ∀ (vM_29 : Nat → Int32), ∀ (H : Heap) (locs : List Loc) (ls : Array Slot), va_P D vwCl (wX9_dampWhen cy aM qM vM_29 vM_r vM_st vM_trial) H → va_D A (wX9_dampWhen cy aM qM vM_29 vM_r vM_st vM_trial) → va_S A s.heap H locs → lv_has ls 6 [(0, .ref aM)] → fX9_dampWhen_J29 vM_trial vM_29 = some (zr, z_vM, z_vM_trial) → W p l e ({ frames := 4, cells := 0, slots := 0, locals := 100 } : Room) s m ([.ref aM, .int x1, .int x2, .int x3, .int x4] : List Value).toArray below meth c H locs 0 0 Q (F0 m 29 ls []) := by
    intro vM_29 H locs ls hP hD hS hl hok
    unfold fX9_dampWhen_J29 at hok
    refine lv_aload_n hx hb dX9_dampWhen_29 rfl (lv_at hl 0 rfl) ?_
    refine lv_iconst (v := 1) hx hb dX9_dampWhen_30 (by decide) ?_
    obtain ⟨⟨r31, vM_31⟩, hc31, hok⟩ := k_bind hok
    try dsimp only at hok
    refine kCi (wc := (wX9_no cy aM qM vM_29)) (wc2 := (wX9_no cy aM qM vM_31)) (wr := [(qM 15, rI cy 224 vM_r), (qM 17, rI cy 9 vM_st), (qM 22, rI cy 9 vM_trial)]) (ws2 := (wX9_dampWhen cy aM qM vM_31 vM_r vM_st vM_trial)) (kRunV (As := [.int 1]) (rest := []) ⟨hx, hb, hml, hown, ht0⟩ (kX9_no l D cy _ aM qM vM_29 (1 : Int32) r31 vM_31 hc31 _ rfl) (cwV 1 ht0 (gV wd862 wd863 wd864 wd744 wd865) rfl rfl rfl (by decide +kernel) ⟨Nat.le_of_ble_eq_true rfl, Nat.le_of_ble_eq_true rfl⟩) hK hN hP hD [0] rfl (by decide) 0 8 rfl rfl rfl hl.1 rfl (Nat.le_of_ble_eq_true rfl) dX9_dampWhen_31 ⟨Nat.zero_le _, Nat.zero_le _⟩) hP hD hS hA [0] [1, 2, 3] rfl rfl (by decide) (by decide) [3, 0, 1, 2] (by decide) rfl rfl (fun H locs hP hD hS => ?_)
    cases hok
    subst hQe; exact W.iret hx hb hr (fun t ht hW => ⟨⟨_, (), rfl, rfl, by rw [ht]; exact hP, va_K.moved hW.alike hK, hD⟩, hS.F ht⟩) hS.2.2 dX9_dampWhen_34
  unfold fX9_dampWhen at hok
  obtain ⟨H, hH⟩ : ∃ H, H = s.heap := ⟨_, rfl⟩
  obtain ⟨locs, hlc⟩ : ∃ x : List Loc, x = [] := ⟨_, rfl⟩
  have hP : va_P D vwCl (wX9_dampWhen cy aM qM vM vM_r vM_st vM_trial) H := by rw [hH]; exact hP
  have hS : va_S A s.heap H locs := by rw [hH, hlc]; exact hS
  rw [show W p l e _ s m _ below meth c s.heap [] = W p l e _ s m _ below meth c H locs from by rw [hH, hlc]]
  refine lv_aload_n hx hb dX9_dampWhen_0 rfl (lv_at hl 0 rfl) ?_
  obtain ⟨vM_1, hc1, hok⟩ := k_bind hok
  refine kCv (wc := (wX9_good cy aM qM vM)) (wc2 := (wX9_good cy aM qM vM_1)) (wr := [(qM 15, rI cy 224 vM_r), (qM 17, rI cy 9 vM_st), (qM 22, rI cy 9 vM_trial)]) (ws2 := (wX9_dampWhen cy aM qM vM_1 vM_r vM_st vM_trial)) (kRunV (As := []) (rest := []) ⟨hx, hb, hml, hown, ht0⟩ (kX9_good l D cy _ aM qM vM vM_1 hc1 _ rfl) (cwV 0 ht0 (gV wd870 wd871 wd872 wd744 wd873) rfl rfl rfl (by decide +kernel) ⟨Nat.le_of_ble_eq_true rfl, Nat.le_of_ble_eq_true rfl⟩) hK hN hP hD [0] rfl (by decide) 0 8 rfl rfl rfl hl.1 rfl (Nat.le_of_ble_eq_true rfl) dX9_dampWhen_1 ⟨Nat.zero_le _, Nat.zero_le _⟩) hP hD hS hA [0] [1, 2, 3] rfl rfl (by decide) (by decide) [3, 0, 1, 2] (by decide) rfl rfl (fun H locs hP hD hS => ?_)
  refine lv_aload_n hx hb dX9_dampWhen_4 rfl (lv_at hl 0 rfl) ?_
  refine lv_iload_n hx hb dX9_dampWhen_5 rfl (lv_at hl 1 rfl) ?_
  obtain ⟨r6, hc6, hok⟩ := k_bind hok
  refine kCi (wc := (wX9_isThing cy aM qM vM_1 vM_r)) (wc2 := (wX9_isThing cy aM qM vM_1 vM_r)) (wr := [(qM 17, rI cy 9 vM_st), (qM 22, rI cy 9 vM_trial)]) (ws2 := (wX9_dampWhen cy aM qM vM_1 vM_r vM_st vM_trial)) (kRunV (As := [.int x1]) (rest := []) ⟨hx, hb, hml, hown, ht0⟩ (kX9_isThing l D cy _ aM qM vM_1 vM_r x1 r6 hc6 _ rfl) (cwV 1 ht0 (gV wd925 wd926 wd927 wd744 wd928) rfl rfl rfl (by decide +kernel) ⟨Nat.le_of_ble_eq_true rfl, Nat.le_of_ble_eq_true rfl⟩) hK hN hP hD [0, 1] rfl (by decide) 0 8 rfl rfl rfl hl.1 rfl (Nat.le_of_ble_eq_true rfl) dX9_dampWhen_6 ⟨Nat.zero_le _, Nat.zero_le _⟩) hP hD hS hA [0, 1] [2, 3] rfl rfl (by decide) (by decide) [2, 3, 0, 1] (by decide) rfl rfl (fun H locs hP hD hS => ?_)
  refine lv_if_eq (tgt := 29) hx hb dX9_dampWhen_9 (by decide) (fun c9 => ?_) (fun c9 => ?_)
  · have hok := k_pos c9 hok
    exact J29 vM_1 H locs ls hP hD hS (lv_sub hl [0] rfl) hok
  · have hok := k_neg c9 hok
    refine lv_aload_n hx hb dX9_dampWhen_12 rfl (lv_at hl 0 rfl) ?_
    refine lv_aload_n hx hb dX9_dampWhen_13 rfl (lv_at hl 0 rfl) ?_
    refine va_get (D := D) (ci := 8) (v := .ref (qM 17)) (C := RX9) (T := TX9) (N := 29) hx hb ht0 niX9 hown hK hP 0 rfl rfl 17 (by decide) (ht0 _ wd858) (fun _ h9 => h9) rfl dX9_dampWhen_14 ?_
    refine lv_iload_n hx hb dX9_dampWhen_17 rfl (lv_at hl 1 rfl) ?_
    obtain ⟨g18, hok⟩ := gd_some hok
    refine va_iald hx hb hK hP 2 0 rfl rfl (okI_in g18) dX9_dampWhen_18 ?_
    refine lv_bipush (v := 9) hx hb dX9_dampWhen_19 (by decide) ?_
    refine lv_idiv hx hb dX9_dampWhen_21 (by decide) ?_
    refine lv_iload_n hx hb dX9_dampWhen_22 rfl (lv_at hl 2 rfl) ?_
    obtain ⟨r23, hc23, hok⟩ := k_bind hok
    refine kCi (wc := (wX9_isPlace cy aM qM vM_1 vM_r)) (wc2 := (wX9_isPlace cy aM qM vM_1 vM_r)) (wr := [(qM 17, rI cy 9 vM_st), (qM 22, rI cy 9 vM_trial)]) (ws2 := (wX9_dampWhen cy aM qM vM_1 vM_r vM_st vM_trial)) (kRunV (As := [.int ((vM_st x1.toNatClampNeg) / (9 : Int32)), .int x2]) (rest := []) ⟨hx, hb, hml, hown, ht0⟩ (kX9_isPlace l D cy _ aM qM vM_1 vM_r ((vM_st x1.toNatClampNeg) / (9 : Int32)) x2 r23 hc23 _ rfl) (cwV 2 ht0 (gV wd929 wd930 wd931 wd744 wd932) rfl rfl rfl (by decide +kernel) ⟨Nat.le_of_ble_eq_true rfl, Nat.le_of_ble_eq_true rfl⟩) hK hN hP hD [0, 1] rfl (by decide) 0 8 rfl rfl rfl hl.1 rfl (Nat.le_of_ble_eq_true rfl) dX9_dampWhen_23 ⟨Nat.zero_le _, Nat.zero_le _⟩) hP hD hS hA [0, 1] [2, 3] rfl rfl (by decide) (by decide) [2, 3, 0, 1] (by decide) rfl rfl (fun H locs hP hD hS => ?_)
    refine lv_if_ne (tgt := 35) hx hb dX9_dampWhen_26 (by decide) (fun c26 => ?_) (fun c26 => ?_)
    · have hok := k_neg c26 hok
      refine lv_aload_n hx hb dX9_dampWhen_35 rfl (lv_at hl 0 rfl) ?_
      refine lv_iconst (v := 1) hx hb dX9_dampWhen_36 (by decide) ?_
      refine lv_iload_n hx hb dX9_dampWhen_37 rfl (lv_at hl 3 rfl) ?_
      refine lv_iload hx hb dX9_dampWhen_38 (lv_at hl 4 rfl) ?_
      refine lv_iload_n hx hb dX9_dampWhen_40 rfl (lv_at hl 1 rfl) ?_
      refine lv_bipush (v := 9) hx hb dX9_dampWhen_41 (by decide) ?_
      refine lv_aload_n hx hb dX9_dampWhen_43 rfl (lv_at hl 0 rfl) ?_
      refine va_get (D := D) (ci := 8) (v := .ref (qM 17)) (C := RX9) (T := TX9) (N := 29) hx hb ht0 niX9 hown hK hP 0 rfl rfl 17 (by decide) (ht0 _ wd858) (fun _ h9 => h9) rfl dX9_dampWhen_44 ?_
      refine lv_iload_n hx hb dX9_dampWhen_47 rfl (lv_at hl 1 rfl) ?_
      obtain ⟨g48, hok⟩ := gd_some hok
      refine va_iald hx hb hK hP 2 0 rfl rfl (okI_in g48) dX9_dampWhen_48 ?_
      refine lv_bipush (v := 9) hx hb dX9_dampWhen_49 (by decide) ?_
      refine lv_idiv hx hb dX9_dampWhen_51 (by decide) ?_
      refine lv_imul hx hb dX9_dampWhen_52 ?_
      refine lv_iload_n hx hb dX9_dampWhen_53 rfl (lv_at hl 2 rfl) ?_
      refine lv_iadd hx hb dX9_dampWhen_54 ?_
      obtain ⟨⟨r55, vM_55, vM_trial_55⟩, hc55, hok⟩ := k_bind hok
      try dsimp only at hok
      refine kCi (wc := (wX9_dampWhy cy aM qM vM_1 vM_st vM_trial vM_r)) (wc2 := (wX9_dampWhy cy aM qM vM_55 vM_st vM_trial_55 vM_r)) (wr := []) (ws2 := (wX9_dampWhen cy aM qM vM_55 vM_r vM_st vM_trial_55)) (kRunV (As := [.int 1, .int x3, .int x4, .int x1, .int (((9 : Int32) * ((vM_st x1.toNatClampNeg) / (9 : Int32))) + x2)]) (rest := []) ⟨hx, hb, hml, hown, ht0⟩ (kX9_dampWhy l D cy _ aM qM vM_1 vM_st vM_trial vM_r (1 : Int32) x3 x4 x1 (((9 : Int32) * ((vM_st x1.toNatClampNeg) / (9 : Int32))) + x2) r55 vM_55 vM_trial_55 hc55 _ rfl) (cwV 5 ht0 (gV wd1015 wd1016 wd1017 wd744 wd1018) rfl rfl rfl (by decide +kernel) ⟨Nat.le_of_ble_eq_true rfl, Nat.le_of_ble_eq_true rfl⟩) hK hN hP hD [0, 2, 3, 1] rfl (by decide) 0 8 rfl rfl rfl hl.1 rfl (Nat.le_of_ble_eq_true rfl) dX9_dampWhen_55 ⟨Nat.zero_le _, Nat.zero_le _⟩) hP hD hS hA [0, 2, 3, 1] [] rfl rfl (by decide) (by decide) [0, 3, 1, 2] (by decide) rfl rfl (fun H locs hP hD hS => ?_)
      refine lv_istore (lv' := [(5, .int r55), (0, .ref aM), (1, .int x1), (2, .int x2), (3, .int x3), (4, .int x4)]) hx hb dX9_dampWhen_58 hl (by decide) rfl (fun ls hl => ?_)
      refine lv_iload hx hb dX9_dampWhen_60 (lv_at hl 0 rfl) ?_
      refine lv_if_eq (tgt := 74) hx hb dX9_dampWhen_62 (by decide) (fun c62 => ?_) (fun c62 => ?_)
      · have hok := k_pos c62 hok
        refine lv_aload_n hx hb dX9_dampWhen_74 rfl (lv_at hl 1 rfl) ?_
        refine va_get (D := D) (ci := 8) (v := .int (vM_55 28)) (C := RX9) (T := TX9) (N := 29) hx hb ht0 niX9 hown hK hP 0 rfl rfl 28 (by decide) (ht0 _ wd1014) (fun _ h9 => h9) rfl dX9_dampWhen_75 ?_
        exact J78 (vM_55 28) vM_trial_55 vM_55 H locs ls hP hD hS (lv_sub hl [] rfl) hok
      · have hok := k_neg c62 hok
        refine lv_aload_n hx hb dX9_dampWhen_65 rfl (lv_at hl 1 rfl) ?_
        refine lv_iload hx hb dX9_dampWhen_66 (lv_at hl 0 rfl) ?_
        obtain ⟨⟨r68, vM_68⟩, hc68, hok⟩ := k_bind hok
        try dsimp only at hok
        refine kCi (wc := (wX9_no cy aM qM vM_55)) (wc2 := (wX9_no cy aM qM vM_68)) (wr := [(qM 15, rI cy 224 vM_r), (qM 17, rI cy 9 vM_st), (qM 22, rI cy 9 vM_trial_55)]) (ws2 := (wX9_dampWhen cy aM qM vM_68 vM_r vM_st vM_trial_55)) (kRunV (As := [.int r55]) (rest := []) ⟨hx, hb, hml, hown, ht0⟩ (kX9_no l D cy _ aM qM vM_55 r55 r68 vM_68 hc68 _ rfl) (cwV 1 ht0 (gV wd862 wd863 wd864 wd744 wd865) rfl rfl rfl (by decide +kernel) ⟨Nat.le_of_ble_eq_true rfl, Nat.le_of_ble_eq_true rfl⟩) hK hN hP hD [0] rfl (by decide) 0 8 rfl rfl rfl hl.1 rfl (Nat.le_of_ble_eq_true rfl) dX9_dampWhen_68 ⟨Nat.zero_le _, Nat.zero_le _⟩) hP hD hS hA [0] [1, 2, 3] rfl rfl (by decide) (by decide) [3, 0, 1, 2] (by decide) rfl rfl (fun H locs hP hD hS => ?_)
        refine lv_goto (tgt := 78) hx hb dX9_dampWhen_71 (by decide) ?_
        exact J78 r68 vM_trial_55 vM_68 H locs ls hP hD hS (lv_sub hl [] rfl) hok
    · have hok := k_pos c26 hok
      exact J29 vM_1 H locs ls hP hD hS (lv_sub hl [0] rfl) hok
def wsX9_note : List Cond := .code yX9_note cX9_note 2 none :: W0
abbrev wX9_note (cy : Nat → ClassId) (aM : Nat) (qM : Nat → Nat) (vM : Nat → Int32) (vM_undone : Nat → Int32) (vM_st : Nat → Int32) : va_W := [(aM, oX9 vM qM), (qM 18, rI cy 144 vM_undone), (qM 17, rI cy 9 vM_st)]
set_option maxHeartbeats 4000000 in
set_option maxRecDepth 100000 in
theorem kX9_note (l : Launch) (D : va_G) (cy : Nat → ClassId) (sz : Nat) (aM : Nat) (qM : Nat → Nat) (vM : Nat → Int32) (vM_undone : Nat → Int32) (vM_st : Nat → Int32) (z_vM : Nat → Int32) (z_vM_undone : Nat → Int32) (hok : fX9_note vM vM_undone vM_st = some (z_vM, z_vM_undone)) (A : Nat → Prop) (hAe : va_A (wX9_note cy aM qM vM vM_undone vM_st) sz = A) : Met l yX9_note wsX9_note ({ frames := 1, cells := 0, slots := 0, locals := 25 } : Room) (kPre D cy [.ref aM] (wX9_note cy aM qM vM vM_undone vM_st) sz) (kQv D cy A (wX9_note cy aM qM z_vM z_vM_undone vM_st)) 0 0 A := by
  refine Met.ofW (cc := cX9_note) (maxL := 2) (ret := none) (by decide) rfl ?_
  intro p e s m args below meth c s₁ B hml hv
  obtain ⟨rfl, hsz, hP, hK, hD0, hN⟩ := hv
  have hx := B.exec
  have hb := B.bytes
  have hr := B.returns
  have ht0 : ∀ w ∈ W0, w.before _ s = true := fun w h => atoms_spec (ws := wsX9_note) B.pre w (List.mem_cons_of_mem _ h)
  have hown : s.vm.findClass RX9 = some m.cls := findClass_of_methodNamed B.named
  have hlocks := B.notSynchronized
  subst hsz
  have hD : va_D A (wX9_note cy aM qM vM vM_undone vM_st) := by rw [← hAe]; exact hD0.self
  have hA : ∀ q : Nat, s.heap.size ≤ q → A q := fun q h => by rw [← hAe]; exact Or.inr h
  have hS : va_S A s.heap s.heap [] := va_S.rf
  have hl := lv_entry ([.ref aM]) (n := 2) (Nat.le_of_ble_eq_true rfl)
  rw [lg_entry_eq]
  generalize (lg_sl ([.ref aM]) ++ List.replicate (2 - (lg_sl ([.ref aM])).length) Slot.unset).toArray = ls at hl ⊢
  have hl : lv_has ls 2 [(0, .ref aM)] := hl
  generalize hQe : MQ below (kQv D cy A (wX9_note cy aM qM z_vM z_vM_undone vM_st)) ([.ref aM] : List Value).toArray s 0 0 A = Q
  have J49 : ∀ (vM_undone_49 : Nat → Int32) (vM_49 : Nat → Int32), ∀ (H : Heap) (locs : List Loc) (ls : Array Slot), va_P D vwCl (wX9_note cy aM qM vM_49 vM_undone_49 vM_st) H → va_D A (wX9_note cy aM qM vM_49 vM_undone_49 vM_st) → va_S A s.heap H locs → lv_has ls 2 [(0, .ref aM)] → fX9_note_J49 vM_st vM_undone_49 vM_49 = some (z_vM, z_vM_undone) → W p l e ({ frames := 1, cells := 0, slots := 0, locals := 25 } : Room) s m ([.ref aM] : List Value).toArray below meth c H locs 0 0 Q (F0 m 49 ls []) := by
    intro vM_undone_49 vM_49 H locs ls hP hD hS hl hok
    unfold fX9_note_J49 at hok
    refine lv_aload_n hx hb dX9_note_49 rfl (lv_at hl 0 rfl) ?_
    refine va_get (D := D) (ci := 8) (v := .ref (qM 17)) (C := RX9) (T := TX9) (N := 29) hx hb ht0 niX9 hown hK hP 0 rfl rfl 17 (by decide) (ht0 _ wd858) (fun _ h9 => h9) rfl dX9_note_50 ?_
    refine lv_iconst (v := 0) hx hb dX9_note_53 (by decide) ?_
    refine lv_aload_n hx hb dX9_note_54 rfl (lv_at hl 0 rfl) ?_
    refine va_get (D := D) (ci := 8) (v := .ref (qM 18)) (C := RX9) (T := TX9) (N := 29) hx hb ht0 niX9 hown hK hP 0 rfl rfl 18 (by decide) (ht0 _ wd1019) (fun _ h9 => h9) rfl dX9_note_55 ?_
    refine lv_bipush (v := 9) hx hb dX9_note_58 (by decide) ?_
    refine lv_aload_n hx hb dX9_note_60 rfl (lv_at hl 0 rfl) ?_
    refine va_get (D := D) (ci := 8) (v := .int (vM_49 20)) (C := RX9) (T := TX9) (N := 29) hx hb ht0 niX9 hown hK hP 0 rfl rfl 20 (by decide) (ht0 _ wd856) (fun _ h9 => h9) rfl dX9_note_61 ?_
    refine lv_imul hx hb dX9_note_64 ?_
    refine lv_bipush (v := 9) hx hb dX9_note_65 (by decide) ?_
    obtain ⟨p2_67, hc67, hok⟩ := k_bind hok
    refine kCv (wc := (wX9_copy cy (qM 17) (qM 18) 9 vM_st 144 vM_undone_49)) (wc2 := (wX9_copy cy (qM 17) (qM 18) 9 vM_st 144 p2_67)) (wr := [(aM, oX9 vM_49 qM)]) (ws2 := (wX9_note cy aM qM vM_49 p2_67 vM_st)) (kRunS (As := [.ref (qM 17), .int 0, .ref (qM 18), .int ((9 : Int32) * (vM_49 20)), .int 9]) (rest := []) ⟨hx, hb, hml, hown, ht0⟩ (kX9_copy l D cy _ (qM 17) (qM 18) 9 vM_st 144 vM_undone_49 (0 : Int32) ((9 : Int32) * (vM_49 20)) (9 : Int32) p2_67 hc67 _ rfl) (va_cwS 5 ht0 (gS wd859 wd860 wd744 wd861) rfl rfl rfl (by decide +kernel) ⟨Nat.le_of_ble_eq_true rfl, Nat.le_of_ble_eq_true rfl⟩) hK hN hP hD [2, 1] rfl (by decide) rfl hl.1 rfl (Nat.le_of_ble_eq_true rfl) dX9_note_67 ⟨Nat.zero_le _, Nat.zero_le _⟩) hP hD hS hA [2, 1] [0] rfl rfl (by decide) (by decide) [0, 2, 1] (by decide) rfl rfl (fun H locs hP hD hS => ?_)
    refine lv_aload_n hx hb dX9_note_70 rfl (lv_at hl 0 rfl) ?_
    refine lv_dup hx hb dX9_note_71 rfl ?_
    refine va_get (D := D) (ci := 8) (v := .int (vM_49 20)) (C := RX9) (T := TX9) (N := 29) hx hb ht0 niX9 hown hK hP 0 rfl rfl 20 (by decide) (ht0 _ wd856) (fun _ h9 => h9) rfl dX9_note_72 ?_
    refine lv_iconst (v := 1) hx hb dX9_note_75 (by decide) ?_
    refine lv_iadd hx hb dX9_note_76 ?_
    refine va_put (D := D) (ci := 8) (v := .int ((vM_49 20) + (1 : Int32))) (ty := .int) (C := RX9) (T := TX9) (N := 29) hx hb ht0 niX9 tyX9 tyX9_ok nmX9 hown hK hP hD hS 0 rfl rfl 20 (by decide) (ht0 _ wd856) (fun _ h9 => h9) rfl (by decide +kernel) rfl rfl (Nat.le_of_ble_eq_true rfl) dX9_note_77 (fun H locs hP hD hS => ?_)
    have hP : va_P D vwCl (wX9_note cy aM qM (upd vM_49 20 ((vM_49 20) + (1 : Int32))) p2_67 vM_st) H := hP
    have hD : va_D A (wX9_note cy aM qM (upd vM_49 20 ((vM_49 20) + (1 : Int32))) p2_67 vM_st) := hD
    cases hok
    subst hQe; exact W.vret hx hb hr (fun t ht hW => ⟨⟨(), rfl, trivial, by rw [ht]; exact hP, va_K.moved hW.alike hK, hD⟩, hS.F ht⟩) hS.2.2 dX9_note_80
  have L11 : ∀ (fuel : Nat) (y1_11 : Int32) (vM_undone_11 : Nat → Int32), ∀ (H : Heap) (locs : List Loc) (ls : Array Slot), va_P D vwCl (wX9_note cy aM qM vM vM_undone_11 vM_st) H → va_D A (wX9_note cy aM qM vM vM_undone_11 vM_st) → va_S A s.heap H locs → lv_has ls 2 [(0, .ref aM), (1, .int y1_11)] → lp (fX9_note_B11 vM vM_st) fuel (y1_11, vM_undone_11) = some (z_vM, z_vM_undone) → W p l e ({ frames := 1, cells := 0, slots := 0, locals := 25 } : Room) s m ([.ref aM] : List Value).toArray below meth c H locs 0 0 Q (F0 m 11 ls []) := by
    intro fuel
    induction fuel with
    | zero => intro y1_11 vM_undone_11 H locs ls hP hD hS hl hok; exact (lp_0 hok).elim
    | succ fuel ih11 =>
      intro y1_11 vM_undone_11 H locs ls hP hD hS hl hok
      obtain ⟨y11, hok, hL11, hR11⟩ := lp_step hok
      unfold fX9_note_B11 at hok
      try dsimp only at hok
      refine lv_iload_n hx hb dX9_note_11 rfl (lv_at hl 1 rfl) ?_
      refine lv_sipush (v := 135) hx hb dX9_note_12 (by decide) ?_
      refine lv_icmp_ge (tgt := 39) hx hb dX9_note_15 (by decide) (fun c15 => ?_) (fun c15 => ?_)
      · have hok := k_pos c15 hok
        obtain ⟨e11, hok, he11⟩ := ex_some hok
        have hok := hok.trans (congrArg some (hL11 _ he11))
        refine lv_aload_n hx hb dX9_note_39 rfl (lv_at hl 0 rfl) ?_
        refine lv_dup hx hb dX9_note_40 rfl ?_
        refine va_get (D := D) (ci := 8) (v := .int (vM 20)) (C := RX9) (T := TX9) (N := 29) hx hb ht0 niX9 hown hK hP 0 rfl rfl 20 (by decide) (ht0 _ wd856) (fun _ h9 => h9) rfl dX9_note_41 ?_
        refine lv_iconst (v := 1) hx hb dX9_note_44 (by decide) ?_
        refine lv_isub hx hb dX9_note_45 ?_
        refine va_put (D := D) (ci := 8) (v := .int ((vM 20) - (1 : Int32))) (ty := .int) (C := RX9) (T := TX9) (N := 29) hx hb ht0 niX9 tyX9 tyX9_ok nmX9 hown hK hP hD hS 0 rfl rfl 20 (by decide) (ht0 _ wd856) (fun _ h9 => h9) rfl (by decide +kernel) rfl rfl (Nat.le_of_ble_eq_true rfl) dX9_note_46 (fun H locs hP hD hS => ?_)
        have hP : va_P D vwCl (wX9_note cy aM qM (upd vM 20 ((vM 20) - (1 : Int32))) vM_undone_11 vM_st) H := hP
        have hD : va_D A (wX9_note cy aM qM (upd vM 20 ((vM 20) - (1 : Int32))) vM_undone_11 vM_st) := hD
        exact J49 vM_undone_11 (upd vM 20 ((vM 20) - (1 : Int32))) H locs ls hP hD hS (lv_sub hl [0] rfl) hok
      · have hok := k_neg c15 hok
        refine lv_aload_n hx hb dX9_note_18 rfl (lv_at hl 0 rfl) ?_
        refine va_get (D := D) (ci := 8) (v := .ref (qM 18)) (C := RX9) (T := TX9) (N := 29) hx hb ht0 niX9 hown hK hP 0 rfl rfl 18 (by decide) (ht0 _ wd1019) (fun _ h9 => h9) rfl dX9_note_19 ?_
        refine lv_iload_n hx hb dX9_note_22 rfl (lv_at hl 1 rfl) ?_
        refine lv_aload_n hx hb dX9_note_23 rfl (lv_at hl 0 rfl) ?_
        refine va_get (D := D) (ci := 8) (v := .ref (qM 18)) (C := RX9) (T := TX9) (N := 29) hx hb ht0 niX9 hown hK hP 0 rfl rfl 18 (by decide) (ht0 _ wd1019) (fun _ h9 => h9) rfl dX9_note_24 ?_
        refine lv_iload_n hx hb dX9_note_27 rfl (lv_at hl 1 rfl) ?_
        refine lv_bipush (v := 9) hx hb dX9_note_28 (by decide) ?_
        refine lv_iadd hx hb dX9_note_30 ?_
        obtain ⟨g31, hok⟩ := gd_some hok
        refine va_iald hx hb hK hP 1 0 rfl rfl (okI_in g31) dX9_note_31 ?_
        obtain ⟨g32, hok⟩ := gd_some hok
        refine va_iast hx hb hK hP hD hS 1 0 rfl rfl (okI_in g32) dX9_note_32 (fun H locs hP hD hS => ?_)
        have hP : va_P D vwCl (wX9_note cy aM qM vM (upd vM_undone_11 y1_11.toNatClampNeg (vM_undone_11 (y1_11 + (9 : Int32)).toNatClampNeg)) vM_st) H := hP
        have hD : va_D A (wX9_note cy aM qM vM (upd vM_undone_11 y1_11.toNatClampNeg (vM_undone_11 (y1_11 + (9 : Int32)).toNatClampNeg)) vM_st) := hD
        refine lv_iinc (v := (y1_11 + 1)) (lv' := [(1, .int (y1_11 + 1)), (0, .ref aM)]) hx hb dX9_note_33 hl (k := 1) rfl (by first | rfl | decide) (by decide) rfl (fun ls hl => ?_)
        refine lv_goto (tgt := 11) hx hb dX9_note_36 (by decide) ?_
        exact ih11 (y1_11 + 1) (upd vM_undone_11 y1_11.toNatClampNeg (vM_undone_11 (y1_11 + (9 : Int32)).toNatClampNeg)) H locs ls hP hD hS (lv_sub hl [1, 0] rfl) (hR11 _ (Option.some.inj hok).symm)
  unfold fX9_note at hok
  obtain ⟨H, hH⟩ : ∃ H, H = s.heap := ⟨_, rfl⟩
  obtain ⟨locs, hlc⟩ : ∃ x : List Loc, x = [] := ⟨_, rfl⟩
  have hP : va_P D vwCl (wX9_note cy aM qM vM vM_undone vM_st) H := by rw [hH]; exact hP
  have hS : va_S A s.heap H locs := by rw [hH, hlc]; exact hS
  rw [show W p l e _ s m _ below meth c s.heap [] = W p l e _ s m _ below meth c H locs from by rw [hH, hlc]]
  refine lv_aload_n hx hb dX9_note_0 rfl (lv_at hl 0 rfl) ?_
  refine va_get (D := D) (ci := 8) (v := .int (vM 20)) (C := RX9) (T := TX9) (N := 29) hx hb ht0 niX9 hown hK hP 0 rfl rfl 20 (by decide) (ht0 _ wd856) (fun _ h9 => h9) rfl dX9_note_1 ?_
  refine lv_bipush (v := 16) hx hb dX9_note_4 (by decide) ?_
  refine lv_icmp_ne (tgt := 49) hx hb dX9_note_6 (by decide) (fun c6 => ?_) (fun c6 => ?_)
  · have hok := k_neg c6 hok
    exact J49 vM_undone vM H locs ls hP hD hS (lv_sub hl [0] rfl) hok
  · have hok := k_pos c6 hok
    refine lv_iconst (v := 0) hx hb dX9_note_9 (by decide) ?_
    refine lv_istore_n (lv' := [(1, .int 0), (0, .ref aM)]) hx hb dX9_note_10 rfl hl (by decide) rfl (fun ls hl => ?_)
    exact L11 5000 (0 : Int32) vM_undone H locs ls hP hD hS (lv_sub hl [1, 0] rfl) hok
def wsX9_turnsTo : List Cond := .code yX9_turnsTo cX9_turnsTo 3 (some .boolean) :: W0
abbrev wX9_turnsTo (cy : Nat → ClassId) (aM : Nat) (qM : Nat → Nat) (vM : Nat → Int32) (vM_r : Nat → Int32) (vM_st : Nat → Int32) (vM_undone : Nat → Int32) : va_W := [(aM, oX9 vM qM), (qM 15, rI cy 224 vM_r), (qM 17, rI cy 9 vM_st), (qM 18, rI cy 144 vM_undone)]
set_option maxHeartbeats 4000000 in
set_option maxRecDepth 100000 in
theorem kX9_turnsTo (l : Launch) (D : va_G) (cy : Nat → ClassId) (sz : Nat) (aM : Nat) (qM : Nat → Nat) (vM : Nat → Int32) (vM_r : Nat → Int32) (vM_st : Nat → Int32) (vM_undone : Nat → Int32) (x1 : Int32) (x2 : Int32) (zr : Int32) (z_vM : Nat → Int32) (z_vM_st : Nat → Int32) (z_vM_undone : Nat → Int32) (hok : fX9_turnsTo vM vM_r vM_st vM_undone x1 x2 = some (zr, z_vM, z_vM_st, z_vM_undone)) (A : Nat → Prop) (hAe : va_A (wX9_turnsTo cy aM qM vM vM_r vM_st vM_undone) sz = A) : Met l yX9_turnsTo wsX9_turnsTo ({ frames := 2, cells := 0, slots := 0, locals := 46 } : Room) (kPre D cy [.ref aM, .int x1, .int x2] (wX9_turnsTo cy aM qM vM vM_r vM_st vM_undone) sz) (kQi D cy zr A (wX9_turnsTo cy aM qM z_vM vM_r z_vM_st z_vM_undone)) 0 0 A := by
  refine Met.ofW (cc := cX9_turnsTo) (maxL := 3) (ret := (some .boolean)) (by decide) rfl ?_
  intro p e s m args below meth c s₁ B hml hv
  obtain ⟨rfl, hsz, hP, hK, hD0, hN⟩ := hv
  have hx := B.exec
  have hb := B.bytes
  have hr := B.returns
  have ht0 : ∀ w ∈ W0, w.before _ s = true := fun w h => atoms_spec (ws := wsX9_turnsTo) B.pre w (List.mem_cons_of_mem _ h)
  have hown : s.vm.findClass RX9 = some m.cls := findClass_of_methodNamed B.named
  have hlocks := B.notSynchronized
  subst hsz
  have hD : va_D A (wX9_turnsTo cy aM qM vM vM_r vM_st vM_undone) := by rw [← hAe]; exact hD0.self
  have hA : ∀ q : Nat, s.heap.size ≤ q → A q := fun q h => by rw [← hAe]; exact Or.inr h
  have hS : va_S A s.heap s.heap [] := va_S.rf
  have hl := lv_entry ([.ref aM, .int x1, .int x2]) (n := 3) (Nat.le_of_ble_eq_true rfl)
  rw [lg_entry_eq]
  generalize (lg_sl ([.ref aM, .int x1, .int x2]) ++ List.replicate (3 - (lg_sl ([.ref aM, .int x1, .int x2])).length) Slot.unset).toArray = ls at hl ⊢
  have hl : lv_has ls 3 [(0, .ref aM), (1, .int x1), (2, .int x2)] := hl
  unfold fX9_turnsTo at hok
  obtain ⟨H, hH⟩ : ∃ H, H = s.heap := ⟨_, rfl⟩
  obtain ⟨locs, hlc⟩ : ∃ x : List Loc, x = [] := ⟨_, rfl⟩
  have hP : va_P D vwCl (wX9_turnsTo cy aM qM vM vM_r vM_st vM_undone) H := by rw [hH]; exact hP
  have hS : va_S A s.heap H locs := by rw [hH, hlc]; exact hS
  rw [show W p l e _ s m _ below meth c s.heap [] = W p l e _ s m _ below meth c H locs from by rw [hH, hlc]]
  refine lv_aload_n hx hb dX9_turnsTo_0 rfl (lv_at hl 0 rfl) ?_
  refine lv_iload_n hx hb dX9_turnsTo_1 rfl (lv_at hl 1 rfl) ?_
  obtain ⟨r2, hc2, hok⟩ := k_bind hok
  refine kCi (wc := (wX9_isThing cy aM qM vM vM_r)) (wc2 := (wX9_isThing cy aM qM vM vM_r)) (wr := [(qM 17, rI cy 9 vM_st), (qM 18, rI cy 144 vM_undone)]) (ws2 := (wX9_turnsTo cy aM qM vM vM_r vM_st vM_undone)) (kRunV (As := [.int x1]) (rest := []) ⟨hx, hb, hml, hown, ht0⟩ (kX9_isThing l D cy _ aM qM vM vM_r x1 r2 hc2 _ rfl) (cwV 1 ht0 (gV wd925 wd926 wd927 wd744 wd928) rfl rfl rfl (by decide +kernel) ⟨Nat.le_of_ble_eq_true rfl, Nat.le_of_ble_eq_true rfl⟩) hK hN hP hD [0, 1] rfl (by decide) 0 8 rfl rfl rfl hl.1 rfl (Nat.le_of_ble_eq_true rfl) dX9_turnsTo_2 ⟨Nat.zero_le _, Nat.zero_le _⟩) hP hD hS hA [0, 1] [2, 3] rfl rfl (by decide) (by decide) [2, 3, 0, 1] (by decide) rfl rfl (fun H locs hP hD hS => ?_)
  refine lv_if_ne (tgt := 14) hx hb dX9_turnsTo_5 (by decide) (fun c5 => ?_) (fun c5 => ?_)
  · have hok := k_neg c5 hok
    refine lv_aload_n hx hb dX9_turnsTo_14 rfl (lv_at hl 0 rfl) ?_
    refine va_get (D := D) (ci := 8) (v := .ref (qM 17)) (C := RX9) (T := TX9) (N := 29) hx hb ht0 niX9 hown hK hP 0 rfl rfl 17 (by decide) (ht0 _ wd858) (fun _ h9 => h9) rfl dX9_turnsTo_15 ?_
    refine lv_bipush (v := 7) hx hb dX9_turnsTo_18 (by decide) ?_
    obtain ⟨g20, hok⟩ := gd_some hok
    refine va_iald hx hb hK hP 2 0 rfl rfl (okI_in g20) dX9_turnsTo_20 ?_
    refine lv_iload_n hx hb dX9_turnsTo_21 rfl (lv_at hl 1 rfl) ?_
    obtain ⟨r22, hc22, hok⟩ := k_bind hok
    refine kCi (wc := (wX9_hasBit cy )) (wc2 := (wX9_hasBit cy )) (wr := [(aM, oX9 vM qM), (qM 15, rI cy 224 vM_r), (qM 17, rI cy 9 vM_st), (qM 18, rI cy 144 vM_undone)]) (ws2 := (wX9_turnsTo cy aM qM vM vM_r vM_st vM_undone)) (kRunS (As := [.int (vM_st (7 : Int32).toNatClampNeg), .int x1]) (rest := []) ⟨hx, hb, hml, hown, ht0⟩ (kX9_hasBit l D cy _ (vM_st (7 : Int32).toNatClampNeg) x1 r22 hc22 _ rfl) (va_cwS 2 ht0 (gS wd894 wd895 wd744 wd896) rfl rfl rfl (by decide +kernel) ⟨Nat.le_of_ble_eq_true rfl, Nat.le_of_ble_eq_true rfl⟩) hK hN hP hD [] rfl (by decide) rfl hl.1 rfl (Nat.le_of_ble_eq_true rfl) dX9_turnsTo_22 ⟨Nat.zero_le _, Nat.zero_le _⟩) hP hD hS hA [] [0, 1, 2, 3] rfl rfl (by decide) (by decide) [0, 1, 2, 3] (by decide) rfl rfl (fun H locs hP hD hS => ?_)
    refine lv_iload_n hx hb dX9_turnsTo_25 rfl (lv_at hl 2 rfl) ?_
    refine lv_icmp_ne (tgt := 35) hx hb dX9_turnsTo_26 (by decide) (fun c26 => ?_) (fun c26 => ?_)
    · have hok := k_neg c26 hok
      refine lv_aload_n hx hb dX9_turnsTo_35 rfl (lv_at hl 0 rfl) ?_
      obtain ⟨⟨vM_36, vM_undone_36⟩, hc36, hok⟩ := k_bind hok
      try dsimp only at hok
      refine kCv (wc := (wX9_note cy aM qM vM vM_undone vM_st)) (wc2 := (wX9_note cy aM qM vM_36 vM_undone_36 vM_st)) (wr := [(qM 15, rI cy 224 vM_r)]) (ws2 := (wX9_turnsTo cy aM qM vM_36 vM_r vM_st vM_undone_36)) (kRunV (As := []) (rest := []) ⟨hx, hb, hml, hown, ht0⟩ (kX9_note l D cy _ aM qM vM vM_undone vM_st vM_36 vM_undone_36 hc36 _ rfl) (cwV 0 ht0 (gV wd1020 wd1021 wd1022 wd744 wd1023) rfl rfl rfl (by decide +kernel) ⟨Nat.le_of_ble_eq_true rfl, Nat.le_of_ble_eq_true rfl⟩) hK hN hP hD [0, 3, 2] rfl (by decide) 0 8 rfl rfl rfl hl.1 rfl (Nat.le_of_ble_eq_true rfl) dX9_turnsTo_36 ⟨Nat.zero_le _, Nat.zero_le _⟩) hP hD hS hA [0, 3, 2] [1] rfl rfl (by decide) (by decide) [1, 0, 3, 2] (by decide) rfl rfl (fun H locs hP hD hS => ?_)
      refine lv_aload_n hx hb dX9_turnsTo_39 rfl (lv_at hl 0 rfl) ?_
      refine va_get (D := D) (ci := 8) (v := .ref (qM 17)) (C := RX9) (T := TX9) (N := 29) hx hb ht0 niX9 hown hK hP 0 rfl rfl 17 (by decide) (ht0 _ wd858) (fun _ h9 => h9) rfl dX9_turnsTo_40 ?_
      refine lv_bipush (v := 7) hx hb dX9_turnsTo_43 (by decide) ?_
      refine lv_dup2_11 hx hb dX9_turnsTo_45 rfl rfl ?_
      obtain ⟨g46, hok⟩ := gd_some hok
      refine va_iald hx hb hK hP 2 0 rfl rfl (okI_in g46) dX9_turnsTo_46 ?_
      refine lv_iconst (v := 1) hx hb dX9_turnsTo_47 (by decide) ?_
      refine lv_iload_n hx hb dX9_turnsTo_48 rfl (lv_at hl 1 rfl) ?_
      refine lv_ishl hx hb dX9_turnsTo_49 ?_
      refine lv_ixor hx hb dX9_turnsTo_50 ?_
      obtain ⟨g51, hok⟩ := gd_some hok
      refine va_iast hx hb hK hP hD hS 2 0 rfl rfl (okI_in g51) dX9_turnsTo_51 (fun H locs hP hD hS => ?_)
      have hP : va_P D vwCl (wX9_turnsTo cy aM qM vM_36 vM_r (upd vM_st (7 : Int32).toNatClampNeg ((vM_st (7 : Int32).toNatClampNeg) ^^^ (isl (1 : Int32) x1))) vM_undone_36) H := hP
      have hD : va_D A (wX9_turnsTo cy aM qM vM_36 vM_r (upd vM_st (7 : Int32).toNatClampNeg ((vM_st (7 : Int32).toNatClampNeg) ^^^ (isl (1 : Int32) x1))) vM_undone_36) := hD
      refine lv_iconst (v := 1) hx hb dX9_turnsTo_52 (by decide) ?_
      cases hok
      exact W.zret hx hb hr rfl (fun t ht hW => ⟨⟨_, (), rfl, rfl, by rw [ht]; exact hP, va_K.moved hW.alike hK, hD⟩, hS.F ht⟩) hS.2.2 dX9_turnsTo_53
    · have hok := k_pos c26 hok
      refine lv_aload_n hx hb dX9_turnsTo_29 rfl (lv_at hl 0 rfl) ?_
      refine lv_iconst (v := 5) hx hb dX9_turnsTo_30 (by decide) ?_
      obtain ⟨⟨r31, vM_31⟩, hc31, hok⟩ := k_bind hok
      try dsimp only at hok
      refine kCi (wc := (wX9_isNot cy aM qM vM)) (wc2 := (wX9_isNot cy aM qM vM_31)) (wr := [(qM 15, rI cy 224 vM_r), (qM 17, rI cy 9 vM_st), (qM 18, rI cy 144 vM_undone)]) (ws2 := (wX9_turnsTo cy aM qM vM_31 vM_r vM_st vM_undone)) (kRunV (As := [.int 5]) (rest := []) ⟨hx, hb, hml, hown, ht0⟩ (kX9_isNot l D cy _ aM qM vM (5 : Int32) r31 vM_31 hc31 _ rfl) (cwV 1 ht0 (gV wd1024 wd1025 wd1026 wd744 wd1027) rfl rfl rfl (by decide +kernel) ⟨Nat.le_of_ble_eq_true rfl, Nat.le_of_ble_eq_true rfl⟩) hK hN hP hD [0] rfl (by decide) 0 8 rfl rfl rfl hl.1 rfl (Nat.le_of_ble_eq_true rfl) dX9_turnsTo_31 ⟨Nat.zero_le _, Nat.zero_le _⟩) hP hD hS hA [0] [1, 2, 3] rfl rfl (by decide) (by decide) [3, 0, 1, 2] (by decide) rfl rfl (fun H locs hP hD hS => ?_)
      obtain ⟨g34, hok⟩ := gd_some hok
      cases hok
      exact W.zret hx hb hr (isB_nar g34) (fun t ht hW => ⟨⟨_, (), rfl, rfl, by rw [ht]; exact hP, va_K.moved hW.alike hK, hD⟩, hS.F ht⟩) hS.2.2 dX9_turnsTo_34
  · have hok := k_pos c5 hok
    refine lv_aload_n hx hb dX9_turnsTo_8 rfl (lv_at hl 0 rfl) ?_
    refine lv_iconst (v := 1) hx hb dX9_turnsTo_9 (by decide) ?_
    obtain ⟨⟨r10, vM_10⟩, hc10, hok⟩ := k_bind hok
    try dsimp only at hok
    refine kCi (wc := (wX9_isNot cy aM qM vM)) (wc2 := (wX9_isNot cy aM qM vM_10)) (wr := [(qM 15, rI cy 224 vM_r), (qM 17, rI cy 9 vM_st), (qM 18, rI cy 144 vM_undone)]) (ws2 := (wX9_turnsTo cy aM qM vM_10 vM_r vM_st vM_undone)) (kRunV (As := [.int 1]) (rest := []) ⟨hx, hb, hml, hown, ht0⟩ (kX9_isNot l D cy _ aM qM vM (1 : Int32) r10 vM_10 hc10 _ rfl) (cwV 1 ht0 (gV wd1024 wd1025 wd1026 wd744 wd1027) rfl rfl rfl (by decide +kernel) ⟨Nat.le_of_ble_eq_true rfl, Nat.le_of_ble_eq_true rfl⟩) hK hN hP hD [0] rfl (by decide) 0 8 rfl rfl rfl hl.1 rfl (Nat.le_of_ble_eq_true rfl) dX9_turnsTo_10 ⟨Nat.zero_le _, Nat.zero_le _⟩) hP hD hS hA [0] [1, 2, 3] rfl rfl (by decide) (by decide) [3, 0, 1, 2] (by decide) rfl rfl (fun H locs hP hD hS => ?_)
    obtain ⟨g13, hok⟩ := gd_some hok
    cases hok
    exact W.zret hx hb hr (isB_nar g13) (fun t ht hW => ⟨⟨_, (), rfl, rfl, by rw [ht]; exact hP, va_K.moved hW.alike hK, hD⟩, hS.F ht⟩) hS.2.2 dX9_turnsTo_13
def wsX9_hold : List Cond := .code yX9_hold cX9_hold 2 (some .boolean) :: W0
abbrev wX9_hold (cy : Nat → ClassId) (aM : Nat) (qM : Nat → Nat) (vM : Nat → Int32) (vM_r : Nat → Int32) (vM_st : Nat → Int32) (vM_undone : Nat → Int32) : va_W := [(aM, oX9 vM qM), (qM 15, rI cy 224 vM_r), (qM 17, rI cy 9 vM_st), (qM 18, rI cy 144 vM_undone)]
set_option maxHeartbeats 4000000 in
set_option maxRecDepth 100000 in
theorem kX9_hold (l : Launch) (D : va_G) (cy : Nat → ClassId) (sz : Nat) (aM : Nat) (qM : Nat → Nat) (vM : Nat → Int32) (vM_r : Nat → Int32) (vM_st : Nat → Int32) (vM_undone : Nat → Int32) (x1 : Int32) (zr : Int32) (z_vM : Nat → Int32) (z_vM_st : Nat → Int32) (z_vM_undone : Nat → Int32) (hok : fX9_hold vM vM_r vM_st vM_undone x1 = some (zr, z_vM, z_vM_st, z_vM_undone)) (A : Nat → Prop) (hAe : va_A (wX9_hold cy aM qM vM vM_r vM_st vM_undone) sz = A) : Met l yX9_hold wsX9_hold ({ frames := 3, cells := 0, slots := 0, locals := 68 } : Room) (kPre D cy [.ref aM, .int x1] (wX9_hold cy aM qM vM vM_r vM_st vM_undone) sz) (kQi D cy zr A (wX9_hold cy aM qM z_vM vM_r z_vM_st z_vM_undone)) 0 0 A := by
  refine Met.ofW (cc := cX9_hold) (maxL := 2) (ret := (some .boolean)) (by decide) rfl ?_
  intro p e s m args below meth c s₁ B hml hv
  obtain ⟨rfl, hsz, hP, hK, hD0, hN⟩ := hv
  have hx := B.exec
  have hb := B.bytes
  have hr := B.returns
  have ht0 : ∀ w ∈ W0, w.before _ s = true := fun w h => atoms_spec (ws := wsX9_hold) B.pre w (List.mem_cons_of_mem _ h)
  have hown : s.vm.findClass RX9 = some m.cls := findClass_of_methodNamed B.named
  have hlocks := B.notSynchronized
  subst hsz
  have hD : va_D A (wX9_hold cy aM qM vM vM_r vM_st vM_undone) := by rw [← hAe]; exact hD0.self
  have hA : ∀ q : Nat, s.heap.size ≤ q → A q := fun q h => by rw [← hAe]; exact Or.inr h
  have hS : va_S A s.heap s.heap [] := va_S.rf
  have hl := lv_entry ([.ref aM, .int x1]) (n := 2) (Nat.le_of_ble_eq_true rfl)
  rw [lg_entry_eq]
  generalize (lg_sl ([.ref aM, .int x1]) ++ List.replicate (2 - (lg_sl ([.ref aM, .int x1])).length) Slot.unset).toArray = ls at hl ⊢
  have hl : lv_has ls 2 [(0, .ref aM), (1, .int x1)] := hl
  unfold fX9_hold at hok
  obtain ⟨H, hH⟩ : ∃ H, H = s.heap := ⟨_, rfl⟩
  obtain ⟨locs, hlc⟩ : ∃ x : List Loc, x = [] := ⟨_, rfl⟩
  have hP : va_P D vwCl (wX9_hold cy aM qM vM vM_r vM_st vM_undone) H := by rw [hH]; exact hP
  have hS : va_S A s.heap H locs := by rw [hH, hlc]; exact hS
  rw [show W p l e _ s m _ below meth c s.heap [] = W p l e _ s m _ below meth c H locs from by rw [hH, hlc]]
  refine lv_aload_n hx hb dX9_hold_0 rfl (lv_at hl 0 rfl) ?_
  obtain ⟨vM_1, hc1, hok⟩ := k_bind hok
  refine kCv (wc := (wX9_good cy aM qM vM)) (wc2 := (wX9_good cy aM qM vM_1)) (wr := [(qM 15, rI cy 224 vM_r), (qM 17, rI cy 9 vM_st), (qM 18, rI cy 144 vM_undone)]) (ws2 := (wX9_hold cy aM qM vM_1 vM_r vM_st vM_undone)) (kRunV (As := []) (rest := []) ⟨hx, hb, hml, hown, ht0⟩ (kX9_good l D cy _ aM qM vM vM_1 hc1 _ rfl) (cwV 0 ht0 (gV wd870 wd871 wd872 wd744 wd873) rfl rfl rfl (by decide +kernel) ⟨Nat.le_of_ble_eq_true rfl, Nat.le_of_ble_eq_true rfl⟩) hK hN hP hD [0] rfl (by decide) 0 8 rfl rfl rfl hl.1 rfl (Nat.le_of_ble_eq_true rfl) dX9_hold_1 ⟨Nat.zero_le _, Nat.zero_le _⟩) hP hD hS hA [0] [1, 2, 3] rfl rfl (by decide) (by decide) [3, 0, 1, 2] (by decide) rfl rfl (fun H locs hP hD hS => ?_)
  refine lv_aload_n hx hb dX9_hold_4 rfl (lv_at hl 0 rfl) ?_
  refine lv_iload_n hx hb dX9_hold_5 rfl (lv_at hl 1 rfl) ?_
  refine lv_iconst (v := 1) hx hb dX9_hold_6 (by decide) ?_
  obtain ⟨⟨r7, vM_7, vM_st_7, vM_undone_7⟩, hc7, hok⟩ := k_bind hok
  try dsimp only at hok
  refine kCi (wc := (wX9_turnsTo cy aM qM vM_1 vM_r vM_st vM_undone)) (wc2 := (wX9_turnsTo cy aM qM vM_7 vM_r vM_st_7 vM_undone_7)) (wr := []) (ws2 := (wX9_hold cy aM qM vM_7 vM_r vM_st_7 vM_undone_7)) (kRunV (As := [.int x1, .int 1]) (rest := []) ⟨hx, hb, hml, hown, ht0⟩ (kX9_turnsTo l D cy _ aM qM vM_1 vM_r vM_st vM_undone x1 (1 : Int32) r7 vM_7 vM_st_7 vM_undone_7 hc7 _ rfl) (cwV 2 ht0 (gV wd1028 wd1029 wd1030 wd744 wd1031) rfl rfl rfl (by decide +kernel) ⟨Nat.le_of_ble_eq_true rfl, Nat.le_of_ble_eq_true rfl⟩) hK hN hP hD [0, 1, 2, 3] rfl (by decide) 0 8 rfl rfl rfl hl.1 rfl (Nat.le_of_ble_eq_true rfl) dX9_hold_7 ⟨Nat.zero_le _, Nat.zero_le _⟩) hP hD hS hA [0, 1, 2, 3] [] rfl rfl (by decide) (by decide) [0, 1, 2, 3] (by decide) rfl rfl (fun H locs hP hD hS => ?_)
  obtain ⟨g10, hok⟩ := gd_some hok
  cases hok
  exact W.zret hx hb hr (isB_nar g10) (fun t ht hW => ⟨⟨_, (), rfl, rfl, by rw [ht]; exact hP, va_K.moved hW.alike hK, hD⟩, hS.F ht⟩) hS.2.2 dX9_hold_10
def wsX9_let : List Cond := .code yX9_let cX9_let 2 (some .boolean) :: W0
abbrev wX9_let (cy : Nat → ClassId) (aM : Nat) (qM : Nat → Nat) (vM : Nat → Int32) (vM_r : Nat → Int32) (vM_st : Nat → Int32) (vM_undone : Nat → Int32) : va_W := [(aM, oX9 vM qM), (qM 15, rI cy 224 vM_r), (qM 17, rI cy 9 vM_st), (qM 18, rI cy 144 vM_undone)]
set_option maxHeartbeats 4000000 in
set_option maxRecDepth 100000 in
theorem kX9_let (l : Launch) (D : va_G) (cy : Nat → ClassId) (sz : Nat) (aM : Nat) (qM : Nat → Nat) (vM : Nat → Int32) (vM_r : Nat → Int32) (vM_st : Nat → Int32) (vM_undone : Nat → Int32) (x1 : Int32) (zr : Int32) (z_vM : Nat → Int32) (z_vM_st : Nat → Int32) (z_vM_undone : Nat → Int32) (hok : fX9_let vM vM_r vM_st vM_undone x1 = some (zr, z_vM, z_vM_st, z_vM_undone)) (A : Nat → Prop) (hAe : va_A (wX9_let cy aM qM vM vM_r vM_st vM_undone) sz = A) : Met l yX9_let wsX9_let ({ frames := 3, cells := 0, slots := 0, locals := 68 } : Room) (kPre D cy [.ref aM, .int x1] (wX9_let cy aM qM vM vM_r vM_st vM_undone) sz) (kQi D cy zr A (wX9_let cy aM qM z_vM vM_r z_vM_st z_vM_undone)) 0 0 A := by
  refine Met.ofW (cc := cX9_let) (maxL := 2) (ret := (some .boolean)) (by decide) rfl ?_
  intro p e s m args below meth c s₁ B hml hv
  obtain ⟨rfl, hsz, hP, hK, hD0, hN⟩ := hv
  have hx := B.exec
  have hb := B.bytes
  have hr := B.returns
  have ht0 : ∀ w ∈ W0, w.before _ s = true := fun w h => atoms_spec (ws := wsX9_let) B.pre w (List.mem_cons_of_mem _ h)
  have hown : s.vm.findClass RX9 = some m.cls := findClass_of_methodNamed B.named
  have hlocks := B.notSynchronized
  subst hsz
  have hD : va_D A (wX9_let cy aM qM vM vM_r vM_st vM_undone) := by rw [← hAe]; exact hD0.self
  have hA : ∀ q : Nat, s.heap.size ≤ q → A q := fun q h => by rw [← hAe]; exact Or.inr h
  have hS : va_S A s.heap s.heap [] := va_S.rf
  have hl := lv_entry ([.ref aM, .int x1]) (n := 2) (Nat.le_of_ble_eq_true rfl)
  rw [lg_entry_eq]
  generalize (lg_sl ([.ref aM, .int x1]) ++ List.replicate (2 - (lg_sl ([.ref aM, .int x1])).length) Slot.unset).toArray = ls at hl ⊢
  have hl : lv_has ls 2 [(0, .ref aM), (1, .int x1)] := hl
  unfold fX9_let at hok
  obtain ⟨H, hH⟩ : ∃ H, H = s.heap := ⟨_, rfl⟩
  obtain ⟨locs, hlc⟩ : ∃ x : List Loc, x = [] := ⟨_, rfl⟩
  have hP : va_P D vwCl (wX9_let cy aM qM vM vM_r vM_st vM_undone) H := by rw [hH]; exact hP
  have hS : va_S A s.heap H locs := by rw [hH, hlc]; exact hS
  rw [show W p l e _ s m _ below meth c s.heap [] = W p l e _ s m _ below meth c H locs from by rw [hH, hlc]]
  refine lv_aload_n hx hb dX9_let_0 rfl (lv_at hl 0 rfl) ?_
  obtain ⟨vM_1, hc1, hok⟩ := k_bind hok
  refine kCv (wc := (wX9_good cy aM qM vM)) (wc2 := (wX9_good cy aM qM vM_1)) (wr := [(qM 15, rI cy 224 vM_r), (qM 17, rI cy 9 vM_st), (qM 18, rI cy 144 vM_undone)]) (ws2 := (wX9_let cy aM qM vM_1 vM_r vM_st vM_undone)) (kRunV (As := []) (rest := []) ⟨hx, hb, hml, hown, ht0⟩ (kX9_good l D cy _ aM qM vM vM_1 hc1 _ rfl) (cwV 0 ht0 (gV wd870 wd871 wd872 wd744 wd873) rfl rfl rfl (by decide +kernel) ⟨Nat.le_of_ble_eq_true rfl, Nat.le_of_ble_eq_true rfl⟩) hK hN hP hD [0] rfl (by decide) 0 8 rfl rfl rfl hl.1 rfl (Nat.le_of_ble_eq_true rfl) dX9_let_1 ⟨Nat.zero_le _, Nat.zero_le _⟩) hP hD hS hA [0] [1, 2, 3] rfl rfl (by decide) (by decide) [3, 0, 1, 2] (by decide) rfl rfl (fun H locs hP hD hS => ?_)
  refine lv_aload_n hx hb dX9_let_4 rfl (lv_at hl 0 rfl) ?_
  refine lv_iload_n hx hb dX9_let_5 rfl (lv_at hl 1 rfl) ?_
  refine lv_iconst (v := 0) hx hb dX9_let_6 (by decide) ?_
  obtain ⟨⟨r7, vM_7, vM_st_7, vM_undone_7⟩, hc7, hok⟩ := k_bind hok
  try dsimp only at hok
  refine kCi (wc := (wX9_turnsTo cy aM qM vM_1 vM_r vM_st vM_undone)) (wc2 := (wX9_turnsTo cy aM qM vM_7 vM_r vM_st_7 vM_undone_7)) (wr := []) (ws2 := (wX9_let cy aM qM vM_7 vM_r vM_st_7 vM_undone_7)) (kRunV (As := [.int x1, .int 0]) (rest := []) ⟨hx, hb, hml, hown, ht0⟩ (kX9_turnsTo l D cy _ aM qM vM_1 vM_r vM_st vM_undone x1 (0 : Int32) r7 vM_7 vM_st_7 vM_undone_7 hc7 _ rfl) (cwV 2 ht0 (gV wd1028 wd1029 wd1030 wd744 wd1031) rfl rfl rfl (by decide +kernel) ⟨Nat.le_of_ble_eq_true rfl, Nat.le_of_ble_eq_true rfl⟩) hK hN hP hD [0, 1, 2, 3] rfl (by decide) 0 8 rfl rfl rfl hl.1 rfl (Nat.le_of_ble_eq_true rfl) dX9_let_7 ⟨Nat.zero_le _, Nat.zero_le _⟩) hP hD hS hA [0, 1, 2, 3] [] rfl rfl (by decide) (by decide) [0, 1, 2, 3] (by decide) rfl rfl (fun H locs hP hD hS => ?_)
  obtain ⟨g10, hok⟩ := gd_some hok
  cases hok
  exact W.zret hx hb hr (isB_nar g10) (fun t ht hW => ⟨⟨_, (), rfl, rfl, by rw [ht]; exact hP, va_K.moved hW.alike hK, hD⟩, hS.F ht⟩) hS.2.2 dX9_let_10
def wsX9_put : List Cond := .code yX9_put cX9_put 4 (some .boolean) :: W0
abbrev wX9_put (cy : Nat → ClassId) (aM : Nat) (qM : Nat → Nat) (vM : Nat → Int32) (vM_r : Nat → Int32) (vM_st : Nat → Int32) (vM_undone : Nat → Int32) : va_W := [(aM, oX9 vM qM), (qM 15, rI cy 224 vM_r), (qM 17, rI cy 9 vM_st), (qM 18, rI cy 144 vM_undone)]
set_option maxHeartbeats 4000000 in
set_option maxRecDepth 100000 in
theorem kX9_put (l : Launch) (D : va_G) (cy : Nat → ClassId) (sz : Nat) (aM : Nat) (qM : Nat → Nat) (vM : Nat → Int32) (vM_r : Nat → Int32) (vM_st : Nat → Int32) (vM_undone : Nat → Int32) (x1 : Int32) (x2 : Int32) (x3 : Int32) (zr : Int32) (z_vM : Nat → Int32) (z_vM_st : Nat → Int32) (z_vM_undone : Nat → Int32) (hok : fX9_put vM vM_r vM_st vM_undone x1 x2 x3 = some (zr, z_vM, z_vM_st, z_vM_undone)) (A : Nat → Prop) (hAe : va_A (wX9_put cy aM qM vM vM_r vM_st vM_undone) sz = A) : Met l yX9_put wsX9_put ({ frames := 3, cells := 0, slots := 0, locals := 65 } : Room) (kPre D cy [.ref aM, .int x1, .int x2, .int x3] (wX9_put cy aM qM vM vM_r vM_st vM_undone) sz) (kQi D cy zr A (wX9_put cy aM qM z_vM vM_r z_vM_st z_vM_undone)) 0 0 A := by
  refine Met.ofW (cc := cX9_put) (maxL := 4) (ret := (some .boolean)) (by decide) rfl ?_
  intro p e s m args below meth c s₁ B hml hv
  obtain ⟨rfl, hsz, hP, hK, hD0, hN⟩ := hv
  have hx := B.exec
  have hb := B.bytes
  have hr := B.returns
  have ht0 : ∀ w ∈ W0, w.before _ s = true := fun w h => atoms_spec (ws := wsX9_put) B.pre w (List.mem_cons_of_mem _ h)
  have hown : s.vm.findClass RX9 = some m.cls := findClass_of_methodNamed B.named
  have hlocks := B.notSynchronized
  subst hsz
  have hD : va_D A (wX9_put cy aM qM vM vM_r vM_st vM_undone) := by rw [← hAe]; exact hD0.self
  have hA : ∀ q : Nat, s.heap.size ≤ q → A q := fun q h => by rw [← hAe]; exact Or.inr h
  have hS : va_S A s.heap s.heap [] := va_S.rf
  have hl := lv_entry ([.ref aM, .int x1, .int x2, .int x3]) (n := 4) (Nat.le_of_ble_eq_true rfl)
  rw [lg_entry_eq]
  generalize (lg_sl ([.ref aM, .int x1, .int x2, .int x3]) ++ List.replicate (4 - (lg_sl ([.ref aM, .int x1, .int x2, .int x3])).length) Slot.unset).toArray = ls at hl ⊢
  have hl : lv_has ls 4 [(0, .ref aM), (1, .int x1), (2, .int x2), (3, .int x3)] := hl
  generalize hQe : MQ below (kQi D cy zr A (wX9_put cy aM qM z_vM vM_r z_vM_st z_vM_undone)) ([.ref aM, .int x1, .int x2, .int x3] : List Value).toArray s 0 0 A = Q
  have J58 : ∀ (vM_58 : Nat → Int32), ∀ (H : Heap) (locs : List Loc) (ls : Array Slot), va_P D vwCl (wX9_put cy aM qM vM_58 vM_r vM_st vM_undone) H → va_D A (wX9_put cy aM qM vM_58 vM_r vM_st vM_undone) → va_S A s.heap H locs → lv_has ls 4 [(0, .ref aM)] → fX9_put_J58 vM_st vM_undone vM_58 = some (zr, z_vM, z_vM_st, z_vM_undone) → W p l e ({ frames := 3, cells := 0, slots := 0, locals := 65 } : Room) s m ([.ref aM, .int x1, .int x2, .int x3] : List Value).toArray below meth c H locs 0 0 Q (F0 m 58 ls []) := by
    intro vM_58 H locs ls hP hD hS hl hok
    unfold fX9_put_J58 at hok
    refine lv_aload_n hx hb dX9_put_58 rfl (lv_at hl 0 rfl) ?_
    refine lv_iconst (v := 5) hx hb dX9_put_59 (by decide) ?_
    obtain ⟨⟨r60, vM_60⟩, hc60, hok⟩ := k_bind hok
    try dsimp only at hok
    refine kCi (wc := (wX9_isNot cy aM qM vM_58)) (wc2 := (wX9_isNot cy aM qM vM_60)) (wr := [(qM 15, rI cy 224 vM_r), (qM 17, rI cy 9 vM_st), (qM 18, rI cy 144 vM_undone)]) (ws2 := (wX9_put cy aM qM vM_60 vM_r vM_st vM_undone)) (kRunV (As := [.int 5]) (rest := []) ⟨hx, hb, hml, hown, ht0⟩ (kX9_isNot l D cy _ aM qM vM_58 (5 : Int32) r60 vM_60 hc60 _ rfl) (cwV 1 ht0 (gV wd1024 wd1025 wd1026 wd744 wd1027) rfl rfl rfl (by decide +kernel) ⟨Nat.le_of_ble_eq_true rfl, Nat.le_of_ble_eq_true rfl⟩) hK hN hP hD [0] rfl (by decide) 0 8 rfl rfl rfl hl.1 rfl (Nat.le_of_ble_eq_true rfl) dX9_put_60 ⟨Nat.zero_le _, Nat.zero_le _⟩) hP hD hS hA [0] [1, 2, 3] rfl rfl (by decide) (by decide) [3, 0, 1, 2] (by decide) rfl rfl (fun H locs hP hD hS => ?_)
    obtain ⟨g63, hok⟩ := gd_some hok
    cases hok
    subst hQe; exact W.zret hx hb hr (isB_nar g63) (fun t ht hW => ⟨⟨_, (), rfl, rfl, by rw [ht]; exact hP, va_K.moved hW.alike hK, hD⟩, hS.F ht⟩) hS.2.2 dX9_put_63
  have J21 : ∀ (vM_21 : Nat → Int32), ∀ (H : Heap) (locs : List Loc) (ls : Array Slot), va_P D vwCl (wX9_put cy aM qM vM_21 vM_r vM_st vM_undone) H → va_D A (wX9_put cy aM qM vM_21 vM_r vM_st vM_undone) → va_S A s.heap H locs → lv_has ls 4 [(0, .ref aM)] → fX9_put_J21 vM_st vM_undone vM_21 = some (zr, z_vM, z_vM_st, z_vM_undone) → W p l e ({ frames := 3, cells := 0, slots := 0, locals := 65 } : Room) s m ([.ref aM, .int x1, .int x2, .int x3] : List Value).toArray below meth c H locs 0 0 Q (F0 m 21 ls []) := by
    intro vM_21 H locs ls hP hD hS hl hok
    unfold fX9_put_J21 at hok
    refine lv_aload_n hx hb dX9_put_21 rfl (lv_at hl 0 rfl) ?_
    refine lv_iconst (v := 1) hx hb dX9_put_22 (by decide) ?_
    obtain ⟨⟨r23, vM_23⟩, hc23, hok⟩ := k_bind hok
    try dsimp only at hok
    refine kCi (wc := (wX9_isNot cy aM qM vM_21)) (wc2 := (wX9_isNot cy aM qM vM_23)) (wr := [(qM 15, rI cy 224 vM_r), (qM 17, rI cy 9 vM_st), (qM 18, rI cy 144 vM_undone)]) (ws2 := (wX9_put cy aM qM vM_23 vM_r vM_st vM_undone)) (kRunV (As := [.int 1]) (rest := []) ⟨hx, hb, hml, hown, ht0⟩ (kX9_isNot l D cy _ aM qM vM_21 (1 : Int32) r23 vM_23 hc23 _ rfl) (cwV 1 ht0 (gV wd1024 wd1025 wd1026 wd744 wd1027) rfl rfl rfl (by decide +kernel) ⟨Nat.le_of_ble_eq_true rfl, Nat.le_of_ble_eq_true rfl⟩) hK hN hP hD [0] rfl (by decide) 0 8 rfl rfl rfl hl.1 rfl (Nat.le_of_ble_eq_true rfl) dX9_put_23 ⟨Nat.zero_le _, Nat.zero_le _⟩) hP hD hS hA [0] [1, 2, 3] rfl rfl (by decide) (by decide) [3, 0, 1, 2] (by decide) rfl rfl (fun H locs hP hD hS => ?_)
    obtain ⟨g26, hok⟩ := gd_some hok
    cases hok
    subst hQe; exact W.zret hx hb hr (isB_nar g26) (fun t ht hW => ⟨⟨_, (), rfl, rfl, by rw [ht]; exact hP, va_K.moved hW.alike hK, hD⟩, hS.F ht⟩) hS.2.2 dX9_put_26
  unfold fX9_put at hok
  obtain ⟨H, hH⟩ : ∃ H, H = s.heap := ⟨_, rfl⟩
  obtain ⟨locs, hlc⟩ : ∃ x : List Loc, x = [] := ⟨_, rfl⟩
  have hP : va_P D vwCl (wX9_put cy aM qM vM vM_r vM_st vM_undone) H := by rw [hH]; exact hP
  have hS : va_S A s.heap H locs := by rw [hH, hlc]; exact hS
  rw [show W p l e _ s m _ below meth c s.heap [] = W p l e _ s m _ below meth c H locs from by rw [hH, hlc]]
  refine lv_aload_n hx hb dX9_put_0 rfl (lv_at hl 0 rfl) ?_
  obtain ⟨vM_1, hc1, hok⟩ := k_bind hok
  refine kCv (wc := (wX9_good cy aM qM vM)) (wc2 := (wX9_good cy aM qM vM_1)) (wr := [(qM 15, rI cy 224 vM_r), (qM 17, rI cy 9 vM_st), (qM 18, rI cy 144 vM_undone)]) (ws2 := (wX9_put cy aM qM vM_1 vM_r vM_st vM_undone)) (kRunV (As := []) (rest := []) ⟨hx, hb, hml, hown, ht0⟩ (kX9_good l D cy _ aM qM vM vM_1 hc1 _ rfl) (cwV 0 ht0 (gV wd870 wd871 wd872 wd744 wd873) rfl rfl rfl (by decide +kernel) ⟨Nat.le_of_ble_eq_true rfl, Nat.le_of_ble_eq_true rfl⟩) hK hN hP hD [0] rfl (by decide) 0 8 rfl rfl rfl hl.1 rfl (Nat.le_of_ble_eq_true rfl) dX9_put_1 ⟨Nat.zero_le _, Nat.zero_le _⟩) hP hD hS hA [0] [1, 2, 3] rfl rfl (by decide) (by decide) [3, 0, 1, 2] (by decide) rfl rfl (fun H locs hP hD hS => ?_)
  refine lv_aload_n hx hb dX9_put_4 rfl (lv_at hl 0 rfl) ?_
  refine lv_iload_n hx hb dX9_put_5 rfl (lv_at hl 1 rfl) ?_
  obtain ⟨r6, hc6, hok⟩ := k_bind hok
  refine kCi (wc := (wX9_isThing cy aM qM vM_1 vM_r)) (wc2 := (wX9_isThing cy aM qM vM_1 vM_r)) (wr := [(qM 17, rI cy 9 vM_st), (qM 18, rI cy 144 vM_undone)]) (ws2 := (wX9_put cy aM qM vM_1 vM_r vM_st vM_undone)) (kRunV (As := [.int x1]) (rest := []) ⟨hx, hb, hml, hown, ht0⟩ (kX9_isThing l D cy _ aM qM vM_1 vM_r x1 r6 hc6 _ rfl) (cwV 1 ht0 (gV wd925 wd926 wd927 wd744 wd928) rfl rfl rfl (by decide +kernel) ⟨Nat.le_of_ble_eq_true rfl, Nat.le_of_ble_eq_true rfl⟩) hK hN hP hD [0, 1] rfl (by decide) 0 8 rfl rfl rfl hl.1 rfl (Nat.le_of_ble_eq_true rfl) dX9_put_6 ⟨Nat.zero_le _, Nat.zero_le _⟩) hP hD hS hA [0, 1] [2, 3] rfl rfl (by decide) (by decide) [2, 3, 0, 1] (by decide) rfl rfl (fun H locs hP hD hS => ?_)
  refine lv_if_eq (tgt := 21) hx hb dX9_put_9 (by decide) (fun c9 => ?_) (fun c9 => ?_)
  · have hok := k_pos c9 hok
    exact J21 vM_1 H locs ls hP hD hS (lv_sub hl [0] rfl) hok
  · have hok := k_neg c9 hok
    refine lv_aload_n hx hb dX9_put_12 rfl (lv_at hl 0 rfl) ?_
    refine lv_iload_n hx hb dX9_put_13 rfl (lv_at hl 2 rfl) ?_
    refine lv_iload_n hx hb dX9_put_14 rfl (lv_at hl 3 rfl) ?_
    obtain ⟨r15, hc15, hok⟩ := k_bind hok
    refine kCi (wc := (wX9_isPlace cy aM qM vM_1 vM_r)) (wc2 := (wX9_isPlace cy aM qM vM_1 vM_r)) (wr := [(qM 17, rI cy 9 vM_st), (qM 18, rI cy 144 vM_undone)]) (ws2 := (wX9_put cy aM qM vM_1 vM_r vM_st vM_undone)) (kRunV (As := [.int x2, .int x3]) (rest := []) ⟨hx, hb, hml, hown, ht0⟩ (kX9_isPlace l D cy _ aM qM vM_1 vM_r x2 x3 r15 hc15 _ rfl) (cwV 2 ht0 (gV wd929 wd930 wd931 wd744 wd932) rfl rfl rfl (by decide +kernel) ⟨Nat.le_of_ble_eq_true rfl, Nat.le_of_ble_eq_true rfl⟩) hK hN hP hD [0, 1] rfl (by decide) 0 8 rfl rfl rfl hl.1 rfl (Nat.le_of_ble_eq_true rfl) dX9_put_15 ⟨Nat.zero_le _, Nat.zero_le _⟩) hP hD hS hA [0, 1] [2, 3] rfl rfl (by decide) (by decide) [2, 3, 0, 1] (by decide) rfl rfl (fun H locs hP hD hS => ?_)
    refine lv_if_ne (tgt := 27) hx hb dX9_put_18 (by decide) (fun c18 => ?_) (fun c18 => ?_)
    · have hok := k_neg c18 hok
      refine lv_aload_n hx hb dX9_put_27 rfl (lv_at hl 0 rfl) ?_
      refine va_get (D := D) (ci := 8) (v := .ref (qM 17)) (C := RX9) (T := TX9) (N := 29) hx hb ht0 niX9 hown hK hP 0 rfl rfl 17 (by decide) (ht0 _ wd858) (fun _ h9 => h9) rfl dX9_put_28 ?_
      refine lv_bipush (v := 7) hx hb dX9_put_31 (by decide) ?_
      obtain ⟨g33, hok⟩ := gd_some hok
      refine va_iald hx hb hK hP 2 0 rfl rfl (okI_in g33) dX9_put_33 ?_
      refine lv_iload_n hx hb dX9_put_34 rfl (lv_at hl 1 rfl) ?_
      obtain ⟨r35, hc35, hok⟩ := k_bind hok
      refine kCi (wc := (wX9_hasBit cy )) (wc2 := (wX9_hasBit cy )) (wr := [(aM, oX9 vM_1 qM), (qM 15, rI cy 224 vM_r), (qM 17, rI cy 9 vM_st), (qM 18, rI cy 144 vM_undone)]) (ws2 := (wX9_put cy aM qM vM_1 vM_r vM_st vM_undone)) (kRunS (As := [.int (vM_st (7 : Int32).toNatClampNeg), .int x1]) (rest := []) ⟨hx, hb, hml, hown, ht0⟩ (kX9_hasBit l D cy _ (vM_st (7 : Int32).toNatClampNeg) x1 r35 hc35 _ rfl) (va_cwS 2 ht0 (gS wd894 wd895 wd744 wd896) rfl rfl rfl (by decide +kernel) ⟨Nat.le_of_ble_eq_true rfl, Nat.le_of_ble_eq_true rfl⟩) hK hN hP hD [] rfl (by decide) rfl hl.1 rfl (Nat.le_of_ble_eq_true rfl) dX9_put_35 ⟨Nat.zero_le _, Nat.zero_le _⟩) hP hD hS hA [] [0, 1, 2, 3] rfl rfl (by decide) (by decide) [0, 1, 2, 3] (by decide) rfl rfl (fun H locs hP hD hS => ?_)
      refine lv_if_ne (tgt := 58) hx hb dX9_put_38 (by decide) (fun c38 => ?_) (fun c38 => ?_)
      · have hok := k_neg c38 hok
        exact J58 vM_1 H locs ls hP hD hS (lv_sub hl [0] rfl) hok
      · have hok := k_pos c38 hok
        refine lv_aload_n hx hb dX9_put_41 rfl (lv_at hl 0 rfl) ?_
        refine lv_aload_n hx hb dX9_put_42 rfl (lv_at hl 0 rfl) ?_
        refine va_get (D := D) (ci := 8) (v := .ref (qM 17)) (C := RX9) (T := TX9) (N := 29) hx hb ht0 niX9 hown hK hP 0 rfl rfl 17 (by decide) (ht0 _ wd858) (fun _ h9 => h9) rfl dX9_put_43 ?_
        refine lv_bipush (v := 9) hx hb dX9_put_46 (by decide) ?_
        refine lv_iload_n hx hb dX9_put_48 rfl (lv_at hl 2 rfl) ?_
        refine lv_imul hx hb dX9_put_49 ?_
        refine lv_iload_n hx hb dX9_put_50 rfl (lv_at hl 3 rfl) ?_
        refine lv_iadd hx hb dX9_put_51 ?_
        obtain ⟨r52, hc52, hok⟩ := k_bind hok
        refine kCi (wc := (wX9_thingAt cy aM (qM 17) qM vM_1 vM_r 9 vM_st)) (wc2 := (wX9_thingAt cy aM (qM 17) qM vM_1 vM_r 9 vM_st)) (wr := [(qM 18, rI cy 144 vM_undone)]) (ws2 := (wX9_put cy aM qM vM_1 vM_r vM_st vM_undone)) (kRunV (As := [.ref (qM 17), .int (((9 : Int32) * x2) + x3)]) (rest := []) ⟨hx, hb, hml, hown, ht0⟩ (kX9_thingAt l D cy _ aM (qM 17) qM vM_1 vM_r 9 vM_st (((9 : Int32) * x2) + x3) r52 hc52 _ rfl) (cwV 2 ht0 (gV wd901 wd902 wd903 wd744 wd904) rfl rfl rfl (by decide +kernel) ⟨Nat.le_of_ble_eq_true rfl, Nat.le_of_ble_eq_true rfl⟩) hK hN hP hD [0, 1, 2] rfl (by decide) 0 8 rfl rfl rfl hl.1 rfl (Nat.le_of_ble_eq_true rfl) dX9_put_52 ⟨Nat.zero_le _, Nat.zero_le _⟩) hP hD hS hA [0, 1, 2] [3] rfl rfl (by decide) (by decide) [1, 2, 3, 0] (by decide) rfl rfl (fun H locs hP hD hS => ?_)
        refine lv_if_lt (tgt := 64) hx hb dX9_put_55 (by decide) (fun c55 => ?_) (fun c55 => ?_)
        · have hok := k_pos c55 hok
          refine lv_aload_n hx hb dX9_put_64 rfl (lv_at hl 0 rfl) ?_
          obtain ⟨⟨vM_65, vM_undone_65⟩, hc65, hok⟩ := k_bind hok
          try dsimp only at hok
          refine kCv (wc := (wX9_note cy aM qM vM_1 vM_undone vM_st)) (wc2 := (wX9_note cy aM qM vM_65 vM_undone_65 vM_st)) (wr := [(qM 15, rI cy 224 vM_r)]) (ws2 := (wX9_put cy aM qM vM_65 vM_r vM_st vM_undone_65)) (kRunV (As := []) (rest := []) ⟨hx, hb, hml, hown, ht0⟩ (kX9_note l D cy _ aM qM vM_1 vM_undone vM_st vM_65 vM_undone_65 hc65 _ rfl) (cwV 0 ht0 (gV wd1020 wd1021 wd1022 wd744 wd1023) rfl rfl rfl (by decide +kernel) ⟨Nat.le_of_ble_eq_true rfl, Nat.le_of_ble_eq_true rfl⟩) hK hN hP hD [0, 3, 2] rfl (by decide) 0 8 rfl rfl rfl hl.1 rfl (Nat.le_of_ble_eq_true rfl) dX9_put_65 ⟨Nat.zero_le _, Nat.zero_le _⟩) hP hD hS hA [0, 3, 2] [1] rfl rfl (by decide) (by decide) [1, 0, 3, 2] (by decide) rfl rfl (fun H locs hP hD hS => ?_)
          refine lv_aload_n hx hb dX9_put_68 rfl (lv_at hl 0 rfl) ?_
          refine va_get (D := D) (ci := 8) (v := .ref (qM 17)) (C := RX9) (T := TX9) (N := 29) hx hb ht0 niX9 hown hK hP 0 rfl rfl 17 (by decide) (ht0 _ wd858) (fun _ h9 => h9) rfl dX9_put_69 ?_
          refine lv_iload_n hx hb dX9_put_72 rfl (lv_at hl 1 rfl) ?_
          refine lv_bipush (v := 9) hx hb dX9_put_73 (by decide) ?_
          refine lv_iload_n hx hb dX9_put_75 rfl (lv_at hl 2 rfl) ?_
          refine lv_imul hx hb dX9_put_76 ?_
          refine lv_iload_n hx hb dX9_put_77 rfl (lv_at hl 3 rfl) ?_
          refine lv_iadd hx hb dX9_put_78 ?_
          obtain ⟨g79, hok⟩ := gd_some hok
          refine va_iast hx hb hK hP hD hS 2 0 rfl rfl (okI_in g79) dX9_put_79 (fun H locs hP hD hS => ?_)
          have hP : va_P D vwCl (wX9_put cy aM qM vM_65 vM_r (upd vM_st x1.toNatClampNeg (((9 : Int32) * x2) + x3)) vM_undone_65) H := hP
          have hD : va_D A (wX9_put cy aM qM vM_65 vM_r (upd vM_st x1.toNatClampNeg (((9 : Int32) * x2) + x3)) vM_undone_65) := hD
          refine lv_iconst (v := 1) hx hb dX9_put_80 (by decide) ?_
          cases hok
          subst hQe; exact W.zret hx hb hr rfl (fun t ht hW => ⟨⟨_, (), rfl, rfl, by rw [ht]; exact hP, va_K.moved hW.alike hK, hD⟩, hS.F ht⟩) hS.2.2 dX9_put_81
        · have hok := k_neg c55 hok
          exact J58 vM_1 H locs ls hP hD hS (lv_sub hl [0] rfl) hok
    · have hok := k_pos c18 hok
      exact J21 vM_1 H locs ls hP hD hS (lv_sub hl [0] rfl) hok
def wsX9_night : List Cond := .code yX9_night cX9_night 1 (some .int) :: W0
abbrev wX9_night (cy : Nat → ClassId) (aM : Nat) (qM : Nat → Nat) (vM : Nat → Int32) (vM_st : Nat → Int32) (vM_undone : Nat → Int32) (vM_r : Nat → Int32) : va_W := [(aM, oX9 vM qM), (qM 17, rI cy 9 vM_st), (qM 18, rI cy 144 vM_undone), (qM 15, rI cy 224 vM_r)]
set_option maxHeartbeats 4000000 in
set_option maxRecDepth 100000 in
theorem kX9_night (l : Launch) (D : va_G) (cy : Nat → ClassId) (sz : Nat) (aM : Nat) (qM : Nat → Nat) (vM : Nat → Int32) (vM_st : Nat → Int32) (vM_undone : Nat → Int32) (vM_r : Nat → Int32) (zr : Int32) (z_vM : Nat → Int32) (z_vM_st : Nat → Int32) (z_vM_undone : Nat → Int32) (hok : fX9_night vM vM_st vM_undone vM_r = some (zr, z_vM, z_vM_st, z_vM_undone)) (A : Nat → Prop) (hAe : va_A (wX9_night cy aM qM vM vM_st vM_undone vM_r) sz = A) : Met l yX9_night wsX9_night ({ frames := 5, cells := 0, slots := 0, locals := 114 } : Room) (kPre D cy [.ref aM] (wX9_night cy aM qM vM vM_st vM_undone vM_r) sz) (kQi D cy zr A (wX9_night cy aM qM z_vM z_vM_st z_vM_undone vM_r)) 0 0 A := by
  refine Met.ofW (cc := cX9_night) (maxL := 1) (ret := (some .int)) (by decide) rfl ?_
  intro p e s m args below meth c s₁ B hml hv
  obtain ⟨rfl, hsz, hP, hK, hD0, hN⟩ := hv
  have hx := B.exec
  have hb := B.bytes
  have hr := B.returns
  have ht0 : ∀ w ∈ W0, w.before _ s = true := fun w h => atoms_spec (ws := wsX9_night) B.pre w (List.mem_cons_of_mem _ h)
  have hown : s.vm.findClass RX9 = some m.cls := findClass_of_methodNamed B.named
  have hlocks := B.notSynchronized
  subst hsz
  have hD : va_D A (wX9_night cy aM qM vM vM_st vM_undone vM_r) := by rw [← hAe]; exact hD0.self
  have hA : ∀ q : Nat, s.heap.size ≤ q → A q := fun q h => by rw [← hAe]; exact Or.inr h
  have hS : va_S A s.heap s.heap [] := va_S.rf
  have hl := lv_entry ([.ref aM]) (n := 1) (Nat.le_of_ble_eq_true rfl)
  rw [lg_entry_eq]
  generalize (lg_sl ([.ref aM]) ++ List.replicate (1 - (lg_sl ([.ref aM])).length) Slot.unset).toArray = ls at hl ⊢
  have hl : lv_has ls 1 [(0, .ref aM)] := hl
  unfold fX9_night at hok
  obtain ⟨H, hH⟩ : ∃ H, H = s.heap := ⟨_, rfl⟩
  obtain ⟨locs, hlc⟩ : ∃ x : List Loc, x = [] := ⟨_, rfl⟩
  have hP : va_P D vwCl (wX9_night cy aM qM vM vM_st vM_undone vM_r) H := by rw [hH]; exact hP
  have hS : va_S A s.heap H locs := by rw [hH, hlc]; exact hS
  rw [show W p l e _ s m _ below meth c s.heap [] = W p l e _ s m _ below meth c H locs from by rw [hH, hlc]]
  refine lv_aload_n hx hb dX9_night_0 rfl (lv_at hl 0 rfl) ?_
  obtain ⟨vM_1, hc1, hok⟩ := k_bind hok
  refine kCv (wc := (wX9_good cy aM qM vM)) (wc2 := (wX9_good cy aM qM vM_1)) (wr := [(qM 17, rI cy 9 vM_st), (qM 18, rI cy 144 vM_undone), (qM 15, rI cy 224 vM_r)]) (ws2 := (wX9_night cy aM qM vM_1 vM_st vM_undone vM_r)) (kRunV (As := []) (rest := []) ⟨hx, hb, hml, hown, ht0⟩ (kX9_good l D cy _ aM qM vM vM_1 hc1 _ rfl) (cwV 0 ht0 (gV wd870 wd871 wd872 wd744 wd873) rfl rfl rfl (by decide +kernel) ⟨Nat.le_of_ble_eq_true rfl, Nat.le_of_ble_eq_true rfl⟩) hK hN hP hD [0] rfl (by decide) 0 8 rfl rfl rfl hl.1 rfl (Nat.le_of_ble_eq_true rfl) dX9_night_1 ⟨Nat.zero_le _, Nat.zero_le _⟩) hP hD hS hA [0] [1, 2, 3] rfl rfl (by decide) (by decide) [3, 0, 1, 2] (by decide) rfl rfl (fun H locs hP hD hS => ?_)
  refine lv_aload_n hx hb dX9_night_4 rfl (lv_at hl 0 rfl) ?_
  refine va_get (D := D) (ci := 8) (v := .int (vM_1 14)) (C := RX9) (T := TX9) (N := 29) hx hb ht0 niX9 hown hK hP 0 rfl rfl 14 (by decide) (ht0 _ wd855) (fun _ h9 => h9) rfl dX9_night_5 ?_
  refine lv_if_ne (tgt := 17) hx hb dX9_night_8 (by decide) (fun c8 => ?_) (fun c8 => ?_)
  · have hok := k_neg c8 hok
    refine lv_aload_n hx hb dX9_night_17 rfl (lv_at hl 0 rfl) ?_
    refine va_get (D := D) (ci := 8) (v := .ref (qM 17)) (C := RX9) (T := TX9) (N := 29) hx hb ht0 niX9 hown hK hP 0 rfl rfl 17 (by decide) (ht0 _ wd858) (fun _ h9 => h9) rfl dX9_night_18 ?_
    refine lv_bipush (v := 8) hx hb dX9_night_21 (by decide) ?_
    obtain ⟨g23, hok⟩ := gd_some hok
    refine va_iald hx hb hK hP 1 0 rfl rfl (okI_in g23) dX9_night_23 ?_
    refine lv_sipush (v := 999) hx hb dX9_night_24 (by decide) ?_
    refine lv_icmp_ne (tgt := 36) hx hb dX9_night_27 (by decide) (fun c27 => ?_) (fun c27 => ?_)
    · have hok := k_neg c27 hok
      refine lv_aload_n hx hb dX9_night_36 rfl (lv_at hl 0 rfl) ?_
      obtain ⟨⟨vM_37, vM_undone_37⟩, hc37, hok⟩ := k_bind hok
      try dsimp only at hok
      refine kCv (wc := (wX9_note cy aM qM vM_1 vM_undone vM_st)) (wc2 := (wX9_note cy aM qM vM_37 vM_undone_37 vM_st)) (wr := [(qM 15, rI cy 224 vM_r)]) (ws2 := (wX9_night cy aM qM vM_37 vM_st vM_undone_37 vM_r)) (kRunV (As := []) (rest := []) ⟨hx, hb, hml, hown, ht0⟩ (kX9_note l D cy _ aM qM vM_1 vM_undone vM_st vM_37 vM_undone_37 hc37 _ rfl) (cwV 0 ht0 (gV wd1020 wd1021 wd1022 wd744 wd1023) rfl rfl rfl (by decide +kernel) ⟨Nat.le_of_ble_eq_true rfl, Nat.le_of_ble_eq_true rfl⟩) hK hN hP hD [0, 2, 1] rfl (by decide) 0 8 rfl rfl rfl hl.1 rfl (Nat.le_of_ble_eq_true rfl) dX9_night_37 ⟨Nat.zero_le _, Nat.zero_le _⟩) hP hD hS hA [0, 2, 1] [3] rfl rfl (by decide) (by decide) [1, 3, 2, 0] (by decide) rfl rfl (fun H locs hP hD hS => ?_)
      refine lv_aload_n hx hb dX9_night_40 rfl (lv_at hl 0 rfl) ?_
      refine lv_aload_n hx hb dX9_night_41 rfl (lv_at hl 0 rfl) ?_
      refine va_get (D := D) (ci := 8) (v := .ref (qM 17)) (C := RX9) (T := TX9) (N := 29) hx hb ht0 niX9 hown hK hP 0 rfl rfl 17 (by decide) (ht0 _ wd858) (fun _ h9 => h9) rfl dX9_night_42 ?_
      obtain ⟨⟨r45, p1_45⟩, hc45, hok⟩ := k_bind hok
      try dsimp only at hok
      refine kCi (wc := (wX9_nightOf cy aM (qM 17) qM vM_37 vM_r 9 vM_st)) (wc2 := (wX9_nightOf cy aM (qM 17) qM vM_37 vM_r 9 p1_45)) (wr := [(qM 18, rI cy 144 vM_undone_37)]) (ws2 := (wX9_night cy aM qM vM_37 p1_45 vM_undone_37 vM_r)) (kRunV (As := [.ref (qM 17)]) (rest := []) ⟨hx, hb, hml, hown, ht0⟩ (kX9_nightOf l D cy _ aM (qM 17) qM vM_37 vM_r 9 vM_st r45 p1_45 hc45 _ rfl) (cwV 1 ht0 (gV wd940 wd941 wd942 wd744 wd943) rfl rfl rfl (by decide +kernel) ⟨Nat.le_of_ble_eq_true rfl, Nat.le_of_ble_eq_true rfl⟩) hK hN hP hD [0, 3, 1] rfl (by decide) 0 8 rfl rfl rfl hl.1 rfl (Nat.le_of_ble_eq_true rfl) dX9_night_45 ⟨Nat.zero_le _, Nat.zero_le _⟩) hP hD hS hA [0, 3, 1] [2] rfl rfl (by decide) (by decide) [1, 3, 0, 2] (by decide) rfl rfl (fun H locs hP hD hS => ?_)
      cases hok
      exact W.iret hx hb hr (fun t ht hW => ⟨⟨_, (), rfl, rfl, by rw [ht]; exact hP, va_K.moved hW.alike hK, hD⟩, hS.F ht⟩) hS.2.2 dX9_night_48
    · have hok := k_pos c27 hok
      refine lv_aload_n hx hb dX9_night_30 rfl (lv_at hl 0 rfl) ?_
      refine lv_iconst (v := 3) hx hb dX9_night_31 (by decide) ?_
      obtain ⟨⟨r32, vM_32⟩, hc32, hok⟩ := k_bind hok
      try dsimp only at hok
      refine kCi (wc := (wX9_no cy aM qM vM_1)) (wc2 := (wX9_no cy aM qM vM_32)) (wr := [(qM 17, rI cy 9 vM_st), (qM 18, rI cy 144 vM_undone), (qM 15, rI cy 224 vM_r)]) (ws2 := (wX9_night cy aM qM vM_32 vM_st vM_undone vM_r)) (kRunV (As := [.int 3]) (rest := []) ⟨hx, hb, hml, hown, ht0⟩ (kX9_no l D cy _ aM qM vM_1 (3 : Int32) r32 vM_32 hc32 _ rfl) (cwV 1 ht0 (gV wd862 wd863 wd864 wd744 wd865) rfl rfl rfl (by decide +kernel) ⟨Nat.le_of_ble_eq_true rfl, Nat.le_of_ble_eq_true rfl⟩) hK hN hP hD [0] rfl (by decide) 0 8 rfl rfl rfl hl.1 rfl (Nat.le_of_ble_eq_true rfl) dX9_night_32 ⟨Nat.zero_le _, Nat.zero_le _⟩) hP hD hS hA [0] [1, 2, 3] rfl rfl (by decide) (by decide) [3, 0, 1, 2] (by decide) rfl rfl (fun H locs hP hD hS => ?_)
      cases hok
      exact W.iret hx hb hr (fun t ht hW => ⟨⟨_, (), rfl, rfl, by rw [ht]; exact hP, va_K.moved hW.alike hK, hD⟩, hS.F ht⟩) hS.2.2 dX9_night_35
  · have hok := k_pos c8 hok
    refine lv_aload_n hx hb dX9_night_11 rfl (lv_at hl 0 rfl) ?_
    refine lv_iconst (v := 1) hx hb dX9_night_12 (by decide) ?_
    obtain ⟨⟨r13, vM_13⟩, hc13, hok⟩ := k_bind hok
    try dsimp only at hok
    refine kCi (wc := (wX9_no cy aM qM vM_1)) (wc2 := (wX9_no cy aM qM vM_13)) (wr := [(qM 17, rI cy 9 vM_st), (qM 18, rI cy 144 vM_undone), (qM 15, rI cy 224 vM_r)]) (ws2 := (wX9_night cy aM qM vM_13 vM_st vM_undone vM_r)) (kRunV (As := [.int 1]) (rest := []) ⟨hx, hb, hml, hown, ht0⟩ (kX9_no l D cy _ aM qM vM_1 (1 : Int32) r13 vM_13 hc13 _ rfl) (cwV 1 ht0 (gV wd862 wd863 wd864 wd744 wd865) rfl rfl rfl (by decide +kernel) ⟨Nat.le_of_ble_eq_true rfl, Nat.le_of_ble_eq_true rfl⟩) hK hN hP hD [0] rfl (by decide) 0 8 rfl rfl rfl hl.1 rfl (Nat.le_of_ble_eq_true rfl) dX9_night_13 ⟨Nat.zero_le _, Nat.zero_le _⟩) hP hD hS hA [0] [1, 2, 3] rfl rfl (by decide) (by decide) [3, 0, 1, 2] (by decide) rfl rfl (fun H locs hP hD hS => ?_)
    cases hok
    exact W.iret hx hb hr (fun t ht hW => ⟨⟨_, (), rfl, rfl, by rw [ht]; exact hP, va_K.moved hW.alike hK, hD⟩, hS.F ht⟩) hS.2.2 dX9_night_16
