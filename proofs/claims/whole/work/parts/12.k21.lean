def wsX9_mostMeet : List Cond := .code yX9_mostMeet cX9_mostMeet 4 (some .int) :: W0
abbrev wX9_mostMeet (cy : Nat → ClassId) (aM : Nat) (qM : Nat → Nat) (vM : Nat → Int32) (vM_st : Nat → Int32) (vM_trial : Nat → Int32) (vM_met : Nat → Int32) (vM_r : Nat → Int32) : va_W := [(aM, oX9 vM qM), (qM 17, rI cy 9 vM_st), (qM 22, rI cy 9 vM_trial), (qM 23, rI cy 49 vM_met), (qM 15, rI cy 224 vM_r)]
set_option maxHeartbeats 4000000 in
set_option maxRecDepth 100000 in
theorem kX9_mostMeet (l : Launch) (D : va_G) (cy : Nat → ClassId) (sz : Nat) (aM : Nat) (qM : Nat → Nat) (vM : Nat → Int32) (vM_st : Nat → Int32) (vM_trial : Nat → Int32) (vM_met : Nat → Int32) (vM_r : Nat → Int32) (zr : Int32) (z_vM : Nat → Int32) (z_vM_trial : Nat → Int32) (z_vM_met : Nat → Int32) (hok : fX9_mostMeet vM vM_st vM_trial vM_met vM_r = some (zr, z_vM, z_vM_trial, z_vM_met)) (A : Nat → Prop) (hAe : va_A (wX9_mostMeet cy aM qM vM vM_st vM_trial vM_met vM_r) sz = A) : Met l yX9_mostMeet wsX9_mostMeet ({ frames := 5, cells := 0, slots := 0, locals := 114 } : Room) (kPre D cy [.ref aM] (wX9_mostMeet cy aM qM vM vM_st vM_trial vM_met vM_r) sz) (kQi D cy zr A (wX9_mostMeet cy aM qM z_vM vM_st z_vM_trial z_vM_met vM_r)) 0 0 A := by
  refine Met.ofW (cc := cX9_mostMeet) (maxL := 4) (ret := (some .int)) (by decide) rfl ?_
  intro p e s m args below meth c s₁ B hml hv
  obtain ⟨rfl, hsz, hP, hK, hD0, hN⟩ := hv
  have hx := B.exec
  have hb := B.bytes
  have hr := B.returns
  have ht0 : ∀ w ∈ W0, w.before _ s = true := fun w h => atoms_spec (ws := wsX9_mostMeet) B.pre w (List.mem_cons_of_mem _ h)
  have hown : s.vm.findClass RX9 = some m.cls := findClass_of_methodNamed B.named
  have hlocks := B.notSynchronized
  subst hsz
  have hD : va_D A (wX9_mostMeet cy aM qM vM vM_st vM_trial vM_met vM_r) := by rw [← hAe]; exact hD0.self
  have hA : ∀ q : Nat, s.heap.size ≤ q → A q := fun q h => by rw [← hAe]; exact Or.inr h
  have hS : va_S A s.heap s.heap [] := va_S.rf
  have hl := lv_entry ([.ref aM]) (n := 4) (Nat.le_of_ble_eq_true rfl)
  rw [lg_entry_eq]
  generalize (lg_sl ([.ref aM]) ++ List.replicate (4 - (lg_sl ([.ref aM])).length) Slot.unset).toArray = ls at hl ⊢
  have hl : lv_has ls 4 [(0, .ref aM)] := hl
  generalize hQe : MQ below (kQi D cy zr A (wX9_mostMeet cy aM qM z_vM vM_st z_vM_trial z_vM_met vM_r)) ([.ref aM] : List Value).toArray s 0 0 A = Q
  have L148 : ∀ (fuel : Nat) (y1_148 : Int32) (y2_148 : Int32) (y3_148 : Int32) (vM_met_148 : Nat → Int32) (vM_trial_148 : Nat → Int32) (vM_148 : Nat → Int32), ∀ (H : Heap) (locs : List Loc) (ls : Array Slot), va_P D vwCl (wX9_mostMeet cy aM qM vM_148 vM_st vM_trial_148 vM_met_148 vM_r) H → va_D A (wX9_mostMeet cy aM qM vM_148 vM_st vM_trial_148 vM_met_148 vM_r) → va_S A s.heap H locs → lv_has ls 4 [(0, .ref aM), (1, .int y1_148), (2, .int y2_148), (3, .int y3_148)] → lp (fX9_mostMeet_B148) fuel (y1_148, y2_148, y3_148, vM_met_148, vM_trial_148, vM_148) = some (zr, z_vM, z_vM_trial, z_vM_met) → W p l e ({ frames := 5, cells := 0, slots := 0, locals := 114 } : Room) s m ([.ref aM] : List Value).toArray below meth c H locs 0 0 Q (F0 m 148 ls []) := by
    intro fuel
    induction fuel with
    | zero => intro y1_148 y2_148 y3_148 vM_met_148 vM_trial_148 vM_148 H locs ls hP hD hS hl hok; exact (lp_0 hok).elim
    | succ fuel ih148 =>
      intro y1_148 y2_148 y3_148 vM_met_148 vM_trial_148 vM_148 H locs ls hP hD hS hl hok
      obtain ⟨y148, hok, hL148, hR148⟩ := lp_step hok
      have J187 : ∀ (y1_187 : Int32) (y2_187 : Int32), ∀ (H : Heap) (locs : List Loc) (ls : Array Slot), va_P D vwCl (wX9_mostMeet cy aM qM vM_148 vM_st vM_trial_148 vM_met_148 vM_r) H → va_D A (wX9_mostMeet cy aM qM vM_148 vM_st vM_trial_148 vM_met_148 vM_r) → va_S A s.heap H locs → lv_has ls 4 [(0, .ref aM), (1, .int y1_187), (2, .int y2_187), (3, .int y3_148)] → fX9_mostMeet_J187 y3_148 vM_met_148 vM_trial_148 vM_148 y1_187 y2_187 = some y148 → W p l e ({ frames := 5, cells := 0, slots := 0, locals := 114 } : Room) s m ([.ref aM] : List Value).toArray below meth c H locs 0 0 Q (F0 m 187 ls []) := by
        intro y1_187 y2_187 H locs ls hP hD hS hl hok
        unfold fX9_mostMeet_J187 at hok
        refine lv_iinc (v := (y3_148 + 1)) (lv' := [(3, .int (y3_148 + 1)), (0, .ref aM), (1, .int y1_187), (2, .int y2_187)]) hx hb dX9_mostMeet_187 hl (k := 3) rfl (by first | rfl | decide) (by decide) rfl (fun ls hl => ?_)
        refine lv_goto (tgt := 148) hx hb dX9_mostMeet_190 (by decide) ?_
        exact ih148 y1_187 y2_187 (y3_148 + 1) vM_met_148 vM_trial_148 vM_148 H locs ls hP hD hS (lv_sub hl [1, 2, 3, 0] rfl) (hR148 _ (Option.some.inj hok).symm)
      unfold fX9_mostMeet_B148 at hok
      try dsimp only at hok
      refine lv_iload_n hx hb dX9_mostMeet_148 rfl (lv_at hl 3 rfl) ?_
      refine lv_bipush (v := 49) hx hb dX9_mostMeet_149 (by decide) ?_
      refine lv_icmp_ge (tgt := 193) hx hb dX9_mostMeet_151 (by decide) (fun c151 => ?_) (fun c151 => ?_)
      · have hok := k_pos c151 hok
        obtain ⟨e148, hok, he148⟩ := ex_some hok
        have hok := hok.trans (congrArg some (hL148 _ he148))
        refine lv_iload_n hx hb dX9_mostMeet_193 rfl (lv_at hl 1 rfl) ?_
        cases hok
        subst hQe; exact W.iret hx hb hr (fun t ht hW => ⟨⟨_, (), rfl, rfl, by rw [ht]; exact hP, va_K.moved hW.alike hK, hD⟩, hS.F ht⟩) hS.2.2 dX9_mostMeet_194
      · have hok := k_neg c151 hok
        refine lv_aload_n hx hb dX9_mostMeet_154 rfl (lv_at hl 0 rfl) ?_
        refine va_get (D := D) (ci := 8) (v := .ref (qM 23)) (C := RX9) (T := TX9) (N := 29) hx hb ht0 niX9 hown hK hP 0 rfl rfl 23 (by decide) (ht0 _ wd956) (fun _ h9 => h9) rfl dX9_mostMeet_155 ?_
        refine lv_iload_n hx hb dX9_mostMeet_158 rfl (lv_at hl 3 rfl) ?_
        obtain ⟨g159, hok⟩ := gd_some hok
        refine va_iald hx hb hK hP 3 0 rfl rfl (okI_in g159) dX9_mostMeet_159 ?_
        refine lv_iload_n hx hb dX9_mostMeet_160 rfl (lv_at hl 2 rfl) ?_
        refine lv_icmp_gt (tgt := 167) hx hb dX9_mostMeet_161 (by decide) (fun c161 => ?_) (fun c161 => ?_)
        · have hok := k_pos c161 hok
          refine lv_bipush (v := 10) hx hb dX9_mostMeet_167 (by decide) ?_
          refine lv_iload_n hx hb dX9_mostMeet_169 rfl (lv_at hl 3 rfl) ?_
          refine lv_bipush (v := 7) hx hb dX9_mostMeet_170 (by decide) ?_
          refine lv_idiv hx hb dX9_mostMeet_172 (by decide) ?_
          refine lv_imul hx hb dX9_mostMeet_173 ?_
          refine lv_iload_n hx hb dX9_mostMeet_174 rfl (lv_at hl 3 rfl) ?_
          refine lv_bipush (v := 7) hx hb dX9_mostMeet_175 (by decide) ?_
          refine lv_irem hx hb dX9_mostMeet_177 (by decide) ?_
          refine lv_iadd hx hb dX9_mostMeet_178 ?_
          refine lv_istore_n (lv' := [(1, .int (((10 : Int32) * (y3_148 / (7 : Int32))) + (irm y3_148 (7 : Int32)))), (0, .ref aM), (2, .int y2_148), (3, .int y3_148)]) hx hb dX9_mostMeet_179 rfl hl (by decide) rfl (fun ls hl => ?_)
          refine lv_aload_n hx hb dX9_mostMeet_180 rfl (lv_at hl 1 rfl) ?_
          refine va_get (D := D) (ci := 8) (v := .ref (qM 23)) (C := RX9) (T := TX9) (N := 29) hx hb ht0 niX9 hown hK hP 0 rfl rfl 23 (by decide) (ht0 _ wd956) (fun _ h9 => h9) rfl dX9_mostMeet_181 ?_
          refine lv_iload_n hx hb dX9_mostMeet_184 rfl (lv_at hl 3 rfl) ?_
          obtain ⟨g185, hok⟩ := gd_some hok
          refine va_iald hx hb hK hP 3 0 rfl rfl (okI_in g185) dX9_mostMeet_185 ?_
          refine lv_istore_n (lv' := [(2, .int (vM_met_148 y3_148.toNatClampNeg)), (1, .int (((10 : Int32) * (y3_148 / (7 : Int32))) + (irm y3_148 (7 : Int32)))), (0, .ref aM), (3, .int y3_148)]) hx hb dX9_mostMeet_186 rfl hl (by decide) rfl (fun ls hl => ?_)
          exact J187 (((10 : Int32) * (y3_148 / (7 : Int32))) + (irm y3_148 (7 : Int32))) (vM_met_148 y3_148.toNatClampNeg) H locs ls hP hD hS (lv_sub hl [2, 1, 0, 3] rfl) hok
        · have hok := k_neg c161 hok
          refine lv_goto (tgt := 187) hx hb dX9_mostMeet_164 (by decide) ?_
          exact J187 y1_148 y2_148 H locs ls hP hD hS (lv_sub hl [0, 1, 2, 3] rfl) hok
  have L44 : ∀ (fuel : Nat) (y1_44 : Int32) (vM_met_44 : Nat → Int32) (vM_trial_44 : Nat → Int32) (vM_44 : Nat → Int32), ∀ (H : Heap) (locs : List Loc) (ls : Array Slot), va_P D vwCl (wX9_mostMeet cy aM qM vM_44 vM_st vM_trial_44 vM_met_44 vM_r) H → va_D A (wX9_mostMeet cy aM qM vM_44 vM_st vM_trial_44 vM_met_44 vM_r) → va_S A s.heap H locs → lv_has ls 4 [(0, .ref aM), (1, .int y1_44)] → lp (fX9_mostMeet_B44 vM_r) fuel (y1_44, vM_met_44, vM_trial_44, vM_44) = some (zr, z_vM, z_vM_trial, z_vM_met) → W p l e ({ frames := 5, cells := 0, slots := 0, locals := 114 } : Room) s m ([.ref aM] : List Value).toArray below meth c H locs 0 0 Q (F0 m 44 ls []) := by
    intro fuel
    induction fuel with
    | zero => intro y1_44 vM_met_44 vM_trial_44 vM_44 H locs ls hP hD hS hl hok; exact (lp_0 hok).elim
    | succ fuel ih44 =>
      intro y1_44 vM_met_44 vM_trial_44 vM_44 H locs ls hP hD hS hl hok
      obtain ⟨y44, hok, hL44, hR44⟩ := lp_step hok
      have L61 : ∀ (fuel : Nat) (y2_61 : Int32) (vM_met_61 : Nat → Int32) (vM_trial_61 : Nat → Int32), ∀ (H : Heap) (locs : List Loc) (ls : Array Slot), va_P D vwCl (wX9_mostMeet cy aM qM vM_44 vM_st vM_trial_61 vM_met_61 vM_r) H → va_D A (wX9_mostMeet cy aM qM vM_44 vM_st vM_trial_61 vM_met_61 vM_r) → va_S A s.heap H locs → lv_has ls 4 [(0, .ref aM), (1, .int y1_44), (2, .int y2_61)] → lp (fX9_mostMeet_B61 vM_r y1_44 vM_44) fuel (y2_61, vM_met_61, vM_trial_61) = some y44 → W p l e ({ frames := 5, cells := 0, slots := 0, locals := 114 } : Room) s m ([.ref aM] : List Value).toArray below meth c H locs 0 0 Q (F0 m 61 ls []) := by
        intro fuel
        induction fuel with
        | zero => intro y2_61 vM_met_61 vM_trial_61 H locs ls hP hD hS hl hok; exact (lp_0 hok).elim
        | succ fuel ih61 =>
          intro y2_61 vM_met_61 vM_trial_61 H locs ls hP hD hS hl hok
          obtain ⟨y61, hok, hL61, hR61⟩ := lp_step hok
          have L75 : ∀ (fuel : Nat) (y3_75 : Int32) (vM_met_75 : Nat → Int32), ∀ (H : Heap) (locs : List Loc) (ls : Array Slot), va_P D vwCl (wX9_mostMeet cy aM qM vM_44 vM_st vM_trial_61 vM_met_75 vM_r) H → va_D A (wX9_mostMeet cy aM qM vM_44 vM_st vM_trial_61 vM_met_75 vM_r) → va_S A s.heap H locs → lv_has ls 4 [(0, .ref aM), (1, .int y1_44), (2, .int y2_61), (3, .int y3_75)] → lp (fX9_mostMeet_B75 vM_r vM_44 y2_61 vM_trial_61) fuel (y3_75, vM_met_75) = some y61 → W p l e ({ frames := 5, cells := 0, slots := 0, locals := 114 } : Room) s m ([.ref aM] : List Value).toArray below meth c H locs 0 0 Q (F0 m 75 ls []) := by
            intro fuel
            induction fuel with
            | zero => intro y3_75 vM_met_75 H locs ls hP hD hS hl hok; exact (lp_0 hok).elim
            | succ fuel ih75 =>
              intro y3_75 vM_met_75 H locs ls hP hD hS hl hok
              obtain ⟨y75, hok, hL75, hR75⟩ := lp_step hok
              have J121 : ∀ (t0_121 : Int32), ∀ (H : Heap) (locs : List Loc) (ls : Array Slot), va_P D vwCl (wX9_mostMeet cy aM qM vM_44 vM_st vM_trial_61 vM_met_75 vM_r) H → va_D A (wX9_mostMeet cy aM qM vM_44 vM_st vM_trial_61 vM_met_75 vM_r) → va_S A s.heap H locs → lv_has ls 4 [(0, .ref aM), (1, .int y1_44), (2, .int y2_61), (3, .int y3_75)] → fX9_mostMeet_J121 y2_61 y3_75 vM_met_75 t0_121 = some y75 → W p l e ({ frames := 5, cells := 0, slots := 0, locals := 114 } : Room) s m ([.ref aM] : List Value).toArray below meth c H locs 0 0 Q (F0 m 121 ls [.int t0_121, .int (vM_met_75 (((7 : Int32) * y2_61) + y3_75).toNatClampNeg), .int (((7 : Int32) * y2_61) + y3_75), .ref (qM 23)]) := by
                intro t0_121 H locs ls hP hD hS hl hok
                unfold fX9_mostMeet_J121 at hok
                refine lv_iadd hx hb dX9_mostMeet_121 ?_
                obtain ⟨g122, hok⟩ := gd_some hok
                refine va_iast hx hb hK hP hD hS 3 0 rfl rfl (okI_in g122) dX9_mostMeet_122 (fun H locs hP hD hS => ?_)
                have hP : va_P D vwCl (wX9_mostMeet cy aM qM vM_44 vM_st vM_trial_61 (upd vM_met_75 (((7 : Int32) * y2_61) + y3_75).toNatClampNeg ((vM_met_75 (((7 : Int32) * y2_61) + y3_75).toNatClampNeg) + t0_121)) vM_r) H := hP
                have hD : va_D A (wX9_mostMeet cy aM qM vM_44 vM_st vM_trial_61 (upd vM_met_75 (((7 : Int32) * y2_61) + y3_75).toNatClampNeg ((vM_met_75 (((7 : Int32) * y2_61) + y3_75).toNatClampNeg) + t0_121)) vM_r) := hD
                refine lv_iinc (v := (y3_75 + 1)) (lv' := [(3, .int (y3_75 + 1)), (0, .ref aM), (1, .int y1_44), (2, .int y2_61)]) hx hb dX9_mostMeet_123 hl (k := 3) rfl (by first | rfl | decide) (by decide) rfl (fun ls hl => ?_)
                refine lv_goto (tgt := 75) hx hb dX9_mostMeet_126 (by decide) ?_
                exact ih75 (y3_75 + 1) (upd vM_met_75 (((7 : Int32) * y2_61) + y3_75).toNatClampNeg ((vM_met_75 (((7 : Int32) * y2_61) + y3_75).toNatClampNeg) + t0_121)) H locs ls hP hD hS (lv_sub hl [1, 2, 3, 0] rfl) (hR75 _ (Option.some.inj hok).symm)
              unfold fX9_mostMeet_B75 at hok
              try dsimp only at hok
              refine lv_iload_n hx hb dX9_mostMeet_75 rfl (lv_at hl 3 rfl) ?_
              refine lv_aload_n hx hb dX9_mostMeet_76 rfl (lv_at hl 0 rfl) ?_
              refine va_get (D := D) (ci := 8) (v := .ref (qM 15)) (C := RX9) (T := TX9) (N := 29) hx hb ht0 niX9 hown hK hP 0 rfl rfl 15 (by decide) (ht0 _ wd854) (fun _ h9 => h9) rfl dX9_mostMeet_77 ?_
              refine lv_iconst (v := 3) hx hb dX9_mostMeet_80 (by decide) ?_
              obtain ⟨g81, hok⟩ := gd_some hok
              refine va_iald hx hb hK hP 4 0 rfl rfl (okI_in g81) dX9_mostMeet_81 ?_
              refine lv_icmp_ge (tgt := 129) hx hb dX9_mostMeet_82 (by decide) (fun c82 => ?_) (fun c82 => ?_)
              · have hok := k_pos c82 hok
                obtain ⟨e75, hok, he75⟩ := ex_some hok
                have hok := hok.trans (congrArg some (hL75 _ he75))
                refine lv_iinc (v := (y2_61 + 1)) (lv' := [(2, .int (y2_61 + 1)), (0, .ref aM), (1, .int y1_44), (3, .int y3_75)]) hx hb dX9_mostMeet_129 hl (k := 2) rfl (by first | rfl | decide) (by decide) rfl (fun ls hl => ?_)
                refine lv_goto (tgt := 61) hx hb dX9_mostMeet_132 (by decide) ?_
                exact ih61 (y2_61 + 1) vM_met_75 vM_trial_61 H locs ls hP hD hS (lv_sub hl [1, 2, 0] rfl) (hR61 _ (Option.some.inj hok).symm)
              · have hok := k_neg c82 hok
                refine lv_aload_n hx hb dX9_mostMeet_85 rfl (lv_at hl 0 rfl) ?_
                refine va_get (D := D) (ci := 8) (v := .ref (qM 23)) (C := RX9) (T := TX9) (N := 29) hx hb ht0 niX9 hown hK hP 0 rfl rfl 23 (by decide) (ht0 _ wd956) (fun _ h9 => h9) rfl dX9_mostMeet_86 ?_
                refine lv_bipush (v := 7) hx hb dX9_mostMeet_89 (by decide) ?_
                refine lv_iload_n hx hb dX9_mostMeet_91 rfl (lv_at hl 2 rfl) ?_
                refine lv_imul hx hb dX9_mostMeet_92 ?_
                refine lv_iload_n hx hb dX9_mostMeet_93 rfl (lv_at hl 3 rfl) ?_
                refine lv_iadd hx hb dX9_mostMeet_94 ?_
                refine lv_dup2_11 hx hb dX9_mostMeet_95 rfl rfl ?_
                obtain ⟨g96, hok⟩ := gd_some hok
                refine va_iald hx hb hK hP 3 0 rfl rfl (okI_in g96) dX9_mostMeet_96 ?_
                refine lv_aload_n hx hb dX9_mostMeet_97 rfl (lv_at hl 0 rfl) ?_
                refine lv_aload_n hx hb dX9_mostMeet_98 rfl (lv_at hl 0 rfl) ?_
                refine va_get (D := D) (ci := 8) (v := .ref (qM 22)) (C := RX9) (T := TX9) (N := 29) hx hb ht0 niX9 hown hK hP 0 rfl rfl 22 (by decide) (ht0 _ wd921) (fun _ h9 => h9) rfl dX9_mostMeet_99 ?_
                refine lv_iload_n hx hb dX9_mostMeet_102 rfl (lv_at hl 2 rfl) ?_
                obtain ⟨g103, hok⟩ := gd_some hok
                refine va_iald hx hb hK hP 2 0 rfl rfl (okI_in g103) dX9_mostMeet_103 ?_
                refine lv_aload_n hx hb dX9_mostMeet_104 rfl (lv_at hl 0 rfl) ?_
                refine va_get (D := D) (ci := 8) (v := .ref (qM 22)) (C := RX9) (T := TX9) (N := 29) hx hb ht0 niX9 hown hK hP 0 rfl rfl 22 (by decide) (ht0 _ wd921) (fun _ h9 => h9) rfl dX9_mostMeet_105 ?_
                refine lv_iload_n hx hb dX9_mostMeet_108 rfl (lv_at hl 3 rfl) ?_
                obtain ⟨g109, hok⟩ := gd_some hok
                refine va_iald hx hb hK hP 2 0 rfl rfl (okI_in g109) dX9_mostMeet_109 ?_
                obtain ⟨r110, hc110, hok⟩ := k_bind hok
                refine kCi (wc := (wX9_areDoored cy aM qM vM_44 vM_r)) (wc2 := (wX9_areDoored cy aM qM vM_44 vM_r)) (wr := [(qM 17, rI cy 9 vM_st), (qM 22, rI cy 9 vM_trial_61), (qM 23, rI cy 49 vM_met_75)]) (ws2 := (wX9_mostMeet cy aM qM vM_44 vM_st vM_trial_61 vM_met_75 vM_r)) (kRunV (As := [.int (vM_trial_61 y2_61.toNatClampNeg), .int (vM_trial_61 y3_75.toNatClampNeg)]) (rest := [.int (vM_met_75 (((7 : Int32) * y2_61) + y3_75).toNatClampNeg), .int (((7 : Int32) * y2_61) + y3_75), .ref (qM 23)]) ⟨hx, hb, hml, hown, ht0⟩ (kX9_areDoored l D cy _ aM qM vM_44 vM_r (vM_trial_61 y2_61.toNatClampNeg) (vM_trial_61 y3_75.toNatClampNeg) r110 hc110 _ rfl) (cwV 2 ht0 (gV wd933 wd934 wd935 wd744 wd936) rfl rfl rfl (by decide +kernel) ⟨Nat.le_of_ble_eq_true rfl, Nat.le_of_ble_eq_true rfl⟩) hK hN hP hD [0, 4] rfl (by decide) 0 8 rfl rfl rfl hl.1 rfl (Nat.le_of_ble_eq_true rfl) dX9_mostMeet_110 ⟨Nat.zero_le _, Nat.zero_le _⟩) hP hD hS hA [0, 4] [1, 2, 3] rfl rfl (by decide) (by decide) [3, 0, 1, 2, 4] (by decide) rfl rfl (fun H locs hP hD hS => ?_)
                refine lv_if_eq (tgt := 120) hx hb dX9_mostMeet_113 (by decide) (fun c113 => ?_) (fun c113 => ?_)
                · have hok := k_pos c113 hok
                  refine lv_iconst (v := 0) hx hb dX9_mostMeet_120 (by decide) ?_
                  exact J121 (0 : Int32) H locs ls hP hD hS (lv_sub hl [0, 1, 2, 3] rfl) hok
                · have hok := k_neg c113 hok
                  refine lv_iconst (v := 1) hx hb dX9_mostMeet_116 (by decide) ?_
                  refine lv_goto (tgt := 121) hx hb dX9_mostMeet_117 (by decide) ?_
                  exact J121 (1 : Int32) H locs ls hP hD hS (lv_sub hl [0, 1, 2, 3] rfl) hok
          unfold fX9_mostMeet_B61 at hok
          try dsimp only at hok
          refine lv_iload_n hx hb dX9_mostMeet_61 rfl (lv_at hl 2 rfl) ?_
          refine lv_aload_n hx hb dX9_mostMeet_62 rfl (lv_at hl 0 rfl) ?_
          refine va_get (D := D) (ci := 8) (v := .ref (qM 15)) (C := RX9) (T := TX9) (N := 29) hx hb ht0 niX9 hown hK hP 0 rfl rfl 15 (by decide) (ht0 _ wd854) (fun _ h9 => h9) rfl dX9_mostMeet_63 ?_
          refine lv_iconst (v := 3) hx hb dX9_mostMeet_66 (by decide) ?_
          obtain ⟨g67, hok⟩ := gd_some hok
          refine va_iald hx hb hK hP 4 0 rfl rfl (okI_in g67) dX9_mostMeet_67 ?_
          refine lv_icmp_ge (tgt := 135) hx hb dX9_mostMeet_68 (by decide) (fun c68 => ?_) (fun c68 => ?_)
          · have hok := k_pos c68 hok
            obtain ⟨e61, hok, he61⟩ := ex_some hok
            have hok := hok.trans (congrArg some (hL61 _ he61))
            refine lv_iinc (v := (y1_44 + 1)) (lv' := [(1, .int (y1_44 + 1)), (0, .ref aM), (2, .int y2_61)]) hx hb dX9_mostMeet_135 hl (k := 1) rfl (by first | rfl | decide) (by decide) rfl (fun ls hl => ?_)
            refine lv_goto (tgt := 44) hx hb dX9_mostMeet_138 (by decide) ?_
            exact ih44 (y1_44 + 1) vM_met_61 vM_trial_61 vM_44 H locs ls hP hD hS (lv_sub hl [1, 0] rfl) (hR44 _ (Option.some.inj hok).symm)
          · have hok := k_neg c68 hok
            refine lv_iload_n hx hb dX9_mostMeet_71 rfl (lv_at hl 2 rfl) ?_
            refine lv_iconst (v := 1) hx hb dX9_mostMeet_72 (by decide) ?_
            refine lv_iadd hx hb dX9_mostMeet_73 ?_
            refine lv_istore_n (lv' := [(3, .int (y2_61 + (1 : Int32))), (0, .ref aM), (1, .int y1_44), (2, .int y2_61)]) hx hb dX9_mostMeet_74 rfl hl (by decide) rfl (fun ls hl => ?_)
            exact L75 5000 (y2_61 + (1 : Int32)) vM_met_61 H locs ls hP hD hS (lv_sub hl [1, 2, 3, 0] rfl) hok
      unfold fX9_mostMeet_B44 at hok
      try dsimp only at hok
      refine lv_iload_n hx hb dX9_mostMeet_44 rfl (lv_at hl 1 rfl) ?_
      refine lv_bipush (v := 60) hx hb dX9_mostMeet_45 (by decide) ?_
      refine lv_icmp_ge (tgt := 141) hx hb dX9_mostMeet_47 (by decide) (fun c47 => ?_) (fun c47 => ?_)
      · have hok := k_pos c47 hok
        obtain ⟨e44, hok, he44⟩ := ex_some hok
        have hok := hok.trans (congrArg some (hL44 _ he44))
        refine lv_bipush (v := -2) hx hb dX9_mostMeet_141 (by decide) ?_
        refine lv_istore_n (lv' := [(1, .int (-2)), (0, .ref aM)]) hx hb dX9_mostMeet_143 rfl hl (by decide) rfl (fun ls hl => ?_)
        refine lv_iconst (v := 0) hx hb dX9_mostMeet_144 (by decide) ?_
        refine lv_istore_n (lv' := [(2, .int 0), (1, .int (-2)), (0, .ref aM)]) hx hb dX9_mostMeet_145 rfl hl (by decide) rfl (fun ls hl => ?_)
        refine lv_iconst (v := 0) hx hb dX9_mostMeet_146 (by decide) ?_
        refine lv_istore_n (lv' := [(3, .int 0), (2, .int 0), (1, .int (-2)), (0, .ref aM)]) hx hb dX9_mostMeet_147 rfl hl (by decide) rfl (fun ls hl => ?_)
        exact L148 5000 (-2 : Int32) (0 : Int32) (0 : Int32) vM_met_44 vM_trial_44 vM_44 H locs ls hP hD hS (lv_sub hl [3, 2, 1, 0] rfl) hok
      · have hok := k_neg c47 hok
        refine lv_aload_n hx hb dX9_mostMeet_50 rfl (lv_at hl 0 rfl) ?_
        refine lv_aload_n hx hb dX9_mostMeet_51 rfl (lv_at hl 0 rfl) ?_
        refine va_get (D := D) (ci := 8) (v := .ref (qM 22)) (C := RX9) (T := TX9) (N := 29) hx hb ht0 niX9 hown hK hP 0 rfl rfl 22 (by decide) (ht0 _ wd921) (fun _ h9 => h9) rfl dX9_mostMeet_52 ?_
        obtain ⟨⟨r55, p1_55⟩, hc55, hok⟩ := k_bind hok
        try dsimp only at hok
        refine kCi (wc := (wX9_nightOf cy aM (qM 22) qM vM_44 vM_r 9 vM_trial_44)) (wc2 := (wX9_nightOf cy aM (qM 22) qM vM_44 vM_r 9 p1_55)) (wr := [(qM 17, rI cy 9 vM_st), (qM 23, rI cy 49 vM_met_44)]) (ws2 := (wX9_mostMeet cy aM qM vM_44 vM_st p1_55 vM_met_44 vM_r)) (kRunV (As := [.ref (qM 22)]) (rest := []) ⟨hx, hb, hml, hown, ht0⟩ (kX9_nightOf l D cy _ aM (qM 22) qM vM_44 vM_r 9 vM_trial_44 r55 p1_55 hc55 _ rfl) (cwV 1 ht0 (gV wd940 wd941 wd942 wd744 wd943) rfl rfl rfl (by decide +kernel) ⟨Nat.le_of_ble_eq_true rfl, Nat.le_of_ble_eq_true rfl⟩) hK hN hP hD [0, 4, 2] rfl (by decide) 0 8 rfl rfl rfl hl.1 rfl (Nat.le_of_ble_eq_true rfl) dX9_mostMeet_55 ⟨Nat.zero_le _, Nat.zero_le _⟩) hP hD hS hA [0, 4, 2] [1, 3] rfl rfl (by decide) (by decide) [2, 0, 4, 1, 3] (by decide) rfl rfl (fun H locs hP hD hS => ?_)
        refine lv_pop hx hb dX9_mostMeet_58 rfl ?_
        refine lv_iconst (v := 0) hx hb dX9_mostMeet_59 (by decide) ?_
        refine lv_istore_n (lv' := [(2, .int 0), (0, .ref aM), (1, .int y1_44)]) hx hb dX9_mostMeet_60 rfl hl (by decide) rfl (fun ls hl => ?_)
        exact L61 5000 (0 : Int32) vM_met_44 p1_55 H locs ls hP hD hS (lv_sub hl [1, 2, 0] rfl) hok
  have L19 : ∀ (fuel : Nat) (y1_19 : Int32) (vM_met_19 : Nat → Int32) (vM_19 : Nat → Int32), ∀ (H : Heap) (locs : List Loc) (ls : Array Slot), va_P D vwCl (wX9_mostMeet cy aM qM vM_19 vM_st vM_trial vM_met_19 vM_r) H → va_D A (wX9_mostMeet cy aM qM vM_19 vM_st vM_trial vM_met_19 vM_r) → va_S A s.heap H locs → lv_has ls 4 [(0, .ref aM), (1, .int y1_19)] → lp (fX9_mostMeet_B19 vM_st vM_trial vM_r) fuel (y1_19, vM_met_19, vM_19) = some (zr, z_vM, z_vM_trial, z_vM_met) → W p l e ({ frames := 5, cells := 0, slots := 0, locals := 114 } : Room) s m ([.ref aM] : List Value).toArray below meth c H locs 0 0 Q (F0 m 19 ls []) := by
    intro fuel
    induction fuel with
    | zero => intro y1_19 vM_met_19 vM_19 H locs ls hP hD hS hl hok; exact (lp_0 hok).elim
    | succ fuel ih19 =>
      intro y1_19 vM_met_19 vM_19 H locs ls hP hD hS hl hok
      obtain ⟨y19, hok, hL19, hR19⟩ := lp_step hok
      unfold fX9_mostMeet_B19 at hok
      try dsimp only at hok
      refine lv_iload_n hx hb dX9_mostMeet_19 rfl (lv_at hl 1 rfl) ?_
      refine lv_bipush (v := 49) hx hb dX9_mostMeet_20 (by decide) ?_
      refine lv_icmp_ge (tgt := 38) hx hb dX9_mostMeet_22 (by decide) (fun c22 => ?_) (fun c22 => ?_)
      · have hok := k_pos c22 hok
        obtain ⟨e19, hok, he19⟩ := ex_some hok
        have hok := hok.trans (congrArg some (hL19 _ he19))
        refine lv_aload_n hx hb dX9_mostMeet_38 rfl (lv_at hl 0 rfl) ?_
        obtain ⟨vM_trial_39, hc39, hok⟩ := k_bind hok
        refine kCv (wc := (wX9_begin cy aM qM vM_19 vM_st vM_trial)) (wc2 := (wX9_begin cy aM qM vM_19 vM_st vM_trial_39)) (wr := [(qM 23, rI cy 49 vM_met_19), (qM 15, rI cy 224 vM_r)]) (ws2 := (wX9_mostMeet cy aM qM vM_19 vM_st vM_trial_39 vM_met_19 vM_r)) (kRunV (As := []) (rest := []) ⟨hx, hb, hml, hown, ht0⟩ (kX9_begin l D cy _ aM qM vM_19 vM_st vM_trial vM_trial_39 hc39 _ rfl) (cwV 0 ht0 (gV wd948 wd949 wd950 wd744 wd951) rfl rfl rfl (by decide +kernel) ⟨Nat.le_of_ble_eq_true rfl, Nat.le_of_ble_eq_true rfl⟩) hK hN hP hD [0, 1, 2] rfl (by decide) 0 8 rfl rfl rfl hl.1 rfl (Nat.le_of_ble_eq_true rfl) dX9_mostMeet_39 ⟨Nat.zero_le _, Nat.zero_le _⟩) hP hD hS hA [0, 1, 2] [3, 4] rfl rfl (by decide) (by decide) [2, 3, 4, 0, 1] (by decide) rfl rfl (fun H locs hP hD hS => ?_)
        refine lv_iconst (v := 0) hx hb dX9_mostMeet_42 (by decide) ?_
        refine lv_istore_n (lv' := [(1, .int 0), (0, .ref aM)]) hx hb dX9_mostMeet_43 rfl hl (by decide) rfl (fun ls hl => ?_)
        exact L44 5000 (0 : Int32) vM_met_19 vM_trial_39 vM_19 H locs ls hP hD hS (lv_sub hl [1, 0] rfl) hok
      · have hok := k_neg c22 hok
        refine lv_aload_n hx hb dX9_mostMeet_25 rfl (lv_at hl 0 rfl) ?_
        refine va_get (D := D) (ci := 8) (v := .ref (qM 23)) (C := RX9) (T := TX9) (N := 29) hx hb ht0 niX9 hown hK hP 0 rfl rfl 23 (by decide) (ht0 _ wd956) (fun _ h9 => h9) rfl dX9_mostMeet_26 ?_
        refine lv_iload_n hx hb dX9_mostMeet_29 rfl (lv_at hl 1 rfl) ?_
        refine lv_iconst (v := 0) hx hb dX9_mostMeet_30 (by decide) ?_
        obtain ⟨g31, hok⟩ := gd_some hok
        refine va_iast hx hb hK hP hD hS 3 0 rfl rfl (okI_in g31) dX9_mostMeet_31 (fun H locs hP hD hS => ?_)
        have hP : va_P D vwCl (wX9_mostMeet cy aM qM vM_19 vM_st vM_trial (upd vM_met_19 y1_19.toNatClampNeg (0 : Int32)) vM_r) H := hP
        have hD : va_D A (wX9_mostMeet cy aM qM vM_19 vM_st vM_trial (upd vM_met_19 y1_19.toNatClampNeg (0 : Int32)) vM_r) := hD
        refine lv_iinc (v := (y1_19 + 1)) (lv' := [(1, .int (y1_19 + 1)), (0, .ref aM)]) hx hb dX9_mostMeet_32 hl (k := 1) rfl (by first | rfl | decide) (by decide) rfl (fun ls hl => ?_)
        refine lv_goto (tgt := 19) hx hb dX9_mostMeet_35 (by decide) ?_
        exact ih19 (y1_19 + 1) (upd vM_met_19 y1_19.toNatClampNeg (0 : Int32)) vM_19 H locs ls hP hD hS (lv_sub hl [1, 0] rfl) (hR19 _ (Option.some.inj hok).symm)
  unfold fX9_mostMeet at hok
  obtain ⟨H, hH⟩ : ∃ H, H = s.heap := ⟨_, rfl⟩
  obtain ⟨locs, hlc⟩ : ∃ x : List Loc, x = [] := ⟨_, rfl⟩
  have hP : va_P D vwCl (wX9_mostMeet cy aM qM vM vM_st vM_trial vM_met vM_r) H := by rw [hH]; exact hP
  have hS : va_S A s.heap H locs := by rw [hH, hlc]; exact hS
  rw [show W p l e _ s m _ below meth c s.heap [] = W p l e _ s m _ below meth c H locs from by rw [hH, hlc]]
  refine lv_aload_n hx hb dX9_mostMeet_0 rfl (lv_at hl 0 rfl) ?_
  obtain ⟨vM_1, hc1, hok⟩ := k_bind hok
  refine kCv (wc := (wX9_good cy aM qM vM)) (wc2 := (wX9_good cy aM qM vM_1)) (wr := [(qM 17, rI cy 9 vM_st), (qM 22, rI cy 9 vM_trial), (qM 23, rI cy 49 vM_met), (qM 15, rI cy 224 vM_r)]) (ws2 := (wX9_mostMeet cy aM qM vM_1 vM_st vM_trial vM_met vM_r)) (kRunV (As := []) (rest := []) ⟨hx, hb, hml, hown, ht0⟩ (kX9_good l D cy _ aM qM vM vM_1 hc1 _ rfl) (cwV 0 ht0 (gV wd870 wd871 wd872 wd744 wd873) rfl rfl rfl (by decide +kernel) ⟨Nat.le_of_ble_eq_true rfl, Nat.le_of_ble_eq_true rfl⟩) hK hN hP hD [0] rfl (by decide) 0 8 rfl rfl rfl hl.1 rfl (Nat.le_of_ble_eq_true rfl) dX9_mostMeet_1 ⟨Nat.zero_le _, Nat.zero_le _⟩) hP hD hS hA [0] [1, 2, 3, 4] rfl rfl (by decide) (by decide) [4, 0, 1, 2, 3] (by decide) rfl rfl (fun H locs hP hD hS => ?_)
  refine lv_aload_n hx hb dX9_mostMeet_4 rfl (lv_at hl 0 rfl) ?_
  refine va_get (D := D) (ci := 8) (v := .int (vM_1 14)) (C := RX9) (T := TX9) (N := 29) hx hb ht0 niX9 hown hK hP 0 rfl rfl 14 (by decide) (ht0 _ wd855) (fun _ h9 => h9) rfl dX9_mostMeet_5 ?_
  refine lv_if_ne (tgt := 17) hx hb dX9_mostMeet_8 (by decide) (fun c8 => ?_) (fun c8 => ?_)
  · have hok := k_neg c8 hok
    refine lv_iconst (v := 0) hx hb dX9_mostMeet_17 (by decide) ?_
    refine lv_istore_n (lv' := [(1, .int 0), (0, .ref aM)]) hx hb dX9_mostMeet_18 rfl hl (by decide) rfl (fun ls hl => ?_)
    exact L19 5000 (0 : Int32) vM_met vM_1 H locs ls hP hD hS (lv_sub hl [1, 0] rfl) hok
  · have hok := k_pos c8 hok
    refine lv_aload_n hx hb dX9_mostMeet_11 rfl (lv_at hl 0 rfl) ?_
    refine lv_iconst (v := 1) hx hb dX9_mostMeet_12 (by decide) ?_
    obtain ⟨⟨r13, vM_13⟩, hc13, hok⟩ := k_bind hok
    try dsimp only at hok
    refine kCi (wc := (wX9_no cy aM qM vM_1)) (wc2 := (wX9_no cy aM qM vM_13)) (wr := [(qM 17, rI cy 9 vM_st), (qM 22, rI cy 9 vM_trial), (qM 23, rI cy 49 vM_met), (qM 15, rI cy 224 vM_r)]) (ws2 := (wX9_mostMeet cy aM qM vM_13 vM_st vM_trial vM_met vM_r)) (kRunV (As := [.int 1]) (rest := []) ⟨hx, hb, hml, hown, ht0⟩ (kX9_no l D cy _ aM qM vM_1 (1 : Int32) r13 vM_13 hc13 _ rfl) (cwV 1 ht0 (gV wd862 wd863 wd864 wd744 wd865) rfl rfl rfl (by decide +kernel) ⟨Nat.le_of_ble_eq_true rfl, Nat.le_of_ble_eq_true rfl⟩) hK hN hP hD [0] rfl (by decide) 0 8 rfl rfl rfl hl.1 rfl (Nat.le_of_ble_eq_true rfl) dX9_mostMeet_13 ⟨Nat.zero_le _, Nat.zero_le _⟩) hP hD hS hA [0] [1, 2, 3, 4] rfl rfl (by decide) (by decide) [4, 0, 1, 2, 3] (by decide) rfl rfl (fun H locs hP hD hS => ?_)
    cases hok
    subst hQe; exact W.iret hx hb hr (fun t ht hW => ⟨⟨_, (), rfl, rfl, by rw [ht]; exact hP, va_K.moved hW.alike hK, hD⟩, hS.F ht⟩) hS.2.2 dX9_mostMeet_16
def wsX9_toWiden : List Cond := .code yX9_toWiden cX9_toWiden 6 (some .int) :: W0
abbrev wX9_toWiden (cy : Nat → ClassId) (aM : Nat) (qM : Nat → Nat) (vM : Nat → Int32) (vM_st : Nat → Int32) (vM_trial : Nat → Int32) (vM_r : Nat → Int32) : va_W := [(aM, oX9 vM qM), (qM 17, rI cy 9 vM_st), (qM 22, rI cy 9 vM_trial), (qM 15, rI cy 224 vM_r)]
set_option maxHeartbeats 4000000 in
set_option maxRecDepth 100000 in
theorem kX9_toWiden (l : Launch) (D : va_G) (cy : Nat → ClassId) (sz : Nat) (aM : Nat) (qM : Nat → Nat) (vM : Nat → Int32) (vM_st : Nat → Int32) (vM_trial : Nat → Int32) (vM_r : Nat → Int32) (zr : Int32) (z_vM : Nat → Int32) (z_vM_trial : Nat → Int32) (z_vM_r : Nat → Int32) (hok : fX9_toWiden vM vM_st vM_trial vM_r = some (zr, z_vM, z_vM_trial, z_vM_r)) (A : Nat → Prop) (hAe : va_A (wX9_toWiden cy aM qM vM vM_st vM_trial vM_r) sz = A) : Met l yX9_toWiden wsX9_toWiden ({ frames := 6, cells := 0, slots := 0, locals := 138 } : Room) (kPre D cy [.ref aM] (wX9_toWiden cy aM qM vM vM_st vM_trial vM_r) sz) (kQi D cy zr A (wX9_toWiden cy aM qM z_vM vM_st z_vM_trial z_vM_r)) 0 0 A := by
  refine Met.ofW (cc := cX9_toWiden) (maxL := 6) (ret := (some .int)) (by decide) rfl ?_
  intro p e s m args below meth c s₁ B hml hv
  obtain ⟨rfl, hsz, hP, hK, hD0, hN⟩ := hv
  have hx := B.exec
  have hb := B.bytes
  have hr := B.returns
  have ht0 : ∀ w ∈ W0, w.before _ s = true := fun w h => atoms_spec (ws := wsX9_toWiden) B.pre w (List.mem_cons_of_mem _ h)
  have hown : s.vm.findClass RX9 = some m.cls := findClass_of_methodNamed B.named
  have hlocks := B.notSynchronized
  subst hsz
  have hD : va_D A (wX9_toWiden cy aM qM vM vM_st vM_trial vM_r) := by rw [← hAe]; exact hD0.self
  have hA : ∀ q : Nat, s.heap.size ≤ q → A q := fun q h => by rw [← hAe]; exact Or.inr h
  have hS : va_S A s.heap s.heap [] := va_S.rf
  have hl := lv_entry ([.ref aM]) (n := 6) (Nat.le_of_ble_eq_true rfl)
  rw [lg_entry_eq]
  generalize (lg_sl ([.ref aM]) ++ List.replicate (6 - (lg_sl ([.ref aM])).length) Slot.unset).toArray = ls at hl ⊢
  have hl : lv_has ls 6 [(0, .ref aM)] := hl
  generalize hQe : MQ below (kQi D cy zr A (wX9_toWiden cy aM qM z_vM vM_st z_vM_trial z_vM_r)) ([.ref aM] : List Value).toArray s 0 0 A = Q
  have L30 : ∀ (fuel : Nat) (y1_30 : Int32) (y2_30 : Int32) (y3_30 : Int32) (vM_r_30 : Nat → Int32) (vM_trial_30 : Nat → Int32) (vM_30 : Nat → Int32), ∀ (H : Heap) (locs : List Loc) (ls : Array Slot), va_P D vwCl (wX9_toWiden cy aM qM vM_30 vM_st vM_trial_30 vM_r_30) H → va_D A (wX9_toWiden cy aM qM vM_30 vM_st vM_trial_30 vM_r_30) → va_S A s.heap H locs → lv_has ls 6 [(0, .ref aM), (1, .int y1_30), (2, .int y2_30), (3, .int y3_30)] → lp (fX9_toWiden_B30 vM_st) fuel (y1_30, y2_30, y3_30, vM_r_30, vM_trial_30, vM_30) = some (zr, z_vM, z_vM_trial, z_vM_r) → W p l e ({ frames := 6, cells := 0, slots := 0, locals := 138 } : Room) s m ([.ref aM] : List Value).toArray below meth c H locs 0 0 Q (F0 m 30 ls []) := by
    intro fuel
    induction fuel with
    | zero => intro y1_30 y2_30 y3_30 vM_r_30 vM_trial_30 vM_30 H locs ls hP hD hS hl hok; exact (lp_0 hok).elim
    | succ fuel ih30 =>
      intro y1_30 y2_30 y3_30 vM_r_30 vM_trial_30 vM_30 H locs ls hP hD hS hl hok
      obtain ⟨y30, hok, hL30, hR30⟩ := lp_step hok
      have J102 : ∀ (y1_102 : Int32) (y2_102 : Int32) (vM_r_102 : Nat → Int32) (vM_trial_102 : Nat → Int32), ∀ (H : Heap) (locs : List Loc) (ls : Array Slot), va_P D vwCl (wX9_toWiden cy aM qM vM_30 vM_st vM_trial_102 vM_r_102) H → va_D A (wX9_toWiden cy aM qM vM_30 vM_st vM_trial_102 vM_r_102) → va_S A s.heap H locs → lv_has ls 6 [(0, .ref aM), (1, .int y1_102), (2, .int y2_102), (3, .int y3_30)] → fX9_toWiden_J102 y3_30 vM_30 y1_102 y2_102 vM_r_102 vM_trial_102 = some y30 → W p l e ({ frames := 6, cells := 0, slots := 0, locals := 138 } : Room) s m ([.ref aM] : List Value).toArray below meth c H locs 0 0 Q (F0 m 102 ls []) := by
        intro y1_102 y2_102 vM_r_102 vM_trial_102 H locs ls hP hD hS hl hok
        unfold fX9_toWiden_J102 at hok
        refine lv_iinc (v := (y3_30 + 1)) (lv' := [(3, .int (y3_30 + 1)), (0, .ref aM), (1, .int y1_102), (2, .int y2_102)]) hx hb dX9_toWiden_102 hl (k := 3) rfl (by first | rfl | decide) (by decide) rfl (fun ls hl => ?_)
        refine lv_goto (tgt := 30) hx hb dX9_toWiden_105 (by decide) ?_
        exact ih30 y1_102 y2_102 (y3_30 + 1) vM_r_102 vM_trial_102 vM_30 H locs ls hP hD hS (lv_sub hl [1, 2, 3, 0] rfl) (hR30 _ (Option.some.inj hok).symm)
      unfold fX9_toWiden_B30 at hok
      try dsimp only at hok
      refine lv_iload_n hx hb dX9_toWiden_30 rfl (lv_at hl 3 rfl) ?_
      refine lv_bipush (v := 36) hx hb dX9_toWiden_31 (by decide) ?_
      refine lv_icmp_ge (tgt := 108) hx hb dX9_toWiden_33 (by decide) (fun c33 => ?_) (fun c33 => ?_)
      · have hok := k_pos c33 hok
        obtain ⟨e30, hok, he30⟩ := ex_some hok
        have hok := hok.trans (congrArg some (hL30 _ he30))
        refine lv_iload_n hx hb dX9_toWiden_108 rfl (lv_at hl 1 rfl) ?_
        cases hok
        subst hQe; exact W.iret hx hb hr (fun t ht hW => ⟨⟨_, (), rfl, rfl, by rw [ht]; exact hP, va_K.moved hW.alike hK, hD⟩, hS.F ht⟩) hS.2.2 dX9_toWiden_109
      · have hok := k_neg c33 hok
        refine lv_aload_n hx hb dX9_toWiden_36 rfl (lv_at hl 0 rfl) ?_
        refine va_get (D := D) (ci := 8) (v := .ref (qM 15)) (C := RX9) (T := TX9) (N := 29) hx hb ht0 niX9 hown hK hP 0 rfl rfl 15 (by decide) (ht0 _ wd854) (fun _ h9 => h9) rfl dX9_toWiden_37 ?_
        refine lv_bipush (v := 16) hx hb dX9_toWiden_40 (by decide) ?_
        refine lv_iload_n hx hb dX9_toWiden_42 rfl (lv_at hl 3 rfl) ?_
        refine lv_iadd hx hb dX9_toWiden_43 ?_
        obtain ⟨g44, hok⟩ := gd_some hok
        refine va_iald hx hb hK hP 3 0 rfl rfl (okI_in g44) dX9_toWiden_44 ?_
        refine lv_istore (lv' := [(4, .int (vM_r_30 ((16 : Int32) + y3_30).toNatClampNeg)), (0, .ref aM), (1, .int y1_30), (2, .int y2_30), (3, .int y3_30)]) hx hb dX9_toWiden_45 hl (by decide) rfl (fun ls hl => ?_)
        refine lv_iload hx hb dX9_toWiden_47 (lv_at hl 0 rfl) ?_
        refine lv_if_ne (tgt := 55) hx hb dX9_toWiden_49 (by decide) (fun c49 => ?_) (fun c49 => ?_)
        · have hok := k_neg c49 hok
          refine lv_aload_n hx hb dX9_toWiden_55 rfl (lv_at hl 1 rfl) ?_
          refine va_get (D := D) (ci := 8) (v := .ref (qM 15)) (C := RX9) (T := TX9) (N := 29) hx hb ht0 niX9 hown hK hP 0 rfl rfl 15 (by decide) (ht0 _ wd854) (fun _ h9 => h9) rfl dX9_toWiden_56 ?_
          refine lv_bipush (v := 16) hx hb dX9_toWiden_59 (by decide) ?_
          refine lv_iload_n hx hb dX9_toWiden_61 rfl (lv_at hl 4 rfl) ?_
          refine lv_iadd hx hb dX9_toWiden_62 ?_
          refine lv_iconst (v := 0) hx hb dX9_toWiden_63 (by decide) ?_
          obtain ⟨g64, hok⟩ := gd_some hok
          refine va_iast hx hb hK hP hD hS 3 0 rfl rfl (okI_in g64) dX9_toWiden_64 (fun H locs hP hD hS => ?_)
          have hP : va_P D vwCl (wX9_toWiden cy aM qM vM_30 vM_st vM_trial_30 (upd vM_r_30 ((16 : Int32) + y3_30).toNatClampNeg (0 : Int32))) H := hP
          have hD : va_D A (wX9_toWiden cy aM qM vM_30 vM_st vM_trial_30 (upd vM_r_30 ((16 : Int32) + y3_30).toNatClampNeg (0 : Int32))) := hD
          refine lv_aload_n hx hb dX9_toWiden_65 rfl (lv_at hl 1 rfl) ?_
          refine lv_iconst (v := 0) hx hb dX9_toWiden_66 (by decide) ?_
          refine lv_bipush (v := 60) hx hb dX9_toWiden_67 (by decide) ?_
          obtain ⟨⟨r69, vM_trial_69⟩, hc69, hok⟩ := k_bind hok
          try dsimp only at hok
          refine kCi (wc := (wX9_goneBy cy aM qM vM_30 vM_st vM_trial_30 (upd vM_r_30 ((16 : Int32) + y3_30).toNatClampNeg (0 : Int32)))) (wc2 := (wX9_goneBy cy aM qM vM_30 vM_st vM_trial_69 (upd vM_r_30 ((16 : Int32) + y3_30).toNatClampNeg (0 : Int32)))) (wr := []) (ws2 := (wX9_toWiden cy aM qM vM_30 vM_st vM_trial_69 (upd vM_r_30 ((16 : Int32) + y3_30).toNatClampNeg (0 : Int32)))) (kRunV (As := [.int 0, .int 60]) (rest := []) ⟨hx, hb, hml, hown, ht0⟩ (kX9_goneBy l D cy _ aM qM vM_30 vM_st vM_trial_30 (upd vM_r_30 ((16 : Int32) + y3_30).toNatClampNeg (0 : Int32)) (0 : Int32) (60 : Int32) r69 vM_trial_69 hc69 _ rfl) (cwV 2 ht0 (gV wd957 wd958 wd959 wd744 wd960) rfl rfl rfl (by decide +kernel) ⟨Nat.le_of_ble_eq_true rfl, Nat.le_of_ble_eq_true rfl⟩) hK hN hP hD [0, 1, 2, 3] rfl (by decide) 0 8 rfl rfl rfl hl.1 rfl (Nat.le_of_ble_eq_true rfl) dX9_toWiden_69 ⟨Nat.zero_le _, Nat.zero_le _⟩) hP hD hS hA [0, 1, 2, 3] [] rfl rfl (by decide) (by decide) [0, 1, 2, 3] (by decide) rfl rfl (fun H locs hP hD hS => ?_)
          refine lv_istore (lv' := [(5, .int r69), (4, .int (vM_r_30 ((16 : Int32) + y3_30).toNatClampNeg)), (0, .ref aM), (1, .int y1_30), (2, .int y2_30), (3, .int y3_30)]) hx hb dX9_toWiden_72 hl (by decide) rfl (fun ls hl => ?_)
          refine lv_aload_n hx hb dX9_toWiden_74 rfl (lv_at hl 2 rfl) ?_
          refine va_get (D := D) (ci := 8) (v := .ref (qM 15)) (C := RX9) (T := TX9) (N := 29) hx hb ht0 niX9 hown hK hP 0 rfl rfl 15 (by decide) (ht0 _ wd854) (fun _ h9 => h9) rfl dX9_toWiden_75 ?_
          refine lv_bipush (v := 16) hx hb dX9_toWiden_78 (by decide) ?_
          refine lv_iload_n hx hb dX9_toWiden_80 rfl (lv_at hl 5 rfl) ?_
          refine lv_iadd hx hb dX9_toWiden_81 ?_
          refine lv_iload hx hb dX9_toWiden_82 (lv_at hl 1 rfl) ?_
          obtain ⟨g84, hok⟩ := gd_some hok
          refine va_iast hx hb hK hP hD hS 3 0 rfl rfl (okI_in g84) dX9_toWiden_84 (fun H locs hP hD hS => ?_)
          have hP : va_P D vwCl (wX9_toWiden cy aM qM vM_30 vM_st vM_trial_69 (upd (upd vM_r_30 ((16 : Int32) + y3_30).toNatClampNeg (0 : Int32)) ((16 : Int32) + y3_30).toNatClampNeg (vM_r_30 ((16 : Int32) + y3_30).toNatClampNeg))) H := hP
          have hD : va_D A (wX9_toWiden cy aM qM vM_30 vM_st vM_trial_69 (upd (upd vM_r_30 ((16 : Int32) + y3_30).toNatClampNeg (0 : Int32)) ((16 : Int32) + y3_30).toNatClampNeg (vM_r_30 ((16 : Int32) + y3_30).toNatClampNeg))) := hD
          refine lv_iload hx hb dX9_toWiden_85 (lv_at hl 0 rfl) ?_
          refine lv_iload_n hx hb dX9_toWiden_87 rfl (lv_at hl 4 rfl) ?_
          refine lv_icmp_gt (tgt := 94) hx hb dX9_toWiden_88 (by decide) (fun c88 => ?_) (fun c88 => ?_)
          · have hok := k_pos c88 hok
            refine lv_iload_n hx hb dX9_toWiden_94 rfl (lv_at hl 5 rfl) ?_
            obtain ⟨r95, hc95, hok⟩ := k_bind hok
            refine kCi (wc := (wX9_coded cy )) (wc2 := (wX9_coded cy )) (wr := [(aM, oX9 vM_30 qM), (qM 17, rI cy 9 vM_st), (qM 22, rI cy 9 vM_trial_69), (qM 15, rI cy 224 (upd (upd vM_r_30 ((16 : Int32) + y3_30).toNatClampNeg (0 : Int32)) ((16 : Int32) + y3_30).toNatClampNeg (vM_r_30 ((16 : Int32) + y3_30).toNatClampNeg)))]) (ws2 := (wX9_toWiden cy aM qM vM_30 vM_st vM_trial_69 (upd (upd vM_r_30 ((16 : Int32) + y3_30).toNatClampNeg (0 : Int32)) ((16 : Int32) + y3_30).toNatClampNeg (vM_r_30 ((16 : Int32) + y3_30).toNatClampNeg)))) (kRunS (As := [.int y3_30]) (rest := []) ⟨hx, hb, hml, hown, ht0⟩ (kX9_coded l D cy _ y3_30 r95 hc95 _ rfl) (va_cwS 1 ht0 (gS wd937 wd938 wd744 wd939) rfl rfl rfl (by decide +kernel) ⟨Nat.le_of_ble_eq_true rfl, Nat.le_of_ble_eq_true rfl⟩) hK hN hP hD [] rfl (by decide) rfl hl.1 rfl (Nat.le_of_ble_eq_true rfl) dX9_toWiden_95 ⟨Nat.zero_le _, Nat.zero_le _⟩) hP hD hS hA [] [0, 1, 2, 3] rfl rfl (by decide) (by decide) [0, 1, 2, 3] (by decide) rfl rfl (fun H locs hP hD hS => ?_)
            refine lv_istore_n (lv' := [(1, .int r95), (5, .int r69), (4, .int (vM_r_30 ((16 : Int32) + y3_30).toNatClampNeg)), (0, .ref aM), (2, .int y2_30), (3, .int y3_30)]) hx hb dX9_toWiden_98 rfl hl (by decide) rfl (fun ls hl => ?_)
            refine lv_iload hx hb dX9_toWiden_99 (lv_at hl 1 rfl) ?_
            refine lv_istore_n (lv' := [(2, .int r69), (1, .int r95), (5, .int r69), (4, .int (vM_r_30 ((16 : Int32) + y3_30).toNatClampNeg)), (0, .ref aM), (3, .int y3_30)]) hx hb dX9_toWiden_101 rfl hl (by decide) rfl (fun ls hl => ?_)
            exact J102 r95 r69 (upd (upd vM_r_30 ((16 : Int32) + y3_30).toNatClampNeg (0 : Int32)) ((16 : Int32) + y3_30).toNatClampNeg (vM_r_30 ((16 : Int32) + y3_30).toNatClampNeg)) vM_trial_69 H locs ls hP hD hS (lv_sub hl [4, 1, 0, 5] rfl) hok
          · have hok := k_neg c88 hok
            refine lv_goto (tgt := 102) hx hb dX9_toWiden_91 (by decide) ?_
            exact J102 y1_30 y2_30 (upd (upd vM_r_30 ((16 : Int32) + y3_30).toNatClampNeg (0 : Int32)) ((16 : Int32) + y3_30).toNatClampNeg (vM_r_30 ((16 : Int32) + y3_30).toNatClampNeg)) vM_trial_69 H locs ls hP hD hS (lv_sub hl [2, 3, 4, 5] rfl) hok
        · have hok := k_pos c49 hok
          refine lv_goto (tgt := 102) hx hb dX9_toWiden_52 (by decide) ?_
          exact J102 y1_30 y2_30 vM_r_30 vM_trial_30 H locs ls hP hD hS (lv_sub hl [1, 2, 3, 4] rfl) hok
  unfold fX9_toWiden at hok
  obtain ⟨H, hH⟩ : ∃ H, H = s.heap := ⟨_, rfl⟩
  obtain ⟨locs, hlc⟩ : ∃ x : List Loc, x = [] := ⟨_, rfl⟩
  have hP : va_P D vwCl (wX9_toWiden cy aM qM vM vM_st vM_trial vM_r) H := by rw [hH]; exact hP
  have hS : va_S A s.heap H locs := by rw [hH, hlc]; exact hS
  rw [show W p l e _ s m _ below meth c s.heap [] = W p l e _ s m _ below meth c H locs from by rw [hH, hlc]]
  refine lv_aload_n hx hb dX9_toWiden_0 rfl (lv_at hl 0 rfl) ?_
  obtain ⟨vM_1, hc1, hok⟩ := k_bind hok
  refine kCv (wc := (wX9_good cy aM qM vM)) (wc2 := (wX9_good cy aM qM vM_1)) (wr := [(qM 17, rI cy 9 vM_st), (qM 22, rI cy 9 vM_trial), (qM 15, rI cy 224 vM_r)]) (ws2 := (wX9_toWiden cy aM qM vM_1 vM_st vM_trial vM_r)) (kRunV (As := []) (rest := []) ⟨hx, hb, hml, hown, ht0⟩ (kX9_good l D cy _ aM qM vM vM_1 hc1 _ rfl) (cwV 0 ht0 (gV wd870 wd871 wd872 wd744 wd873) rfl rfl rfl (by decide +kernel) ⟨Nat.le_of_ble_eq_true rfl, Nat.le_of_ble_eq_true rfl⟩) hK hN hP hD [0] rfl (by decide) 0 8 rfl rfl rfl hl.1 rfl (Nat.le_of_ble_eq_true rfl) dX9_toWiden_1 ⟨Nat.zero_le _, Nat.zero_le _⟩) hP hD hS hA [0] [1, 2, 3] rfl rfl (by decide) (by decide) [3, 0, 1, 2] (by decide) rfl rfl (fun H locs hP hD hS => ?_)
  refine lv_aload_n hx hb dX9_toWiden_4 rfl (lv_at hl 0 rfl) ?_
  refine va_get (D := D) (ci := 8) (v := .int (vM_1 14)) (C := RX9) (T := TX9) (N := 29) hx hb ht0 niX9 hown hK hP 0 rfl rfl 14 (by decide) (ht0 _ wd855) (fun _ h9 => h9) rfl dX9_toWiden_5 ?_
  refine lv_if_ne (tgt := 17) hx hb dX9_toWiden_8 (by decide) (fun c8 => ?_) (fun c8 => ?_)
  · have hok := k_neg c8 hok
    refine lv_bipush (v := -2) hx hb dX9_toWiden_17 (by decide) ?_
    refine lv_istore_n (lv' := [(1, .int (-2)), (0, .ref aM)]) hx hb dX9_toWiden_19 rfl hl (by decide) rfl (fun ls hl => ?_)
    refine lv_aload_n hx hb dX9_toWiden_20 rfl (lv_at hl 1 rfl) ?_
    refine lv_iconst (v := 0) hx hb dX9_toWiden_21 (by decide) ?_
    refine lv_bipush (v := 60) hx hb dX9_toWiden_22 (by decide) ?_
    obtain ⟨⟨r24, vM_trial_24⟩, hc24, hok⟩ := k_bind hok
    try dsimp only at hok
    refine kCi (wc := (wX9_goneBy cy aM qM vM_1 vM_st vM_trial vM_r)) (wc2 := (wX9_goneBy cy aM qM vM_1 vM_st vM_trial_24 vM_r)) (wr := []) (ws2 := (wX9_toWiden cy aM qM vM_1 vM_st vM_trial_24 vM_r)) (kRunV (As := [.int 0, .int 60]) (rest := []) ⟨hx, hb, hml, hown, ht0⟩ (kX9_goneBy l D cy _ aM qM vM_1 vM_st vM_trial vM_r (0 : Int32) (60 : Int32) r24 vM_trial_24 hc24 _ rfl) (cwV 2 ht0 (gV wd957 wd958 wd959 wd744 wd960) rfl rfl rfl (by decide +kernel) ⟨Nat.le_of_ble_eq_true rfl, Nat.le_of_ble_eq_true rfl⟩) hK hN hP hD [0, 1, 2, 3] rfl (by decide) 0 8 rfl rfl rfl hl.1 rfl (Nat.le_of_ble_eq_true rfl) dX9_toWiden_24 ⟨Nat.zero_le _, Nat.zero_le _⟩) hP hD hS hA [0, 1, 2, 3] [] rfl rfl (by decide) (by decide) [0, 1, 2, 3] (by decide) rfl rfl (fun H locs hP hD hS => ?_)
    refine lv_istore_n (lv' := [(2, .int r24), (1, .int (-2)), (0, .ref aM)]) hx hb dX9_toWiden_27 rfl hl (by decide) rfl (fun ls hl => ?_)
    refine lv_iconst (v := 0) hx hb dX9_toWiden_28 (by decide) ?_
    refine lv_istore_n (lv' := [(3, .int 0), (2, .int r24), (1, .int (-2)), (0, .ref aM)]) hx hb dX9_toWiden_29 rfl hl (by decide) rfl (fun ls hl => ?_)
    exact L30 5000 (-2 : Int32) r24 (0 : Int32) vM_r vM_trial_24 vM_1 H locs ls hP hD hS (lv_sub hl [3, 2, 1, 0] rfl) hok
  · have hok := k_pos c8 hok
    refine lv_aload_n hx hb dX9_toWiden_11 rfl (lv_at hl 0 rfl) ?_
    refine lv_iconst (v := 1) hx hb dX9_toWiden_12 (by decide) ?_
    obtain ⟨⟨r13, vM_13⟩, hc13, hok⟩ := k_bind hok
    try dsimp only at hok
    refine kCi (wc := (wX9_no cy aM qM vM_1)) (wc2 := (wX9_no cy aM qM vM_13)) (wr := [(qM 17, rI cy 9 vM_st), (qM 22, rI cy 9 vM_trial), (qM 15, rI cy 224 vM_r)]) (ws2 := (wX9_toWiden cy aM qM vM_13 vM_st vM_trial vM_r)) (kRunV (As := [.int 1]) (rest := []) ⟨hx, hb, hml, hown, ht0⟩ (kX9_no l D cy _ aM qM vM_1 (1 : Int32) r13 vM_13 hc13 _ rfl) (cwV 1 ht0 (gV wd862 wd863 wd864 wd744 wd865) rfl rfl rfl (by decide +kernel) ⟨Nat.le_of_ble_eq_true rfl, Nat.le_of_ble_eq_true rfl⟩) hK hN hP hD [0] rfl (by decide) 0 8 rfl rfl rfl hl.1 rfl (Nat.le_of_ble_eq_true rfl) dX9_toWiden_13 ⟨Nat.zero_le _, Nat.zero_le _⟩) hP hD hS hA [0] [1, 2, 3] rfl rfl (by decide) (by decide) [3, 0, 1, 2] (by decide) rfl rfl (fun H locs hP hD hS => ?_)
    cases hok
    subst hQe; exact W.iret hx hb hr (fun t ht hW => ⟨⟨_, (), rfl, rfl, by rw [ht]; exact hP, va_K.moved hW.alike hK, hD⟩, hS.F ht⟩) hS.2.2 dX9_toWiden_16
def wsX9_worstHeld : List Cond := .code yX9_worstHeld cX9_worstHeld 7 (some .int) :: W0
abbrev wX9_worstHeld (cy : Nat → ClassId) (aM : Nat) (qM : Nat → Nat) (vM : Nat → Int32) (vM_r : Nat → Int32) (vM_st : Nat → Int32) (vM_trial : Nat → Int32) : va_W := [(aM, oX9 vM qM), (qM 15, rI cy 224 vM_r), (qM 17, rI cy 9 vM_st), (qM 22, rI cy 9 vM_trial)]
set_option maxHeartbeats 4000000 in
set_option maxRecDepth 100000 in
theorem kX9_worstHeld (l : Launch) (D : va_G) (cy : Nat → ClassId) (sz : Nat) (aM : Nat) (qM : Nat → Nat) (vM : Nat → Int32) (vM_r : Nat → Int32) (vM_st : Nat → Int32) (vM_trial : Nat → Int32) (x1 : Int32) (zr : Int32) (z_vM : Nat → Int32) (z_vM_trial : Nat → Int32) (hok : fX9_worstHeld vM vM_r vM_st vM_trial x1 = some (zr, z_vM, z_vM_trial)) (A : Nat → Prop) (hAe : va_A (wX9_worstHeld cy aM qM vM vM_r vM_st vM_trial) sz = A) : Met l yX9_worstHeld wsX9_worstHeld ({ frames := 6, cells := 0, slots := 0, locals := 138 } : Room) (kPre D cy [.ref aM, .int x1] (wX9_worstHeld cy aM qM vM vM_r vM_st vM_trial) sz) (kQi D cy zr A (wX9_worstHeld cy aM qM z_vM vM_r vM_st z_vM_trial)) 0 0 A := by
  refine Met.ofW (cc := cX9_worstHeld) (maxL := 7) (ret := (some .int)) (by decide) rfl ?_
  intro p e s m args below meth c s₁ B hml hv
  obtain ⟨rfl, hsz, hP, hK, hD0, hN⟩ := hv
  have hx := B.exec
  have hb := B.bytes
  have hr := B.returns
  have ht0 : ∀ w ∈ W0, w.before _ s = true := fun w h => atoms_spec (ws := wsX9_worstHeld) B.pre w (List.mem_cons_of_mem _ h)
  have hown : s.vm.findClass RX9 = some m.cls := findClass_of_methodNamed B.named
  have hlocks := B.notSynchronized
  subst hsz
  have hD : va_D A (wX9_worstHeld cy aM qM vM vM_r vM_st vM_trial) := by rw [← hAe]; exact hD0.self
  have hA : ∀ q : Nat, s.heap.size ≤ q → A q := fun q h => by rw [← hAe]; exact Or.inr h
  have hS : va_S A s.heap s.heap [] := va_S.rf
  have hl := lv_entry ([.ref aM, .int x1]) (n := 7) (Nat.le_of_ble_eq_true rfl)
  rw [lg_entry_eq]
  generalize (lg_sl ([.ref aM, .int x1]) ++ List.replicate (7 - (lg_sl ([.ref aM, .int x1])).length) Slot.unset).toArray = ls at hl ⊢
  have hl : lv_has ls 7 [(0, .ref aM), (1, .int x1)] := hl
  generalize hQe : MQ below (kQi D cy zr A (wX9_worstHeld cy aM qM z_vM vM_r vM_st z_vM_trial)) ([.ref aM, .int x1] : List Value).toArray s 0 0 A = Q
  have L37 : ∀ (fuel : Nat) (y3_37 : Int32) (y4_37 : Int32) (y5_37 : Int32) (vM_trial_37 : Nat → Int32) (vM_37 : Nat → Int32), ∀ (H : Heap) (locs : List Loc) (ls : Array Slot), va_P D vwCl (wX9_worstHeld cy aM qM vM_37 vM_r vM_st vM_trial_37) H → va_D A (wX9_worstHeld cy aM qM vM_37 vM_r vM_st vM_trial_37) → va_S A s.heap H locs → lv_has ls 7 [(0, .ref aM), (1, .int x1), (3, .int y3_37), (4, .int y4_37), (5, .int y5_37)] → lp (fX9_worstHeld_B37 vM_r vM_st x1) fuel (y3_37, y4_37, y5_37, vM_trial_37, vM_37) = some (zr, z_vM, z_vM_trial) → W p l e ({ frames := 6, cells := 0, slots := 0, locals := 138 } : Room) s m ([.ref aM, .int x1] : List Value).toArray below meth c H locs 0 0 Q (F0 m 37 ls []) := by
    intro fuel
    induction fuel with
    | zero => intro y3_37 y4_37 y5_37 vM_trial_37 vM_37 H locs ls hP hD hS hl hok; exact (lp_0 hok).elim
    | succ fuel ih37 =>
      intro y3_37 y4_37 y5_37 vM_trial_37 vM_37 H locs ls hP hD hS hl hok
      obtain ⟨y37, hok, hL37, hR37⟩ := lp_step hok
      have J76 : ∀ (y3_76 : Int32) (y4_76 : Int32) (vM_trial_76 : Nat → Int32), ∀ (H : Heap) (locs : List Loc) (ls : Array Slot), va_P D vwCl (wX9_worstHeld cy aM qM vM_37 vM_r vM_st vM_trial_76) H → va_D A (wX9_worstHeld cy aM qM vM_37 vM_r vM_st vM_trial_76) → va_S A s.heap H locs → lv_has ls 7 [(0, .ref aM), (1, .int x1), (3, .int y3_76), (4, .int y4_76), (5, .int y5_37)] → fX9_worstHeld_J76 y5_37 vM_37 y3_76 y4_76 vM_trial_76 = some y37 → W p l e ({ frames := 6, cells := 0, slots := 0, locals := 138 } : Room) s m ([.ref aM, .int x1] : List Value).toArray below meth c H locs 0 0 Q (F0 m 76 ls []) := by
        intro y3_76 y4_76 vM_trial_76 H locs ls hP hD hS hl hok
        unfold fX9_worstHeld_J76 at hok
        refine lv_iinc (v := (y5_37 + 1)) (lv' := [(5, .int (y5_37 + 1)), (0, .ref aM), (1, .int x1), (3, .int y3_76), (4, .int y4_76)]) hx hb dX9_worstHeld_76 hl (k := 4) rfl (by first | rfl | decide) (by decide) rfl (fun ls hl => ?_)
        refine lv_goto (tgt := 37) hx hb dX9_worstHeld_79 (by decide) ?_
        exact ih37 y3_76 y4_76 (y5_37 + 1) vM_trial_76 vM_37 H locs ls hP hD hS (lv_sub hl [1, 2, 3, 4, 0] rfl) (hR37 _ (Option.some.inj hok).symm)
      unfold fX9_worstHeld_B37 at hok
      try dsimp only at hok
      refine lv_iload hx hb dX9_worstHeld_37 (lv_at hl 4 rfl) ?_
      refine lv_aload_n hx hb dX9_worstHeld_39 rfl (lv_at hl 0 rfl) ?_
      refine va_get (D := D) (ci := 8) (v := .ref (qM 15)) (C := RX9) (T := TX9) (N := 29) hx hb ht0 niX9 hown hK hP 0 rfl rfl 15 (by decide) (ht0 _ wd854) (fun _ h9 => h9) rfl dX9_worstHeld_40 ?_
      refine lv_iconst (v := 3) hx hb dX9_worstHeld_43 (by decide) ?_
      obtain ⟨g44, hok⟩ := gd_some hok
      refine va_iald hx hb hK hP 1 0 rfl rfl (okI_in g44) dX9_worstHeld_44 ?_
      refine lv_icmp_ge (tgt := 82) hx hb dX9_worstHeld_45 (by decide) (fun c45 => ?_) (fun c45 => ?_)
      · have hok := k_pos c45 hok
        obtain ⟨e37, hok, he37⟩ := ex_some hok
        have hok := hok.trans (congrArg some (hL37 _ he37))
        refine lv_iload_n hx hb dX9_worstHeld_82 rfl (lv_at hl 2 rfl) ?_
        cases hok
        subst hQe; exact W.iret hx hb hr (fun t ht hW => ⟨⟨_, (), rfl, rfl, by rw [ht]; exact hP, va_K.moved hW.alike hK, hD⟩, hS.F ht⟩) hS.2.2 dX9_worstHeld_83
      · have hok := k_neg c45 hok
        refine lv_aload_n hx hb dX9_worstHeld_48 rfl (lv_at hl 0 rfl) ?_
        refine lv_iconst (v := 1) hx hb dX9_worstHeld_49 (by decide) ?_
        refine lv_iload hx hb dX9_worstHeld_50 (lv_at hl 4 rfl) ?_
        refine lv_ishl hx hb dX9_worstHeld_52 ?_
        refine lv_iload_n hx hb dX9_worstHeld_53 rfl (lv_at hl 1 rfl) ?_
        obtain ⟨⟨r54, vM_trial_54⟩, hc54, hok⟩ := k_bind hok
        try dsimp only at hok
        refine kCi (wc := (wX9_goneBy cy aM qM vM_37 vM_st vM_trial_37 vM_r)) (wc2 := (wX9_goneBy cy aM qM vM_37 vM_st vM_trial_54 vM_r)) (wr := []) (ws2 := (wX9_worstHeld cy aM qM vM_37 vM_r vM_st vM_trial_54)) (kRunV (As := [.int (isl (1 : Int32) y5_37), .int x1]) (rest := []) ⟨hx, hb, hml, hown, ht0⟩ (kX9_goneBy l D cy _ aM qM vM_37 vM_st vM_trial_37 vM_r (isl (1 : Int32) y5_37) x1 r54 vM_trial_54 hc54 _ rfl) (cwV 2 ht0 (gV wd957 wd958 wd959 wd744 wd960) rfl rfl rfl (by decide +kernel) ⟨Nat.le_of_ble_eq_true rfl, Nat.le_of_ble_eq_true rfl⟩) hK hN hP hD [0, 2, 3, 1] rfl (by decide) 0 8 rfl rfl rfl hl.1 rfl (Nat.le_of_ble_eq_true rfl) dX9_worstHeld_54 ⟨Nat.zero_le _, Nat.zero_le _⟩) hP hD hS hA [0, 2, 3, 1] [] rfl rfl (by decide) (by decide) [0, 3, 1, 2] (by decide) rfl rfl (fun H locs hP hD hS => ?_)
        refine lv_istore (lv' := [(6, .int r54), (0, .ref aM), (1, .int x1), (3, .int y3_37), (4, .int y4_37), (5, .int y5_37)]) hx hb dX9_worstHeld_57 hl (by decide) rfl (fun ls hl => ?_)
        refine lv_iload hx hb dX9_worstHeld_59 (lv_at hl 0 rfl) ?_
        refine lv_iload hx hb dX9_worstHeld_61 (lv_at hl 4 rfl) ?_
        refine lv_icmp_lt (tgt := 69) hx hb dX9_worstHeld_63 (by decide) (fun c63 => ?_) (fun c63 => ?_)
        · have hok := k_pos c63 hok
          refine lv_iload hx hb dX9_worstHeld_69 (lv_at hl 5 rfl) ?_
          refine lv_istore_n (lv' := [(3, .int y5_37), (6, .int r54), (0, .ref aM), (1, .int x1), (4, .int y4_37), (5, .int y5_37)]) hx hb dX9_worstHeld_71 rfl hl (by decide) rfl (fun ls hl => ?_)
          refine lv_iload hx hb dX9_worstHeld_72 (lv_at hl 1 rfl) ?_
          refine lv_istore (lv' := [(4, .int r54), (3, .int y5_37), (6, .int r54), (0, .ref aM), (1, .int x1), (5, .int y5_37)]) hx hb dX9_worstHeld_74 hl (by decide) rfl (fun ls hl => ?_)
          exact J76 y5_37 r54 vM_trial_54 H locs ls hP hD hS (lv_sub hl [3, 4, 1, 0, 5] rfl) hok
        · have hok := k_neg c63 hok
          refine lv_goto (tgt := 76) hx hb dX9_worstHeld_66 (by decide) ?_
          exact J76 y3_37 y4_37 vM_trial_54 H locs ls hP hD hS (lv_sub hl [1, 2, 3, 4, 5] rfl) hok
  unfold fX9_worstHeld at hok
  obtain ⟨H, hH⟩ : ∃ H, H = s.heap := ⟨_, rfl⟩
  obtain ⟨locs, hlc⟩ : ∃ x : List Loc, x = [] := ⟨_, rfl⟩
  have hP : va_P D vwCl (wX9_worstHeld cy aM qM vM vM_r vM_st vM_trial) H := by rw [hH]; exact hP
  have hS : va_S A s.heap H locs := by rw [hH, hlc]; exact hS
  rw [show W p l e _ s m _ below meth c s.heap [] = W p l e _ s m _ below meth c H locs from by rw [hH, hlc]]
  refine lv_aload_n hx hb dX9_worstHeld_0 rfl (lv_at hl 0 rfl) ?_
  obtain ⟨vM_1, hc1, hok⟩ := k_bind hok
  refine kCv (wc := (wX9_good cy aM qM vM)) (wc2 := (wX9_good cy aM qM vM_1)) (wr := [(qM 15, rI cy 224 vM_r), (qM 17, rI cy 9 vM_st), (qM 22, rI cy 9 vM_trial)]) (ws2 := (wX9_worstHeld cy aM qM vM_1 vM_r vM_st vM_trial)) (kRunV (As := []) (rest := []) ⟨hx, hb, hml, hown, ht0⟩ (kX9_good l D cy _ aM qM vM vM_1 hc1 _ rfl) (cwV 0 ht0 (gV wd870 wd871 wd872 wd744 wd873) rfl rfl rfl (by decide +kernel) ⟨Nat.le_of_ble_eq_true rfl, Nat.le_of_ble_eq_true rfl⟩) hK hN hP hD [0] rfl (by decide) 0 8 rfl rfl rfl hl.1 rfl (Nat.le_of_ble_eq_true rfl) dX9_worstHeld_1 ⟨Nat.zero_le _, Nat.zero_le _⟩) hP hD hS hA [0] [1, 2, 3] rfl rfl (by decide) (by decide) [3, 0, 1, 2] (by decide) rfl rfl (fun H locs hP hD hS => ?_)
  refine lv_aload_n hx hb dX9_worstHeld_4 rfl (lv_at hl 0 rfl) ?_
  refine lv_aload_n hx hb dX9_worstHeld_5 rfl (lv_at hl 0 rfl) ?_
  refine va_get (D := D) (ci := 8) (v := .int (vM_1 14)) (C := RX9) (T := TX9) (N := 29) hx hb ht0 niX9 hown hK hP 0 rfl rfl 14 (by decide) (ht0 _ wd855) (fun _ h9 => h9) rfl dX9_worstHeld_6 ?_
  refine lv_iload_n hx hb dX9_worstHeld_9 rfl (lv_at hl 1 rfl) ?_
  refine lv_bipush (v := 60) hx hb dX9_worstHeld_10 (by decide) ?_
  obtain ⟨r12, hc12, hok⟩ := k_bind hok
  refine kCi (wc := (wX9_why cy aM)) (wc2 := (wX9_why cy aM)) (wr := [(aM, oX9 vM_1 qM), (qM 15, rI cy 224 vM_r), (qM 17, rI cy 9 vM_st), (qM 22, rI cy 9 vM_trial)]) (ws2 := (wX9_worstHeld cy aM qM vM_1 vM_r vM_st vM_trial)) (kRunV (As := [.int (vM_1 14), .int x1, .int 60]) (rest := []) ⟨hx, hb, hml, hown, ht0⟩ (kX9_why l D cy _ aM (vM_1 14) x1 (60 : Int32) r12 hc12 _ rfl) (cwV 3 ht0 (gV wd944 wd945 wd946 wd744 wd947) rfl rfl rfl (by decide +kernel) ⟨Nat.le_of_ble_eq_true rfl, Nat.le_of_ble_eq_true rfl⟩) hK hN hP hD [] rfl (by decide) 0 8 rfl rfl rfl hl.1 rfl (Nat.le_of_ble_eq_true rfl) dX9_worstHeld_12 ⟨Nat.zero_le _, Nat.zero_le _⟩) hP hD hS hA [] [0, 1, 2, 3] rfl rfl (by decide) (by decide) [0, 1, 2, 3] (by decide) rfl rfl (fun H locs hP hD hS => ?_)
  refine lv_istore_n (lv' := [(2, .int r12), (0, .ref aM), (1, .int x1)]) hx hb dX9_worstHeld_15 rfl hl (by decide) rfl (fun ls hl => ?_)
  refine lv_iload_n hx hb dX9_worstHeld_16 rfl (lv_at hl 0 rfl) ?_
  refine lv_if_eq (tgt := 26) hx hb dX9_worstHeld_17 (by decide) (fun c17 => ?_) (fun c17 => ?_)
  · have hok := k_pos c17 hok
    refine lv_bipush (v := -2) hx hb dX9_worstHeld_26 (by decide) ?_
    refine lv_istore_n (lv' := [(3, .int (-2)), (2, .int r12), (0, .ref aM), (1, .int x1)]) hx hb dX9_worstHeld_28 rfl hl (by decide) rfl (fun ls hl => ?_)
    refine lv_ldcw (v := 1000000) hx hb hown (ht0 _ wd961) dX9_worstHeld_29 ?_
    refine lv_istore (lv' := [(4, .int 1000000), (3, .int (-2)), (2, .int r12), (0, .ref aM), (1, .int x1)]) hx hb dX9_worstHeld_32 hl (by decide) rfl (fun ls hl => ?_)
    refine lv_iconst (v := 0) hx hb dX9_worstHeld_34 (by decide) ?_
    refine lv_istore (lv' := [(5, .int 0), (4, .int 1000000), (3, .int (-2)), (2, .int r12), (0, .ref aM), (1, .int x1)]) hx hb dX9_worstHeld_35 hl (by decide) rfl (fun ls hl => ?_)
    exact L37 5000 (-2 : Int32) (1000000 : Int32) (0 : Int32) vM_trial vM_1 H locs ls hP hD hS (lv_sub hl [4, 5, 2, 1, 0] rfl) hok
  · have hok := k_neg c17 hok
    refine lv_aload_n hx hb dX9_worstHeld_20 rfl (lv_at hl 1 rfl) ?_
    refine lv_iload_n hx hb dX9_worstHeld_21 rfl (lv_at hl 0 rfl) ?_
    obtain ⟨⟨r22, vM_22⟩, hc22, hok⟩ := k_bind hok
    try dsimp only at hok
    refine kCi (wc := (wX9_no cy aM qM vM_1)) (wc2 := (wX9_no cy aM qM vM_22)) (wr := [(qM 15, rI cy 224 vM_r), (qM 17, rI cy 9 vM_st), (qM 22, rI cy 9 vM_trial)]) (ws2 := (wX9_worstHeld cy aM qM vM_22 vM_r vM_st vM_trial)) (kRunV (As := [.int r12]) (rest := []) ⟨hx, hb, hml, hown, ht0⟩ (kX9_no l D cy _ aM qM vM_1 r12 r22 vM_22 hc22 _ rfl) (cwV 1 ht0 (gV wd862 wd863 wd864 wd744 wd865) rfl rfl rfl (by decide +kernel) ⟨Nat.le_of_ble_eq_true rfl, Nat.le_of_ble_eq_true rfl⟩) hK hN hP hD [0] rfl (by decide) 0 8 rfl rfl rfl hl.1 rfl (Nat.le_of_ble_eq_true rfl) dX9_worstHeld_22 ⟨Nat.zero_le _, Nat.zero_le _⟩) hP hD hS hA [0] [1, 2, 3] rfl rfl (by decide) (by decide) [3, 0, 1, 2] (by decide) rfl rfl (fun H locs hP hD hS => ?_)
    cases hok
    subst hQe; exact W.iret hx hb hr (fun t ht hW => ⟨⟨_, (), rfl, rfl, by rw [ht]; exact hP, va_K.moved hW.alike hK, hD⟩, hS.F ht⟩) hS.2.2 dX9_worstHeld_25
def wsX9_isThereBy : List Cond := .code yX9_isThereBy cX9_isThereBy 6 (some .boolean) :: W0
abbrev wX9_isThereBy (cy : Nat → ClassId) (aM : Nat) (qM : Nat → Nat) (vM : Nat → Int32) (vM_st : Nat → Int32) (vM_trial : Nat → Int32) (vM_r : Nat → Int32) : va_W := [(aM, oX9 vM qM), (qM 17, rI cy 9 vM_st), (qM 22, rI cy 9 vM_trial), (qM 15, rI cy 224 vM_r)]
set_option maxHeartbeats 4000000 in
set_option maxRecDepth 100000 in
theorem kX9_isThereBy (l : Launch) (D : va_G) (cy : Nat → ClassId) (sz : Nat) (aM : Nat) (qM : Nat → Nat) (vM : Nat → Int32) (vM_st : Nat → Int32) (vM_trial : Nat → Int32) (vM_r : Nat → Int32) (x1 : Int32) (x2 : Int32) (x3 : Int32) (x4 : Int32) (zr : Int32) (z_vM_trial : Nat → Int32) (hok : fX9_isThereBy vM vM_st vM_trial vM_r x1 x2 x3 x4 = some (zr, z_vM_trial)) (A : Nat → Prop) (hAe : va_A (wX9_isThereBy cy aM qM vM vM_st vM_trial vM_r) sz = A) : Met l yX9_isThereBy wsX9_isThereBy ({ frames := 5, cells := 0, slots := 0, locals := 114 } : Room) (kPre D cy [.ref aM, .int x1, .int x2, .int x3, .int x4] (wX9_isThereBy cy aM qM vM vM_st vM_trial vM_r) sz) (kQi D cy zr A (wX9_isThereBy cy aM qM vM vM_st z_vM_trial vM_r)) 0 0 A := by
  refine Met.ofW (cc := cX9_isThereBy) (maxL := 6) (ret := (some .boolean)) (by decide) rfl ?_
  intro p e s m args below meth c s₁ B hml hv
  obtain ⟨rfl, hsz, hP, hK, hD0, hN⟩ := hv
  have hx := B.exec
  have hb := B.bytes
  have hr := B.returns
  have ht0 : ∀ w ∈ W0, w.before _ s = true := fun w h => atoms_spec (ws := wsX9_isThereBy) B.pre w (List.mem_cons_of_mem _ h)
  have hown : s.vm.findClass RX9 = some m.cls := findClass_of_methodNamed B.named
  have hlocks := B.notSynchronized
  subst hsz
  have hD : va_D A (wX9_isThereBy cy aM qM vM vM_st vM_trial vM_r) := by rw [← hAe]; exact hD0.self
  have hA : ∀ q : Nat, s.heap.size ≤ q → A q := fun q h => by rw [← hAe]; exact Or.inr h
  have hS : va_S A s.heap s.heap [] := va_S.rf
  have hl := lv_entry ([.ref aM, .int x1, .int x2, .int x3, .int x4]) (n := 6) (Nat.le_of_ble_eq_true rfl)
  rw [lg_entry_eq]
  generalize (lg_sl ([.ref aM, .int x1, .int x2, .int x3, .int x4]) ++ List.replicate (6 - (lg_sl ([.ref aM, .int x1, .int x2, .int x3, .int x4])).length) Slot.unset).toArray = ls at hl ⊢
  have hl : lv_has ls 6 [(0, .ref aM), (1, .int x1), (2, .int x2), (3, .int x3), (4, .int x4)] := hl
  generalize hQe : MQ below (kQi D cy zr A (wX9_isThereBy cy aM qM vM vM_st z_vM_trial vM_r)) ([.ref aM, .int x1, .int x2, .int x3, .int x4] : List Value).toArray s 0 0 A = Q
  have J55 : ∀ (t0_55 : Int32) (vM_trial_55 : Nat → Int32), ∀ (H : Heap) (locs : List Loc) (ls : Array Slot), va_P D vwCl (wX9_isThereBy cy aM qM vM vM_st vM_trial_55 vM_r) H → va_D A (wX9_isThereBy cy aM qM vM vM_st vM_trial_55 vM_r) → va_S A s.heap H locs → lv_has ls 6 [] → fX9_isThereBy_J55 t0_55 vM_trial_55 = some (zr, z_vM_trial) → W p l e ({ frames := 5, cells := 0, slots := 0, locals := 114 } : Room) s m ([.ref aM, .int x1, .int x2, .int x3, .int x4] : List Value).toArray below meth c H locs 0 0 Q (F0 m 55 ls [.int t0_55]) := by
    intro t0_55 vM_trial_55 H locs ls hP hD hS hl hok
    unfold fX9_isThereBy_J55 at hok
    obtain ⟨g55, hok⟩ := gd_some hok
    cases hok
    subst hQe; exact W.zret hx hb hr (isB_nar g55) (fun t ht hW => ⟨⟨_, (), rfl, rfl, by rw [ht]; exact hP, va_K.moved hW.alike hK, hD⟩, hS.F ht⟩) hS.2.2 dX9_isThereBy_55
  have L18 : ∀ (fuel : Nat) (y5_18 : Int32) (vM_trial_18 : Nat → Int32), ∀ (H : Heap) (locs : List Loc) (ls : Array Slot), va_P D vwCl (wX9_isThereBy cy aM qM vM vM_st vM_trial_18 vM_r) H → va_D A (wX9_isThereBy cy aM qM vM vM_st vM_trial_18 vM_r) → va_S A s.heap H locs → lv_has ls 6 [(0, .ref aM), (2, .int x2), (3, .int x3), (4, .int x4), (5, .int y5_18)] → lp (fX9_isThereBy_B18 vM vM_r x2 x3 x4) fuel (y5_18, vM_trial_18) = some (zr, z_vM_trial) → W p l e ({ frames := 5, cells := 0, slots := 0, locals := 114 } : Room) s m ([.ref aM, .int x1, .int x2, .int x3, .int x4] : List Value).toArray below meth c H locs 0 0 Q (F0 m 18 ls []) := by
    intro fuel
    induction fuel with
    | zero => intro y5_18 vM_trial_18 H locs ls hP hD hS hl hok; exact (lp_0 hok).elim
    | succ fuel ih18 =>
      intro y5_18 vM_trial_18 H locs ls hP hD hS hl hok
      obtain ⟨y18, hok, hL18, hR18⟩ := lp_step hok
      unfold fX9_isThereBy_B18 at hok
      try dsimp only at hok
      refine lv_iload hx hb dX9_isThereBy_18 (lv_at hl 4 rfl) ?_
      refine lv_iload hx hb dX9_isThereBy_20 (lv_at hl 3 rfl) ?_
      refine lv_icmp_ge (tgt := 40) hx hb dX9_isThereBy_22 (by decide) (fun c22 => ?_) (fun c22 => ?_)
      · have hok := k_pos c22 hok
        obtain ⟨e18, hok, he18⟩ := ex_some hok
        have hok := hok.trans (congrArg some (hL18 _ he18))
        refine lv_aload_n hx hb dX9_isThereBy_40 rfl (lv_at hl 0 rfl) ?_
        refine va_get (D := D) (ci := 8) (v := .ref (qM 22)) (C := RX9) (T := TX9) (N := 29) hx hb ht0 niX9 hown hK hP 0 rfl rfl 22 (by decide) (ht0 _ wd921) (fun _ h9 => h9) rfl dX9_isThereBy_41 ?_
        refine lv_iload_n hx hb dX9_isThereBy_44 rfl (lv_at hl 1 rfl) ?_
        obtain ⟨g45, hok⟩ := gd_some hok
        refine va_iald hx hb hK hP 2 0 rfl rfl (okI_in g45) dX9_isThereBy_45 ?_
        refine lv_iload_n hx hb dX9_isThereBy_46 rfl (lv_at hl 2 rfl) ?_
        refine lv_icmp_ne (tgt := 54) hx hb dX9_isThereBy_47 (by decide) (fun c47 => ?_) (fun c47 => ?_)
        · have hok := k_neg c47 hok
          refine lv_iconst (v := 0) hx hb dX9_isThereBy_54 (by decide) ?_
          exact J55 (0 : Int32) vM_trial_18 H locs ls hP hD hS (lv_sub hl [] rfl) hok
        · have hok := k_pos c47 hok
          refine lv_iconst (v := 1) hx hb dX9_isThereBy_50 (by decide) ?_
          refine lv_goto (tgt := 55) hx hb dX9_isThereBy_51 (by decide) ?_
          exact J55 (1 : Int32) vM_trial_18 H locs ls hP hD hS (lv_sub hl [] rfl) hok
      · have hok := k_neg c22 hok
        refine lv_aload_n hx hb dX9_isThereBy_25 rfl (lv_at hl 0 rfl) ?_
        refine lv_aload_n hx hb dX9_isThereBy_26 rfl (lv_at hl 0 rfl) ?_
        refine va_get (D := D) (ci := 8) (v := .ref (qM 22)) (C := RX9) (T := TX9) (N := 29) hx hb ht0 niX9 hown hK hP 0 rfl rfl 22 (by decide) (ht0 _ wd921) (fun _ h9 => h9) rfl dX9_isThereBy_27 ?_
        obtain ⟨⟨r30, p1_30⟩, hc30, hok⟩ := k_bind hok
        try dsimp only at hok
        refine kCi (wc := (wX9_nightOf cy aM (qM 22) qM vM vM_r 9 vM_trial_18)) (wc2 := (wX9_nightOf cy aM (qM 22) qM vM vM_r 9 p1_30)) (wr := [(qM 17, rI cy 9 vM_st)]) (ws2 := (wX9_isThereBy cy aM qM vM vM_st p1_30 vM_r)) (kRunV (As := [.ref (qM 22)]) (rest := []) ⟨hx, hb, hml, hown, ht0⟩ (kX9_nightOf l D cy _ aM (qM 22) qM vM vM_r 9 vM_trial_18 r30 p1_30 hc30 _ rfl) (cwV 1 ht0 (gV wd940 wd941 wd942 wd744 wd943) rfl rfl rfl (by decide +kernel) ⟨Nat.le_of_ble_eq_true rfl, Nat.le_of_ble_eq_true rfl⟩) hK hN hP hD [0, 3, 2] rfl (by decide) 0 8 rfl rfl rfl hl.1 rfl (Nat.le_of_ble_eq_true rfl) dX9_isThereBy_30 ⟨Nat.zero_le _, Nat.zero_le _⟩) hP hD hS hA [0, 3, 2] [1] rfl rfl (by decide) (by decide) [1, 0, 3, 2] (by decide) rfl rfl (fun H locs hP hD hS => ?_)
        refine lv_pop hx hb dX9_isThereBy_33 rfl ?_
        refine lv_iinc (v := (y5_18 + 1)) (lv' := [(5, .int (y5_18 + 1)), (0, .ref aM), (2, .int x2), (3, .int x3), (4, .int x4)]) hx hb dX9_isThereBy_34 hl (k := 4) rfl (by first | rfl | decide) (by decide) rfl (fun ls hl => ?_)
        refine lv_goto (tgt := 18) hx hb dX9_isThereBy_37 (by decide) ?_
        exact ih18 (y5_18 + 1) p1_30 H locs ls hP hD hS (lv_sub hl [1, 2, 3, 4, 0] rfl) (hR18 _ (Option.some.inj hok).symm)
  unfold fX9_isThereBy at hok
  obtain ⟨H, hH⟩ : ∃ H, H = s.heap := ⟨_, rfl⟩
  obtain ⟨locs, hlc⟩ : ∃ x : List Loc, x = [] := ⟨_, rfl⟩
  have hP : va_P D vwCl (wX9_isThereBy cy aM qM vM vM_st vM_trial vM_r) H := by rw [hH]; exact hP
  have hS : va_S A s.heap H locs := by rw [hH, hlc]; exact hS
  rw [show W p l e _ s m _ below meth c s.heap [] = W p l e _ s m _ below meth c H locs from by rw [hH, hlc]]
  refine lv_aload_n hx hb dX9_isThereBy_0 rfl (lv_at hl 0 rfl) ?_
  obtain ⟨vM_trial_1, hc1, hok⟩ := k_bind hok
  refine kCv (wc := (wX9_begin cy aM qM vM vM_st vM_trial)) (wc2 := (wX9_begin cy aM qM vM vM_st vM_trial_1)) (wr := [(qM 15, rI cy 224 vM_r)]) (ws2 := (wX9_isThereBy cy aM qM vM vM_st vM_trial_1 vM_r)) (kRunV (As := []) (rest := []) ⟨hx, hb, hml, hown, ht0⟩ (kX9_begin l D cy _ aM qM vM vM_st vM_trial vM_trial_1 hc1 _ rfl) (cwV 0 ht0 (gV wd948 wd949 wd950 wd744 wd951) rfl rfl rfl (by decide +kernel) ⟨Nat.le_of_ble_eq_true rfl, Nat.le_of_ble_eq_true rfl⟩) hK hN hP hD [0, 1, 2] rfl (by decide) 0 8 rfl rfl rfl hl.1 rfl (Nat.le_of_ble_eq_true rfl) dX9_isThereBy_1 ⟨Nat.zero_le _, Nat.zero_le _⟩) hP hD hS hA [0, 1, 2] [3] rfl rfl (by decide) (by decide) [1, 2, 3, 0] (by decide) rfl rfl (fun H locs hP hD hS => ?_)
  refine lv_aload_n hx hb dX9_isThereBy_4 rfl (lv_at hl 0 rfl) ?_
  refine va_get (D := D) (ci := 8) (v := .ref (qM 22)) (C := RX9) (T := TX9) (N := 29) hx hb ht0 niX9 hown hK hP 0 rfl rfl 22 (by decide) (ht0 _ wd921) (fun _ h9 => h9) rfl dX9_isThereBy_5 ?_
  refine lv_bipush (v := 7) hx hb dX9_isThereBy_8 (by decide) ?_
  refine lv_dup2_11 hx hb dX9_isThereBy_10 rfl rfl ?_
  obtain ⟨g11, hok⟩ := gd_some hok
  refine va_iald hx hb hK hP 2 0 rfl rfl (okI_in g11) dX9_isThereBy_11 ?_
  refine lv_iload_n hx hb dX9_isThereBy_12 rfl (lv_at hl 1 rfl) ?_
  refine lv_ior hx hb dX9_isThereBy_13 ?_
  obtain ⟨g14, hok⟩ := gd_some hok
  refine va_iast hx hb hK hP hD hS 2 0 rfl rfl (okI_in g14) dX9_isThereBy_14 (fun H locs hP hD hS => ?_)
  have hP : va_P D vwCl (wX9_isThereBy cy aM qM vM vM_st (upd vM_trial_1 (7 : Int32).toNatClampNeg ((vM_trial_1 (7 : Int32).toNatClampNeg) ||| x1)) vM_r) H := hP
  have hD : va_D A (wX9_isThereBy cy aM qM vM vM_st (upd vM_trial_1 (7 : Int32).toNatClampNeg ((vM_trial_1 (7 : Int32).toNatClampNeg) ||| x1)) vM_r) := hD
  refine lv_iconst (v := 0) hx hb dX9_isThereBy_15 (by decide) ?_
  refine lv_istore (lv' := [(5, .int 0), (0, .ref aM), (1, .int x1), (2, .int x2), (3, .int x3), (4, .int x4)]) hx hb dX9_isThereBy_16 hl (by decide) rfl (fun ls hl => ?_)
  exact L18 5000 (0 : Int32) (upd vM_trial_1 (7 : Int32).toNatClampNeg ((vM_trial_1 (7 : Int32).toNatClampNeg) ||| x1)) H locs ls hP hD hS (lv_sub hl [1, 3, 4, 5, 0] rfl) hok
def wsX9_doMeetBy : List Cond := .code yX9_doMeetBy cX9_doMeetBy 6 (some .boolean) :: W0
abbrev wX9_doMeetBy (cy : Nat → ClassId) (aM : Nat) (qM : Nat → Nat) (vM : Nat → Int32) (vM_st : Nat → Int32) (vM_trial : Nat → Int32) (vM_r : Nat → Int32) : va_W := [(aM, oX9 vM qM), (qM 17, rI cy 9 vM_st), (qM 22, rI cy 9 vM_trial), (qM 15, rI cy 224 vM_r)]
set_option maxHeartbeats 4000000 in
set_option maxRecDepth 100000 in
theorem kX9_doMeetBy (l : Launch) (D : va_G) (cy : Nat → ClassId) (sz : Nat) (aM : Nat) (qM : Nat → Nat) (vM : Nat → Int32) (vM_st : Nat → Int32) (vM_trial : Nat → Int32) (vM_r : Nat → Int32) (x1 : Int32) (x2 : Int32) (x3 : Int32) (x4 : Int32) (zr : Int32) (z_vM_trial : Nat → Int32) (hok : fX9_doMeetBy vM vM_st vM_trial vM_r x1 x2 x3 x4 = some (zr, z_vM_trial)) (A : Nat → Prop) (hAe : va_A (wX9_doMeetBy cy aM qM vM vM_st vM_trial vM_r) sz = A) : Met l yX9_doMeetBy wsX9_doMeetBy ({ frames := 5, cells := 0, slots := 0, locals := 114 } : Room) (kPre D cy [.ref aM, .int x1, .int x2, .int x3, .int x4] (wX9_doMeetBy cy aM qM vM vM_st vM_trial vM_r) sz) (kQi D cy zr A (wX9_doMeetBy cy aM qM vM vM_st z_vM_trial vM_r)) 0 0 A := by
  refine Met.ofW (cc := cX9_doMeetBy) (maxL := 6) (ret := (some .boolean)) (by decide) rfl ?_
  intro p e s m args below meth c s₁ B hml hv
  obtain ⟨rfl, hsz, hP, hK, hD0, hN⟩ := hv
  have hx := B.exec
  have hb := B.bytes
  have hr := B.returns
  have ht0 : ∀ w ∈ W0, w.before _ s = true := fun w h => atoms_spec (ws := wsX9_doMeetBy) B.pre w (List.mem_cons_of_mem _ h)
  have hown : s.vm.findClass RX9 = some m.cls := findClass_of_methodNamed B.named
  have hlocks := B.notSynchronized
  subst hsz
  have hD : va_D A (wX9_doMeetBy cy aM qM vM vM_st vM_trial vM_r) := by rw [← hAe]; exact hD0.self
  have hA : ∀ q : Nat, s.heap.size ≤ q → A q := fun q h => by rw [← hAe]; exact Or.inr h
  have hS : va_S A s.heap s.heap [] := va_S.rf
  have hl := lv_entry ([.ref aM, .int x1, .int x2, .int x3, .int x4]) (n := 6) (Nat.le_of_ble_eq_true rfl)
  rw [lg_entry_eq]
  generalize (lg_sl ([.ref aM, .int x1, .int x2, .int x3, .int x4]) ++ List.replicate (6 - (lg_sl ([.ref aM, .int x1, .int x2, .int x3, .int x4])).length) Slot.unset).toArray = ls at hl ⊢
  have hl : lv_has ls 6 [(0, .ref aM), (1, .int x1), (2, .int x2), (3, .int x3), (4, .int x4)] := hl
  generalize hQe : MQ below (kQi D cy zr A (wX9_doMeetBy cy aM qM vM vM_st z_vM_trial vM_r)) ([.ref aM, .int x1, .int x2, .int x3, .int x4] : List Value).toArray s 0 0 A = Q
  have L18 : ∀ (fuel : Nat) (y5_18 : Int32) (vM_trial_18 : Nat → Int32), ∀ (H : Heap) (locs : List Loc) (ls : Array Slot), va_P D vwCl (wX9_doMeetBy cy aM qM vM vM_st vM_trial_18 vM_r) H → va_D A (wX9_doMeetBy cy aM qM vM vM_st vM_trial_18 vM_r) → va_S A s.heap H locs → lv_has ls 6 [(0, .ref aM), (2, .int x2), (3, .int x3), (4, .int x4), (5, .int y5_18)] → lp (fX9_doMeetBy_B18 vM vM_r x2 x3 x4) fuel (y5_18, vM_trial_18) = some (zr, z_vM_trial) → W p l e ({ frames := 5, cells := 0, slots := 0, locals := 114 } : Room) s m ([.ref aM, .int x1, .int x2, .int x3, .int x4] : List Value).toArray below meth c H locs 0 0 Q (F0 m 18 ls []) := by
    intro fuel
    induction fuel with
    | zero => intro y5_18 vM_trial_18 H locs ls hP hD hS hl hok; exact (lp_0 hok).elim
    | succ fuel ih18 =>
      intro y5_18 vM_trial_18 H locs ls hP hD hS hl hok
      obtain ⟨y18, hok, hL18, hR18⟩ := lp_step hok
      unfold fX9_doMeetBy_B18 at hok
      try dsimp only at hok
      refine lv_iload hx hb dX9_doMeetBy_18 (lv_at hl 4 rfl) ?_
      refine lv_iload hx hb dX9_doMeetBy_20 (lv_at hl 3 rfl) ?_
      refine lv_icmp_ge (tgt := 40) hx hb dX9_doMeetBy_22 (by decide) (fun c22 => ?_) (fun c22 => ?_)
      · have hok := k_pos c22 hok
        obtain ⟨e18, hok, he18⟩ := ex_some hok
        have hok := hok.trans (congrArg some (hL18 _ he18))
        refine lv_aload_n hx hb dX9_doMeetBy_40 rfl (lv_at hl 0 rfl) ?_
        refine lv_aload_n hx hb dX9_doMeetBy_41 rfl (lv_at hl 0 rfl) ?_
        refine va_get (D := D) (ci := 8) (v := .ref (qM 22)) (C := RX9) (T := TX9) (N := 29) hx hb ht0 niX9 hown hK hP 0 rfl rfl 22 (by decide) (ht0 _ wd921) (fun _ h9 => h9) rfl dX9_doMeetBy_42 ?_
        refine lv_iload_n hx hb dX9_doMeetBy_45 rfl (lv_at hl 1 rfl) ?_
        obtain ⟨g46, hok⟩ := gd_some hok
        refine va_iald hx hb hK hP 2 0 rfl rfl (okI_in g46) dX9_doMeetBy_46 ?_
        refine lv_aload_n hx hb dX9_doMeetBy_47 rfl (lv_at hl 0 rfl) ?_
        refine va_get (D := D) (ci := 8) (v := .ref (qM 22)) (C := RX9) (T := TX9) (N := 29) hx hb ht0 niX9 hown hK hP 0 rfl rfl 22 (by decide) (ht0 _ wd921) (fun _ h9 => h9) rfl dX9_doMeetBy_48 ?_
        refine lv_iload_n hx hb dX9_doMeetBy_51 rfl (lv_at hl 2 rfl) ?_
        obtain ⟨g52, hok⟩ := gd_some hok
        refine va_iald hx hb hK hP 2 0 rfl rfl (okI_in g52) dX9_doMeetBy_52 ?_
        obtain ⟨r53, hc53, hok⟩ := k_bind hok
        refine kCi (wc := (wX9_areDoored cy aM qM vM vM_r)) (wc2 := (wX9_areDoored cy aM qM vM vM_r)) (wr := [(qM 17, rI cy 9 vM_st), (qM 22, rI cy 9 vM_trial_18)]) (ws2 := (wX9_doMeetBy cy aM qM vM vM_st vM_trial_18 vM_r)) (kRunV (As := [.int (vM_trial_18 x2.toNatClampNeg), .int (vM_trial_18 x3.toNatClampNeg)]) (rest := []) ⟨hx, hb, hml, hown, ht0⟩ (kX9_areDoored l D cy _ aM qM vM vM_r (vM_trial_18 x2.toNatClampNeg) (vM_trial_18 x3.toNatClampNeg) r53 hc53 _ rfl) (cwV 2 ht0 (gV wd933 wd934 wd935 wd744 wd936) rfl rfl rfl (by decide +kernel) ⟨Nat.le_of_ble_eq_true rfl, Nat.le_of_ble_eq_true rfl⟩) hK hN hP hD [0, 3] rfl (by decide) 0 8 rfl rfl rfl hl.1 rfl (Nat.le_of_ble_eq_true rfl) dX9_doMeetBy_53 ⟨Nat.zero_le _, Nat.zero_le _⟩) hP hD hS hA [0, 3] [1, 2] rfl rfl (by decide) (by decide) [2, 0, 1, 3] (by decide) rfl rfl (fun H locs hP hD hS => ?_)
        obtain ⟨g56, hok⟩ := gd_some hok
        cases hok
        subst hQe; exact W.zret hx hb hr (isB_nar g56) (fun t ht hW => ⟨⟨_, (), rfl, rfl, by rw [ht]; exact hP, va_K.moved hW.alike hK, hD⟩, hS.F ht⟩) hS.2.2 dX9_doMeetBy_56
      · have hok := k_neg c22 hok
        refine lv_aload_n hx hb dX9_doMeetBy_25 rfl (lv_at hl 0 rfl) ?_
        refine lv_aload_n hx hb dX9_doMeetBy_26 rfl (lv_at hl 0 rfl) ?_
        refine va_get (D := D) (ci := 8) (v := .ref (qM 22)) (C := RX9) (T := TX9) (N := 29) hx hb ht0 niX9 hown hK hP 0 rfl rfl 22 (by decide) (ht0 _ wd921) (fun _ h9 => h9) rfl dX9_doMeetBy_27 ?_
        obtain ⟨⟨r30, p1_30⟩, hc30, hok⟩ := k_bind hok
        try dsimp only at hok
        refine kCi (wc := (wX9_nightOf cy aM (qM 22) qM vM vM_r 9 vM_trial_18)) (wc2 := (wX9_nightOf cy aM (qM 22) qM vM vM_r 9 p1_30)) (wr := [(qM 17, rI cy 9 vM_st)]) (ws2 := (wX9_doMeetBy cy aM qM vM vM_st p1_30 vM_r)) (kRunV (As := [.ref (qM 22)]) (rest := []) ⟨hx, hb, hml, hown, ht0⟩ (kX9_nightOf l D cy _ aM (qM 22) qM vM vM_r 9 vM_trial_18 r30 p1_30 hc30 _ rfl) (cwV 1 ht0 (gV wd940 wd941 wd942 wd744 wd943) rfl rfl rfl (by decide +kernel) ⟨Nat.le_of_ble_eq_true rfl, Nat.le_of_ble_eq_true rfl⟩) hK hN hP hD [0, 3, 2] rfl (by decide) 0 8 rfl rfl rfl hl.1 rfl (Nat.le_of_ble_eq_true rfl) dX9_doMeetBy_30 ⟨Nat.zero_le _, Nat.zero_le _⟩) hP hD hS hA [0, 3, 2] [1] rfl rfl (by decide) (by decide) [1, 0, 3, 2] (by decide) rfl rfl (fun H locs hP hD hS => ?_)
        refine lv_pop hx hb dX9_doMeetBy_33 rfl ?_
        refine lv_iinc (v := (y5_18 + 1)) (lv' := [(5, .int (y5_18 + 1)), (0, .ref aM), (2, .int x2), (3, .int x3), (4, .int x4)]) hx hb dX9_doMeetBy_34 hl (k := 4) rfl (by first | rfl | decide) (by decide) rfl (fun ls hl => ?_)
        refine lv_goto (tgt := 18) hx hb dX9_doMeetBy_37 (by decide) ?_
        exact ih18 (y5_18 + 1) p1_30 H locs ls hP hD hS (lv_sub hl [1, 2, 3, 4, 0] rfl) (hR18 _ (Option.some.inj hok).symm)
  unfold fX9_doMeetBy at hok
  obtain ⟨H, hH⟩ : ∃ H, H = s.heap := ⟨_, rfl⟩
  obtain ⟨locs, hlc⟩ : ∃ x : List Loc, x = [] := ⟨_, rfl⟩
  have hP : va_P D vwCl (wX9_doMeetBy cy aM qM vM vM_st vM_trial vM_r) H := by rw [hH]; exact hP
  have hS : va_S A s.heap H locs := by rw [hH, hlc]; exact hS
  rw [show W p l e _ s m _ below meth c s.heap [] = W p l e _ s m _ below meth c H locs from by rw [hH, hlc]]
  refine lv_aload_n hx hb dX9_doMeetBy_0 rfl (lv_at hl 0 rfl) ?_
  obtain ⟨vM_trial_1, hc1, hok⟩ := k_bind hok
  refine kCv (wc := (wX9_begin cy aM qM vM vM_st vM_trial)) (wc2 := (wX9_begin cy aM qM vM vM_st vM_trial_1)) (wr := [(qM 15, rI cy 224 vM_r)]) (ws2 := (wX9_doMeetBy cy aM qM vM vM_st vM_trial_1 vM_r)) (kRunV (As := []) (rest := []) ⟨hx, hb, hml, hown, ht0⟩ (kX9_begin l D cy _ aM qM vM vM_st vM_trial vM_trial_1 hc1 _ rfl) (cwV 0 ht0 (gV wd948 wd949 wd950 wd744 wd951) rfl rfl rfl (by decide +kernel) ⟨Nat.le_of_ble_eq_true rfl, Nat.le_of_ble_eq_true rfl⟩) hK hN hP hD [0, 1, 2] rfl (by decide) 0 8 rfl rfl rfl hl.1 rfl (Nat.le_of_ble_eq_true rfl) dX9_doMeetBy_1 ⟨Nat.zero_le _, Nat.zero_le _⟩) hP hD hS hA [0, 1, 2] [3] rfl rfl (by decide) (by decide) [1, 2, 3, 0] (by decide) rfl rfl (fun H locs hP hD hS => ?_)
  refine lv_aload_n hx hb dX9_doMeetBy_4 rfl (lv_at hl 0 rfl) ?_
  refine va_get (D := D) (ci := 8) (v := .ref (qM 22)) (C := RX9) (T := TX9) (N := 29) hx hb ht0 niX9 hown hK hP 0 rfl rfl 22 (by decide) (ht0 _ wd921) (fun _ h9 => h9) rfl dX9_doMeetBy_5 ?_
  refine lv_bipush (v := 7) hx hb dX9_doMeetBy_8 (by decide) ?_
  refine lv_dup2_11 hx hb dX9_doMeetBy_10 rfl rfl ?_
  obtain ⟨g11, hok⟩ := gd_some hok
  refine va_iald hx hb hK hP 2 0 rfl rfl (okI_in g11) dX9_doMeetBy_11 ?_
  refine lv_iload_n hx hb dX9_doMeetBy_12 rfl (lv_at hl 1 rfl) ?_
  refine lv_ior hx hb dX9_doMeetBy_13 ?_
  obtain ⟨g14, hok⟩ := gd_some hok
  refine va_iast hx hb hK hP hD hS 2 0 rfl rfl (okI_in g14) dX9_doMeetBy_14 (fun H locs hP hD hS => ?_)
  have hP : va_P D vwCl (wX9_doMeetBy cy aM qM vM vM_st (upd vM_trial_1 (7 : Int32).toNatClampNeg ((vM_trial_1 (7 : Int32).toNatClampNeg) ||| x1)) vM_r) H := hP
  have hD : va_D A (wX9_doMeetBy cy aM qM vM vM_st (upd vM_trial_1 (7 : Int32).toNatClampNeg ((vM_trial_1 (7 : Int32).toNatClampNeg) ||| x1)) vM_r) := hD
  refine lv_iconst (v := 0) hx hb dX9_doMeetBy_15 (by decide) ?_
  refine lv_istore (lv' := [(5, .int 0), (0, .ref aM), (1, .int x1), (2, .int x2), (3, .int x3), (4, .int x4)]) hx hb dX9_doMeetBy_16 hl (by decide) rfl (fun ls hl => ?_)
  exact L18 5000 (0 : Int32) (upd vM_trial_1 (7 : Int32).toNatClampNeg ((vM_trial_1 (7 : Int32).toNatClampNeg) ||| x1)) H locs ls hP hD hS (lv_sub hl [1, 3, 4, 5, 0] rfl) hok
def wsX9_allThings : List Cond := .code yX9_allThings cX9_allThings 1 (some .int) :: W0
abbrev wX9_allThings (cy : Nat → ClassId) (aM : Nat) (qM : Nat → Nat) (vM : Nat → Int32) (vM_r : Nat → Int32) : va_W := [(aM, oX9 vM qM), (qM 15, rI cy 224 vM_r)]
set_option maxHeartbeats 4000000 in
set_option maxRecDepth 100000 in
theorem kX9_allThings (l : Launch) (D : va_G) (cy : Nat → ClassId) (sz : Nat) (aM : Nat) (qM : Nat → Nat) (vM : Nat → Int32) (vM_r : Nat → Int32) (zr : Int32) (hok : fX9_allThings vM vM_r = some zr) (A : Nat → Prop) (hAe : va_A (wX9_allThings cy aM qM vM vM_r) sz = A) : Met l yX9_allThings wsX9_allThings ({ frames := 0, cells := 0, slots := 0, locals := 0 } : Room) (kPre D cy [.ref aM] (wX9_allThings cy aM qM vM vM_r) sz) (kQi D cy zr A (wX9_allThings cy aM qM vM vM_r)) 0 0 A := by
  refine Met.ofW (cc := cX9_allThings) (maxL := 1) (ret := (some .int)) (by decide) rfl ?_
  intro p e s m args below meth c s₁ B hml hv
  obtain ⟨rfl, hsz, hP, hK, hD0, hN⟩ := hv
  have hx := B.exec
  have hb := B.bytes
  have hr := B.returns
  have ht0 : ∀ w ∈ W0, w.before _ s = true := fun w h => atoms_spec (ws := wsX9_allThings) B.pre w (List.mem_cons_of_mem _ h)
  have hown : s.vm.findClass RX9 = some m.cls := findClass_of_methodNamed B.named
  have hlocks := B.notSynchronized
  subst hsz
  have hD : va_D A (wX9_allThings cy aM qM vM vM_r) := by rw [← hAe]; exact hD0.self
  have hA : ∀ q : Nat, s.heap.size ≤ q → A q := fun q h => by rw [← hAe]; exact Or.inr h
  have hS : va_S A s.heap s.heap [] := va_S.rf
  have hl := lv_entry ([.ref aM]) (n := 1) (Nat.le_of_ble_eq_true rfl)
  rw [lg_entry_eq]
  generalize (lg_sl ([.ref aM]) ++ List.replicate (1 - (lg_sl ([.ref aM])).length) Slot.unset).toArray = ls at hl ⊢
  have hl : lv_has ls 1 [(0, .ref aM)] := hl
  unfold fX9_allThings at hok
  obtain ⟨H, hH⟩ : ∃ H, H = s.heap := ⟨_, rfl⟩
  obtain ⟨locs, hlc⟩ : ∃ x : List Loc, x = [] := ⟨_, rfl⟩
  have hP : va_P D vwCl (wX9_allThings cy aM qM vM vM_r) H := by rw [hH]; exact hP
  have hS : va_S A s.heap H locs := by rw [hH, hlc]; exact hS
  rw [show W p l e _ s m _ below meth c s.heap [] = W p l e _ s m _ below meth c H locs from by rw [hH, hlc]]
  refine lv_iconst (v := 1) hx hb dX9_allThings_0 (by decide) ?_
  refine lv_aload_n hx hb dX9_allThings_1 rfl (lv_at hl 0 rfl) ?_
  refine va_get (D := D) (ci := 8) (v := .ref (qM 15)) (C := RX9) (T := TX9) (N := 29) hx hb ht0 niX9 hown hK hP 0 rfl rfl 15 (by decide) (ht0 _ wd854) (fun _ h9 => h9) rfl dX9_allThings_2 ?_
  refine lv_iconst (v := 3) hx hb dX9_allThings_5 (by decide) ?_
  obtain ⟨g6, hok⟩ := gd_some hok
  refine va_iald hx hb hK hP 1 0 rfl rfl (okI_in g6) dX9_allThings_6 ?_
  refine lv_ishl hx hb dX9_allThings_7 ?_
  refine lv_iconst (v := 1) hx hb dX9_allThings_8 (by decide) ?_
  refine lv_isub hx hb dX9_allThings_9 ?_
  cases hok
  exact W.iret hx hb hr (fun t ht hW => ⟨⟨_, (), rfl, rfl, by rw [ht]; exact hP, va_K.moved hW.alike hK, hD⟩, hS.F ht⟩) hS.2.2 dX9_allThings_10
def wsX9_holds : List Cond := .code yX9_holds cX9_holds 8 (some .int) :: W0
abbrev wX9_holds (cy : Nat → ClassId) (aM : Nat) (qM : Nat → Nat) (vM : Nat → Int32) (vM_r : Nat → Int32) (vM_st : Nat → Int32) (vM_trial : Nat → Int32) : va_W := [(aM, oX9 vM qM), (qM 15, rI cy 224 vM_r), (qM 17, rI cy 9 vM_st), (qM 22, rI cy 9 vM_trial)]
set_option maxHeartbeats 4000000 in
set_option maxRecDepth 100000 in
theorem kX9_holds (l : Launch) (D : va_G) (cy : Nat → ClassId) (sz : Nat) (aM : Nat) (qM : Nat → Nat) (vM : Nat → Int32) (vM_r : Nat → Int32) (vM_st : Nat → Int32) (vM_trial : Nat → Int32) (x1 : Int32) (x2 : Int32) (x3 : Int32) (x4 : Int32) (zr : Int32) (z_vM : Nat → Int32) (z_vM_trial : Nat → Int32) (hok : fX9_holds vM vM_r vM_st vM_trial x1 x2 x3 x4 = some (zr, z_vM, z_vM_trial)) (A : Nat → Prop) (hAe : va_A (wX9_holds cy aM qM vM vM_r vM_st vM_trial) sz = A) : Met l yX9_holds wsX9_holds ({ frames := 6, cells := 0, slots := 0, locals := 139 } : Room) (kPre D cy [.ref aM, .int x1, .int x2, .int x3, .int x4] (wX9_holds cy aM qM vM vM_r vM_st vM_trial) sz) (kQi D cy zr A (wX9_holds cy aM qM z_vM vM_r vM_st z_vM_trial)) 0 0 A := by
  refine Met.ofW (cc := cX9_holds) (maxL := 8) (ret := (some .int)) (by decide) rfl ?_
  intro p e s m args below meth c s₁ B hml hv
  obtain ⟨rfl, hsz, hP, hK, hD0, hN⟩ := hv
  have hx := B.exec
  have hb := B.bytes
  have hr := B.returns
  have ht0 : ∀ w ∈ W0, w.before _ s = true := fun w h => atoms_spec (ws := wsX9_holds) B.pre w (List.mem_cons_of_mem _ h)
  have hown : s.vm.findClass RX9 = some m.cls := findClass_of_methodNamed B.named
  have hlocks := B.notSynchronized
  subst hsz
  have hD : va_D A (wX9_holds cy aM qM vM vM_r vM_st vM_trial) := by rw [← hAe]; exact hD0.self
  have hA : ∀ q : Nat, s.heap.size ≤ q → A q := fun q h => by rw [← hAe]; exact Or.inr h
  have hS : va_S A s.heap s.heap [] := va_S.rf
  have hl := lv_entry ([.ref aM, .int x1, .int x2, .int x3, .int x4]) (n := 8) (Nat.le_of_ble_eq_true rfl)
  rw [lg_entry_eq]
  generalize (lg_sl ([.ref aM, .int x1, .int x2, .int x3, .int x4]) ++ List.replicate (8 - (lg_sl ([.ref aM, .int x1, .int x2, .int x3, .int x4])).length) Slot.unset).toArray = ls at hl ⊢
  have hl : lv_has ls 8 [(0, .ref aM), (1, .int x1), (2, .int x2), (3, .int x3), (4, .int x4)] := hl
  generalize hQe : MQ below (kQi D cy zr A (wX9_holds cy aM qM z_vM vM_r vM_st z_vM_trial)) ([.ref aM, .int x1, .int x2, .int x3, .int x4] : List Value).toArray s 0 0 A = Q
  have L55 : ∀ (fuel : Nat) (y6_55 : Int32) (y7_55 : Int32) (vM_trial_55 : Nat → Int32) (vM_55 : Nat → Int32), ∀ (H : Heap) (locs : List Loc) (ls : Array Slot), va_P D vwCl (wX9_holds cy aM qM vM_55 vM_r vM_st vM_trial_55) H → va_D A (wX9_holds cy aM qM vM_55 vM_r vM_st vM_trial_55) → va_S A s.heap H locs → lv_has ls 8 [(0, .ref aM), (1, .int x1), (2, .int x2), (3, .int x3), (4, .int x4), (6, .int y6_55), (7, .int y7_55)] → lp (fX9_holds_B55 vM_r vM_st x1 x2 x3 x4) fuel (y6_55, y7_55, vM_trial_55, vM_55) = some (zr, z_vM, z_vM_trial) → W p l e ({ frames := 6, cells := 0, slots := 0, locals := 139 } : Room) s m ([.ref aM, .int x1, .int x2, .int x3, .int x4] : List Value).toArray below meth c H locs 0 0 Q (F0 m 55 ls []) := by
    intro fuel
    induction fuel with
    | zero => intro y6_55 y7_55 vM_trial_55 vM_55 H locs ls hP hD hS hl hok; exact (lp_0 hok).elim
    | succ fuel ih55 =>
      intro y6_55 y7_55 vM_trial_55 vM_55 H locs ls hP hD hS hl hok
      obtain ⟨y55, hok, hL55, hR55⟩ := lp_step hok
      have J117 : ∀ (y6_117 : Int32) (vM_trial_117 : Nat → Int32), ∀ (H : Heap) (locs : List Loc) (ls : Array Slot), va_P D vwCl (wX9_holds cy aM qM vM_55 vM_r vM_st vM_trial_117) H → va_D A (wX9_holds cy aM qM vM_55 vM_r vM_st vM_trial_117) → va_S A s.heap H locs → lv_has ls 8 [(0, .ref aM), (1, .int x1), (2, .int x2), (3, .int x3), (4, .int x4), (6, .int y6_117), (7, .int y7_55)] → fX9_holds_J117 y7_55 vM_55 y6_117 vM_trial_117 = some y55 → W p l e ({ frames := 6, cells := 0, slots := 0, locals := 139 } : Room) s m ([.ref aM, .int x1, .int x2, .int x3, .int x4] : List Value).toArray below meth c H locs 0 0 Q (F0 m 117 ls []) := by
        intro y6_117 vM_trial_117 H locs ls hP hD hS hl hok
        unfold fX9_holds_J117 at hok
        refine lv_iinc (v := (y7_55 + 1)) (lv' := [(7, .int (y7_55 + 1)), (0, .ref aM), (1, .int x1), (2, .int x2), (3, .int x3), (4, .int x4), (6, .int y6_117)]) hx hb dX9_holds_117 hl (k := 6) rfl (by first | rfl | decide) (by decide) rfl (fun ls hl => ?_)
        refine lv_goto (tgt := 55) hx hb dX9_holds_120 (by decide) ?_
        exact ih55 y6_117 (y7_55 + 1) vM_trial_117 vM_55 H locs ls hP hD hS (lv_sub hl [1, 2, 3, 4, 5, 6, 0] rfl) (hR55 _ (Option.some.inj hok).symm)
      have J95 : ∀ (H : Heap) (locs : List Loc) (ls : Array Slot), va_P D vwCl (wX9_holds cy aM qM vM_55 vM_r vM_st vM_trial_55) H → va_D A (wX9_holds cy aM qM vM_55 vM_r vM_st vM_trial_55) → va_S A s.heap H locs → lv_has ls 8 [(0, .ref aM), (1, .int x1), (2, .int x2), (3, .int x3), (4, .int x4), (6, .int y6_55), (7, .int y7_55)] → fX9_holds_J95 vM_r vM_st x1 x2 x3 x4 y6_55 y7_55 vM_trial_55 vM_55 = some y55 → W p l e ({ frames := 6, cells := 0, slots := 0, locals := 139 } : Room) s m ([.ref aM, .int x1, .int x2, .int x3, .int x4] : List Value).toArray below meth c H locs 0 0 Q (F0 m 95 ls []) := by
        intro  H locs ls hP hD hS hl hok
        unfold fX9_holds_J95 at hok
        refine lv_aload_n hx hb dX9_holds_95 rfl (lv_at hl 0 rfl) ?_
        refine lv_iload hx hb dX9_holds_96 (lv_at hl 6 rfl) ?_
        refine lv_iload_n hx hb dX9_holds_98 rfl (lv_at hl 1 rfl) ?_
        refine lv_bipush (v := 9) hx hb dX9_holds_99 (by decide) ?_
        refine lv_iload_n hx hb dX9_holds_101 rfl (lv_at hl 2 rfl) ?_
        refine lv_imul hx hb dX9_holds_102 ?_
        refine lv_iload_n hx hb dX9_holds_103 rfl (lv_at hl 3 rfl) ?_
        refine lv_iadd hx hb dX9_holds_104 ?_
        refine lv_iload hx hb dX9_holds_105 (lv_at hl 4 rfl) ?_
        obtain ⟨⟨r107, vM_trial_107⟩, hc107, hok⟩ := k_bind hok
        try dsimp only at hok
        refine kCi (wc := (wX9_isThereBy cy aM qM vM_55 vM_st vM_trial_55 vM_r)) (wc2 := (wX9_isThereBy cy aM qM vM_55 vM_st vM_trial_107 vM_r)) (wr := []) (ws2 := (wX9_holds cy aM qM vM_55 vM_r vM_st vM_trial_107)) (kRunV (As := [.int y7_55, .int x1, .int (((9 : Int32) * x2) + x3), .int x4]) (rest := []) ⟨hx, hb, hml, hown, ht0⟩ (kX9_isThereBy l D cy _ aM qM vM_55 vM_st vM_trial_55 vM_r y7_55 x1 (((9 : Int32) * x2) + x3) x4 r107 vM_trial_107 hc107 _ rfl) (cwV 4 ht0 (gV wd962 wd963 wd964 wd744 wd965) rfl rfl rfl (by decide +kernel) ⟨Nat.le_of_ble_eq_true rfl, Nat.le_of_ble_eq_true rfl⟩) hK hN hP hD [0, 2, 3, 1] rfl (by decide) 0 8 rfl rfl rfl hl.1 rfl (Nat.le_of_ble_eq_true rfl) dX9_holds_107 ⟨Nat.zero_le _, Nat.zero_le _⟩) hP hD hS hA [0, 2, 3, 1] [] rfl rfl (by decide) (by decide) [0, 3, 1, 2] (by decide) rfl rfl (fun H locs hP hD hS => ?_)
        refine lv_if_eq (tgt := 117) hx hb dX9_holds_110 (by decide) (fun c110 => ?_) (fun c110 => ?_)
        · have hok := k_pos c110 hok
          exact J117 y6_55 vM_trial_107 H locs ls hP hD hS (lv_sub hl [0, 1, 2, 3, 4, 5, 6] rfl) hok
        · have hok := k_neg c110 hok
          refine lv_iload hx hb dX9_holds_113 (lv_at hl 6 rfl) ?_
          refine lv_istore (lv' := [(6, .int y7_55), (0, .ref aM), (1, .int x1), (2, .int x2), (3, .int x3), (4, .int x4), (7, .int y7_55)]) hx hb dX9_holds_115 hl (by decide) rfl (fun ls hl => ?_)
          exact J117 y7_55 vM_trial_107 H locs ls hP hD hS (lv_sub hl [1, 2, 3, 4, 5, 0, 6] rfl) hok
      unfold fX9_holds_B55 at hok
      try dsimp only at hok
      refine lv_iload hx hb dX9_holds_55 (lv_at hl 6 rfl) ?_
      refine lv_aload_n hx hb dX9_holds_57 rfl (lv_at hl 0 rfl) ?_
      obtain ⟨r58, hc58, hok⟩ := k_bind hok
      refine kCi (wc := (wX9_allThings cy aM qM vM_55 vM_r)) (wc2 := (wX9_allThings cy aM qM vM_55 vM_r)) (wr := [(qM 17, rI cy 9 vM_st), (qM 22, rI cy 9 vM_trial_55)]) (ws2 := (wX9_holds cy aM qM vM_55 vM_r vM_st vM_trial_55)) (kRunV (As := []) (rest := [.int y7_55]) ⟨hx, hb, hml, hown, ht0⟩ (kX9_allThings l D cy _ aM qM vM_55 vM_r r58 hc58 _ rfl) (cwV 0 ht0 (gV wd966 wd967 wd968 wd744 wd969) rfl rfl rfl (by decide +kernel) ⟨Nat.le_of_ble_eq_true rfl, Nat.le_of_ble_eq_true rfl⟩) hK hN hP hD [0, 1] rfl (by decide) 0 8 rfl rfl rfl hl.1 rfl (Nat.le_of_ble_eq_true rfl) dX9_holds_58 ⟨Nat.zero_le _, Nat.zero_le _⟩) hP hD hS hA [0, 1] [2, 3] rfl rfl (by decide) (by decide) [2, 3, 0, 1] (by decide) rfl rfl (fun H locs hP hD hS => ?_)
      refine lv_icmp_gt (tgt := 123) hx hb dX9_holds_61 (by decide) (fun c61 => ?_) (fun c61 => ?_)
      · have hok := k_pos c61 hok
        obtain ⟨e55, hok, he55⟩ := ex_some hok
        have hok := hok.trans (congrArg some (hL55 _ he55))
        refine lv_iload hx hb dX9_holds_123 (lv_at hl 5 rfl) ?_
        cases hok
        subst hQe; exact W.iret hx hb hr (fun t ht hW => ⟨⟨_, (), rfl, rfl, by rw [ht]; exact hP, va_K.moved hW.alike hK, hD⟩, hS.F ht⟩) hS.2.2 dX9_holds_125
      · have hok := k_neg c61 hok
        refine lv_iload hx hb dX9_holds_64 (lv_at hl 6 rfl) ?_
        refine lv_aload_n hx hb dX9_holds_66 rfl (lv_at hl 0 rfl) ?_
        refine va_get (D := D) (ci := 8) (v := .ref (qM 17)) (C := RX9) (T := TX9) (N := 29) hx hb ht0 niX9 hown hK hP 0 rfl rfl 17 (by decide) (ht0 _ wd858) (fun _ h9 => h9) rfl dX9_holds_67 ?_
        refine lv_bipush (v := 7) hx hb dX9_holds_70 (by decide) ?_
        obtain ⟨g72, hok⟩ := gd_some hok
        refine va_iald hx hb hK hP 2 0 rfl rfl (okI_in g72) dX9_holds_72 ?_
        refine lv_iand hx hb dX9_holds_73 ?_
        refine lv_if_ne (tgt := 117) hx hb dX9_holds_74 (by decide) (fun c74 => ?_) (fun c74 => ?_)
        · have hok := k_neg c74 hok
          exact J117 y6_55 vM_trial_55 H locs ls hP hD hS (lv_sub hl [0, 1, 2, 3, 4, 5, 6] rfl) hok
        · have hok := k_pos c74 hok
          refine lv_iload hx hb dX9_holds_77 (lv_at hl 5 rfl) ?_
          refine lv_if_lt (tgt := 95) hx hb dX9_holds_79 (by decide) (fun c79 => ?_) (fun c79 => ?_)
          · have hok := k_pos c79 hok
            exact J95  H locs ls hP hD hS (lv_sub hl [0, 1, 2, 3, 4, 5, 6] rfl) hok
          · have hok := k_neg c79 hok
            refine lv_iload hx hb dX9_holds_82 (lv_at hl 6 rfl) ?_
            obtain ⟨r84, hc84, hok⟩ := k_bind hok
            refine kCi (wc := (wX9_ones cy )) (wc2 := (wX9_ones cy )) (wr := [(aM, oX9 vM_55 qM), (qM 15, rI cy 224 vM_r), (qM 17, rI cy 9 vM_st), (qM 22, rI cy 9 vM_trial_55)]) (ws2 := (wX9_holds cy aM qM vM_55 vM_r vM_st vM_trial_55)) (kRunS (As := [.int y7_55]) (rest := []) ⟨hx, hb, hml, hown, ht0⟩ (kX9_ones l D cy _ y7_55 r84 hc84 _ rfl) (va_cwS 1 ht0 (gS wd922 wd923 wd744 wd924) rfl rfl rfl (by decide +kernel) ⟨Nat.le_of_ble_eq_true rfl, Nat.le_of_ble_eq_true rfl⟩) hK hN hP hD [] rfl (by decide) rfl hl.1 rfl (Nat.le_of_ble_eq_true rfl) dX9_holds_84 ⟨Nat.zero_le _, Nat.zero_le _⟩) hP hD hS hA [] [0, 1, 2, 3] rfl rfl (by decide) (by decide) [0, 1, 2, 3] (by decide) rfl rfl (fun H locs hP hD hS => ?_)
            refine lv_iload hx hb dX9_holds_87 (lv_at hl 5 rfl) ?_
            obtain ⟨r89, hc89, hok⟩ := k_bind hok
            refine kCi (wc := (wX9_ones cy )) (wc2 := (wX9_ones cy )) (wr := [(aM, oX9 vM_55 qM), (qM 15, rI cy 224 vM_r), (qM 17, rI cy 9 vM_st), (qM 22, rI cy 9 vM_trial_55)]) (ws2 := (wX9_holds cy aM qM vM_55 vM_r vM_st vM_trial_55)) (kRunS (As := [.int y6_55]) (rest := [.int r84]) ⟨hx, hb, hml, hown, ht0⟩ (kX9_ones l D cy _ y6_55 r89 hc89 _ rfl) (va_cwS 1 ht0 (gS wd922 wd923 wd744 wd924) rfl rfl rfl (by decide +kernel) ⟨Nat.le_of_ble_eq_true rfl, Nat.le_of_ble_eq_true rfl⟩) hK hN hP hD [] rfl (by decide) rfl hl.1 rfl (Nat.le_of_ble_eq_true rfl) dX9_holds_89 ⟨Nat.zero_le _, Nat.zero_le _⟩) hP hD hS hA [] [0, 1, 2, 3] rfl rfl (by decide) (by decide) [0, 1, 2, 3] (by decide) rfl rfl (fun H locs hP hD hS => ?_)
            refine lv_icmp_ge (tgt := 117) hx hb dX9_holds_92 (by decide) (fun c92 => ?_) (fun c92 => ?_)
            · have hok := k_pos c92 hok
              exact J117 y6_55 vM_trial_55 H locs ls hP hD hS (lv_sub hl [0, 1, 2, 3, 4, 5, 6] rfl) hok
            · have hok := k_neg c92 hok
              exact J95  H locs ls hP hD hS (lv_sub hl [0, 1, 2, 3, 4, 5, 6] rfl) hok
  have J27 : ∀ (t0_27 : Int32) (vM_27 : Nat → Int32), ∀ (H : Heap) (locs : List Loc) (ls : Array Slot), va_P D vwCl (wX9_holds cy aM qM vM_27 vM_r vM_st vM_trial) H → va_D A (wX9_holds cy aM qM vM_27 vM_r vM_st vM_trial) → va_S A s.heap H locs → lv_has ls 8 [(0, .ref aM), (1, .int x1), (2, .int x2), (3, .int x3), (4, .int x4)] → fX9_holds_J27 vM_r vM_st vM_trial x1 x2 x3 x4 t0_27 vM_27 = some (zr, z_vM, z_vM_trial) → W p l e ({ frames := 6, cells := 0, slots := 0, locals := 139 } : Room) s m ([.ref aM, .int x1, .int x2, .int x3, .int x4] : List Value).toArray below meth c H locs 0 0 Q (F0 m 27 ls [.int t0_27, .ref aM]) := by
    intro t0_27 vM_27 H locs ls hP hD hS hl hok
    unfold fX9_holds_J27 at hok
    refine lv_iload hx hb dX9_holds_27 (lv_at hl 4 rfl) ?_
    refine lv_bipush (v := 30) hx hb dX9_holds_29 (by decide) ?_
    obtain ⟨r31, hc31, hok⟩ := k_bind hok
    refine kCi (wc := (wX9_why cy aM)) (wc2 := (wX9_why cy aM)) (wr := [(aM, oX9 vM_27 qM), (qM 15, rI cy 224 vM_r), (qM 17, rI cy 9 vM_st), (qM 22, rI cy 9 vM_trial)]) (ws2 := (wX9_holds cy aM qM vM_27 vM_r vM_st vM_trial)) (kRunV (As := [.int t0_27, .int x4, .int 30]) (rest := []) ⟨hx, hb, hml, hown, ht0⟩ (kX9_why l D cy _ aM t0_27 x4 (30 : Int32) r31 hc31 _ rfl) (cwV 3 ht0 (gV wd944 wd945 wd946 wd744 wd947) rfl rfl rfl (by decide +kernel) ⟨Nat.le_of_ble_eq_true rfl, Nat.le_of_ble_eq_true rfl⟩) hK hN hP hD [] rfl (by decide) 0 8 rfl rfl rfl hl.1 rfl (Nat.le_of_ble_eq_true rfl) dX9_holds_31 ⟨Nat.zero_le _, Nat.zero_le _⟩) hP hD hS hA [] [0, 1, 2, 3] rfl rfl (by decide) (by decide) [0, 1, 2, 3] (by decide) rfl rfl (fun H locs hP hD hS => ?_)
    refine lv_istore (lv' := [(5, .int r31), (0, .ref aM), (1, .int x1), (2, .int x2), (3, .int x3), (4, .int x4)]) hx hb dX9_holds_34 hl (by decide) rfl (fun ls hl => ?_)
    refine lv_iload hx hb dX9_holds_36 (lv_at hl 0 rfl) ?_
    refine lv_if_eq (tgt := 48) hx hb dX9_holds_38 (by decide) (fun c38 => ?_) (fun c38 => ?_)
    · have hok := k_pos c38 hok
      refine lv_bipush (v := -2) hx hb dX9_holds_48 (by decide) ?_
      refine lv_istore (lv' := [(6, .int (-2)), (5, .int r31), (0, .ref aM), (1, .int x1), (2, .int x2), (3, .int x3), (4, .int x4)]) hx hb dX9_holds_50 hl (by decide) rfl (fun ls hl => ?_)
      refine lv_iconst (v := 0) hx hb dX9_holds_52 (by decide) ?_
      refine lv_istore (lv' := [(7, .int 0), (6, .int (-2)), (5, .int r31), (0, .ref aM), (1, .int x1), (2, .int x2), (3, .int x3), (4, .int x4)]) hx hb dX9_holds_53 hl (by decide) rfl (fun ls hl => ?_)
      exact L55 5000 (-2 : Int32) (0 : Int32) vM_trial vM_27 H locs ls hP hD hS (lv_sub hl [3, 4, 5, 6, 7, 1, 0] rfl) hok
    · have hok := k_neg c38 hok
      refine lv_aload_n hx hb dX9_holds_41 rfl (lv_at hl 1 rfl) ?_
      refine lv_iload hx hb dX9_holds_42 (lv_at hl 0 rfl) ?_
      obtain ⟨⟨r44, vM_44⟩, hc44, hok⟩ := k_bind hok
      try dsimp only at hok
      refine kCi (wc := (wX9_no cy aM qM vM_27)) (wc2 := (wX9_no cy aM qM vM_44)) (wr := [(qM 15, rI cy 224 vM_r), (qM 17, rI cy 9 vM_st), (qM 22, rI cy 9 vM_trial)]) (ws2 := (wX9_holds cy aM qM vM_44 vM_r vM_st vM_trial)) (kRunV (As := [.int r31]) (rest := []) ⟨hx, hb, hml, hown, ht0⟩ (kX9_no l D cy _ aM qM vM_27 r31 r44 vM_44 hc44 _ rfl) (cwV 1 ht0 (gV wd862 wd863 wd864 wd744 wd865) rfl rfl rfl (by decide +kernel) ⟨Nat.le_of_ble_eq_true rfl, Nat.le_of_ble_eq_true rfl⟩) hK hN hP hD [0] rfl (by decide) 0 8 rfl rfl rfl hl.1 rfl (Nat.le_of_ble_eq_true rfl) dX9_holds_44 ⟨Nat.zero_le _, Nat.zero_le _⟩) hP hD hS hA [0] [1, 2, 3] rfl rfl (by decide) (by decide) [3, 0, 1, 2] (by decide) rfl rfl (fun H locs hP hD hS => ?_)
      cases hok
      subst hQe; exact W.iret hx hb hr (fun t ht hW => ⟨⟨_, (), rfl, rfl, by rw [ht]; exact hP, va_K.moved hW.alike hK, hD⟩, hS.F ht⟩) hS.2.2 dX9_holds_47
  have J26 : ∀ (vM_26 : Nat → Int32), ∀ (H : Heap) (locs : List Loc) (ls : Array Slot), va_P D vwCl (wX9_holds cy aM qM vM_26 vM_r vM_st vM_trial) H → va_D A (wX9_holds cy aM qM vM_26 vM_r vM_st vM_trial) → va_S A s.heap H locs → lv_has ls 8 [(0, .ref aM), (1, .int x1), (2, .int x2), (3, .int x3), (4, .int x4)] → fX9_holds_J26 vM_r vM_st vM_trial x1 x2 x3 x4 vM_26 = some (zr, z_vM, z_vM_trial) → W p l e ({ frames := 6, cells := 0, slots := 0, locals := 139 } : Room) s m ([.ref aM, .int x1, .int x2, .int x3, .int x4] : List Value).toArray below meth c H locs 0 0 Q (F0 m 26 ls [.ref aM]) := by
    intro vM_26 H locs ls hP hD hS hl hok
    unfold fX9_holds_J26 at hok
    refine lv_iconst (v := 0) hx hb dX9_holds_26 (by decide) ?_
    exact J27 (0 : Int32) vM_26 H locs ls hP hD hS (lv_sub hl [0, 1, 2, 3, 4] rfl) hok
  unfold fX9_holds at hok
  obtain ⟨H, hH⟩ : ∃ H, H = s.heap := ⟨_, rfl⟩
  obtain ⟨locs, hlc⟩ : ∃ x : List Loc, x = [] := ⟨_, rfl⟩
  have hP : va_P D vwCl (wX9_holds cy aM qM vM vM_r vM_st vM_trial) H := by rw [hH]; exact hP
  have hS : va_S A s.heap H locs := by rw [hH, hlc]; exact hS
  rw [show W p l e _ s m _ below meth c s.heap [] = W p l e _ s m _ below meth c H locs from by rw [hH, hlc]]
  refine lv_aload_n hx hb dX9_holds_0 rfl (lv_at hl 0 rfl) ?_
  obtain ⟨vM_1, hc1, hok⟩ := k_bind hok
  refine kCv (wc := (wX9_good cy aM qM vM)) (wc2 := (wX9_good cy aM qM vM_1)) (wr := [(qM 15, rI cy 224 vM_r), (qM 17, rI cy 9 vM_st), (qM 22, rI cy 9 vM_trial)]) (ws2 := (wX9_holds cy aM qM vM_1 vM_r vM_st vM_trial)) (kRunV (As := []) (rest := []) ⟨hx, hb, hml, hown, ht0⟩ (kX9_good l D cy _ aM qM vM vM_1 hc1 _ rfl) (cwV 0 ht0 (gV wd870 wd871 wd872 wd744 wd873) rfl rfl rfl (by decide +kernel) ⟨Nat.le_of_ble_eq_true rfl, Nat.le_of_ble_eq_true rfl⟩) hK hN hP hD [0] rfl (by decide) 0 8 rfl rfl rfl hl.1 rfl (Nat.le_of_ble_eq_true rfl) dX9_holds_1 ⟨Nat.zero_le _, Nat.zero_le _⟩) hP hD hS hA [0] [1, 2, 3] rfl rfl (by decide) (by decide) [3, 0, 1, 2] (by decide) rfl rfl (fun H locs hP hD hS => ?_)
  refine lv_aload_n hx hb dX9_holds_4 rfl (lv_at hl 0 rfl) ?_
  refine lv_aload_n hx hb dX9_holds_5 rfl (lv_at hl 0 rfl) ?_
  refine lv_iload_n hx hb dX9_holds_6 rfl (lv_at hl 1 rfl) ?_
  obtain ⟨r7, hc7, hok⟩ := k_bind hok
  refine kCi (wc := (wX9_isThing cy aM qM vM_1 vM_r)) (wc2 := (wX9_isThing cy aM qM vM_1 vM_r)) (wr := [(qM 17, rI cy 9 vM_st), (qM 22, rI cy 9 vM_trial)]) (ws2 := (wX9_holds cy aM qM vM_1 vM_r vM_st vM_trial)) (kRunV (As := [.int x1]) (rest := [.ref aM]) ⟨hx, hb, hml, hown, ht0⟩ (kX9_isThing l D cy _ aM qM vM_1 vM_r x1 r7 hc7 _ rfl) (cwV 1 ht0 (gV wd925 wd926 wd927 wd744 wd928) rfl rfl rfl (by decide +kernel) ⟨Nat.le_of_ble_eq_true rfl, Nat.le_of_ble_eq_true rfl⟩) hK hN hP hD [0, 1] rfl (by decide) 0 8 rfl rfl rfl hl.1 rfl (Nat.le_of_ble_eq_true rfl) dX9_holds_7 ⟨Nat.zero_le _, Nat.zero_le _⟩) hP hD hS hA [0, 1] [2, 3] rfl rfl (by decide) (by decide) [2, 3, 0, 1] (by decide) rfl rfl (fun H locs hP hD hS => ?_)
  refine lv_if_eq (tgt := 26) hx hb dX9_holds_10 (by decide) (fun c10 => ?_) (fun c10 => ?_)
  · have hok := k_pos c10 hok
    exact J26 vM_1 H locs ls hP hD hS (lv_sub hl [0, 1, 2, 3, 4] rfl) hok
  · have hok := k_neg c10 hok
    refine lv_aload_n hx hb dX9_holds_13 rfl (lv_at hl 0 rfl) ?_
    refine lv_iload_n hx hb dX9_holds_14 rfl (lv_at hl 2 rfl) ?_
    refine lv_iload_n hx hb dX9_holds_15 rfl (lv_at hl 3 rfl) ?_
    obtain ⟨r16, hc16, hok⟩ := k_bind hok
    refine kCi (wc := (wX9_isPlace cy aM qM vM_1 vM_r)) (wc2 := (wX9_isPlace cy aM qM vM_1 vM_r)) (wr := [(qM 17, rI cy 9 vM_st), (qM 22, rI cy 9 vM_trial)]) (ws2 := (wX9_holds cy aM qM vM_1 vM_r vM_st vM_trial)) (kRunV (As := [.int x2, .int x3]) (rest := [.ref aM]) ⟨hx, hb, hml, hown, ht0⟩ (kX9_isPlace l D cy _ aM qM vM_1 vM_r x2 x3 r16 hc16 _ rfl) (cwV 2 ht0 (gV wd929 wd930 wd931 wd744 wd932) rfl rfl rfl (by decide +kernel) ⟨Nat.le_of_ble_eq_true rfl, Nat.le_of_ble_eq_true rfl⟩) hK hN hP hD [0, 1] rfl (by decide) 0 8 rfl rfl rfl hl.1 rfl (Nat.le_of_ble_eq_true rfl) dX9_holds_16 ⟨Nat.zero_le _, Nat.zero_le _⟩) hP hD hS hA [0, 1] [2, 3] rfl rfl (by decide) (by decide) [2, 3, 0, 1] (by decide) rfl rfl (fun H locs hP hD hS => ?_)
    refine lv_if_eq (tgt := 26) hx hb dX9_holds_19 (by decide) (fun c19 => ?_) (fun c19 => ?_)
    · have hok := k_pos c19 hok
      exact J26 vM_1 H locs ls hP hD hS (lv_sub hl [0, 1, 2, 3, 4] rfl) hok
    · have hok := k_neg c19 hok
      refine lv_iconst (v := 1) hx hb dX9_holds_22 (by decide) ?_
      refine lv_goto (tgt := 27) hx hb dX9_holds_23 (by decide) ?_
      exact J27 (1 : Int32) vM_1 H locs ls hP hD hS (lv_sub hl [0, 1, 2, 3, 4] rfl) hok
def wsX9_putFor : List Cond := .code yX9_putFor cX9_putFor 8 (some .int) :: W0
abbrev wX9_putFor (cy : Nat → ClassId) (aM : Nat) (qM : Nat → Nat) (vM : Nat → Int32) (vM_r : Nat → Int32) (vM_st : Nat → Int32) (vM_trial : Nat → Int32) : va_W := [(aM, oX9 vM qM), (qM 15, rI cy 224 vM_r), (qM 17, rI cy 9 vM_st), (qM 22, rI cy 9 vM_trial)]
set_option maxHeartbeats 4000000 in
set_option maxRecDepth 100000 in
theorem kX9_putFor (l : Launch) (D : va_G) (cy : Nat → ClassId) (sz : Nat) (aM : Nat) (qM : Nat → Nat) (vM : Nat → Int32) (vM_r : Nat → Int32) (vM_st : Nat → Int32) (vM_trial : Nat → Int32) (x1 : Int32) (x2 : Int32) (x3 : Int32) (zr : Int32) (z_vM : Nat → Int32) (z_vM_trial : Nat → Int32) (hok : fX9_putFor vM vM_r vM_st vM_trial x1 x2 x3 = some (zr, z_vM, z_vM_trial)) (A : Nat → Prop) (hAe : va_A (wX9_putFor cy aM qM vM vM_r vM_st vM_trial) sz = A) : Met l yX9_putFor wsX9_putFor ({ frames := 5, cells := 0, slots := 0, locals := 114 } : Room) (kPre D cy [.ref aM, .int x1, .int x2, .int x3] (wX9_putFor cy aM qM vM vM_r vM_st vM_trial) sz) (kQi D cy zr A (wX9_putFor cy aM qM z_vM vM_r vM_st z_vM_trial)) 0 0 A := by
  refine Met.ofW (cc := cX9_putFor) (maxL := 8) (ret := (some .int)) (by decide) rfl ?_
  intro p e s m args below meth c s₁ B hml hv
  obtain ⟨rfl, hsz, hP, hK, hD0, hN⟩ := hv
  have hx := B.exec
  have hb := B.bytes
  have hr := B.returns
  have ht0 : ∀ w ∈ W0, w.before _ s = true := fun w h => atoms_spec (ws := wsX9_putFor) B.pre w (List.mem_cons_of_mem _ h)
  have hown : s.vm.findClass RX9 = some m.cls := findClass_of_methodNamed B.named
  have hlocks := B.notSynchronized
  subst hsz
  have hD : va_D A (wX9_putFor cy aM qM vM vM_r vM_st vM_trial) := by rw [← hAe]; exact hD0.self
  have hA : ∀ q : Nat, s.heap.size ≤ q → A q := fun q h => by rw [← hAe]; exact Or.inr h
  have hS : va_S A s.heap s.heap [] := va_S.rf
  have hl := lv_entry ([.ref aM, .int x1, .int x2, .int x3]) (n := 8) (Nat.le_of_ble_eq_true rfl)
  rw [lg_entry_eq]
  generalize (lg_sl ([.ref aM, .int x1, .int x2, .int x3]) ++ List.replicate (8 - (lg_sl ([.ref aM, .int x1, .int x2, .int x3])).length) Slot.unset).toArray = ls at hl ⊢
  have hl : lv_has ls 8 [(0, .ref aM), (1, .int x1), (2, .int x2), (3, .int x3)] := hl
  generalize hQe : MQ below (kQi D cy zr A (wX9_putFor cy aM qM z_vM vM_r vM_st z_vM_trial)) ([.ref aM, .int x1, .int x2, .int x3] : List Value).toArray s 0 0 A = Q
  have L65 : ∀ (fuel : Nat) (y5_65 : Int32) (vM_trial_65 : Nat → Int32) (vM_65 : Nat → Int32), ∀ (H : Heap) (locs : List Loc) (ls : Array Slot), va_P D vwCl (wX9_putFor cy aM qM vM_65 vM_r vM_st vM_trial_65) H → va_D A (wX9_putFor cy aM qM vM_65 vM_r vM_st vM_trial_65) → va_S A s.heap H locs → lv_has ls 8 [(0, .ref aM), (1, .int x1), (2, .int x2), (3, .int x3), (4, .int ((vM_st x1.toNatClampNeg) / (9 : Int32))), (5, .int y5_65)] → lp (fX9_putFor_B65 vM_r vM_st x1 x2 x3) fuel (y5_65, vM_trial_65, vM_65) = some (zr, z_vM, z_vM_trial) → W p l e ({ frames := 5, cells := 0, slots := 0, locals := 114 } : Room) s m ([.ref aM, .int x1, .int x2, .int x3] : List Value).toArray below meth c H locs 0 0 Q (F0 m 65 ls []) := by
    intro fuel
    induction fuel with
    | zero => intro y5_65 vM_trial_65 vM_65 H locs ls hP hD hS hl hok; exact (lp_0 hok).elim
    | succ fuel ih65 =>
      intro y5_65 vM_trial_65 vM_65 H locs ls hP hD hS hl hok
      obtain ⟨y65, hok, hL65, hR65⟩ := lp_step hok
      have J169 : ∀ (vM_trial_169 : Nat → Int32), ∀ (H : Heap) (locs : List Loc) (ls : Array Slot), va_P D vwCl (wX9_putFor cy aM qM vM_65 vM_r vM_st vM_trial_169) H → va_D A (wX9_putFor cy aM qM vM_65 vM_r vM_st vM_trial_169) → va_S A s.heap H locs → lv_has ls 8 [(0, .ref aM), (1, .int x1), (2, .int x2), (3, .int x3), (4, .int ((vM_st x1.toNatClampNeg) / (9 : Int32))), (5, .int y5_65)] → fX9_putFor_J169 y5_65 vM_65 vM_trial_169 = some y65 → W p l e ({ frames := 5, cells := 0, slots := 0, locals := 114 } : Room) s m ([.ref aM, .int x1, .int x2, .int x3] : List Value).toArray below meth c H locs 0 0 Q (F0 m 169 ls []) := by
        intro vM_trial_169 H locs ls hP hD hS hl hok
        unfold fX9_putFor_J169 at hok
        refine lv_iinc (v := (y5_65 + 1)) (lv' := [(5, .int (y5_65 + 1)), (0, .ref aM), (1, .int x1), (2, .int x2), (3, .int x3), (4, .int ((vM_st x1.toNatClampNeg) / (9 : Int32)))]) hx hb dX9_putFor_169 hl (k := 5) rfl (by first | rfl | decide) (by decide) rfl (fun ls hl => ?_)
        refine lv_goto (tgt := 65) hx hb dX9_putFor_172 (by decide) ?_
        exact ih65 (y5_65 + 1) vM_trial_169 vM_65 H locs ls hP hD hS (lv_sub hl [1, 2, 3, 4, 5, 0] rfl) (hR65 _ (Option.some.inj hok).symm)
      have L129 : ∀ (fuel : Nat) (y7_129 : Int32) (vM_trial_129 : Nat → Int32), ∀ (H : Heap) (locs : List Loc) (ls : Array Slot), va_P D vwCl (wX9_putFor cy aM qM vM_65 vM_r vM_st vM_trial_129) H → va_D A (wX9_putFor cy aM qM vM_65 vM_r vM_st vM_trial_129) → va_S A s.heap H locs → lv_has ls 8 [(0, .ref aM), (1, .int x1), (2, .int x2), (3, .int x3), (4, .int ((vM_st x1.toNatClampNeg) / (9 : Int32))), (5, .int y5_65), (7, .int y7_129)] → lp (fX9_putFor_B129 vM_r vM_st x1 x2 x3 y5_65 vM_65) fuel (y7_129, vM_trial_129) = some y65 → W p l e ({ frames := 5, cells := 0, slots := 0, locals := 114 } : Room) s m ([.ref aM, .int x1, .int x2, .int x3] : List Value).toArray below meth c H locs 0 0 Q (F0 m 129 ls []) := by
        intro fuel
        induction fuel with
        | zero => intro y7_129 vM_trial_129 H locs ls hP hD hS hl hok; exact (lp_0 hok).elim
        | succ fuel ih129 =>
          intro y7_129 vM_trial_129 H locs ls hP hD hS hl hok
          obtain ⟨y129, hok, hL129, hR129⟩ := lp_step hok
          unfold fX9_putFor_B129 at hok
          try dsimp only at hok
          refine lv_iload hx hb dX9_putFor_129 (lv_at hl 6 rfl) ?_
          refine lv_iload_n hx hb dX9_putFor_131 rfl (lv_at hl 3 rfl) ?_
          refine lv_icmp_ge (tgt := 150) hx hb dX9_putFor_132 (by decide) (fun c132 => ?_) (fun c132 => ?_)
          · have hok := k_pos c132 hok
            obtain ⟨e129, hok, he129⟩ := ex_some hok
            have hok := hok.trans (congrArg some (hL129 _ he129))
            refine lv_aload_n hx hb dX9_putFor_150 rfl (lv_at hl 0 rfl) ?_
            refine va_get (D := D) (ci := 8) (v := .ref (qM 22)) (C := RX9) (T := TX9) (N := 29) hx hb ht0 niX9 hown hK hP 0 rfl rfl 22 (by decide) (ht0 _ wd921) (fun _ h9 => h9) rfl dX9_putFor_151 ?_
            refine lv_iload_n hx hb dX9_putFor_154 rfl (lv_at hl 1 rfl) ?_
            obtain ⟨g155, hok⟩ := gd_some hok
            refine va_iald hx hb hK hP 3 0 rfl rfl (okI_in g155) dX9_putFor_155 ?_
            refine lv_bipush (v := 9) hx hb dX9_putFor_156 (by decide) ?_
            refine lv_iload hx hb dX9_putFor_158 (lv_at hl 4 rfl) ?_
            refine lv_imul hx hb dX9_putFor_160 ?_
            refine lv_iload_n hx hb dX9_putFor_161 rfl (lv_at hl 2 rfl) ?_
            refine lv_iadd hx hb dX9_putFor_162 ?_
            refine lv_icmp_ne (tgt := 169) hx hb dX9_putFor_163 (by decide) (fun c163 => ?_) (fun c163 => ?_)
            · have hok := k_neg c163 hok
              exact J169 vM_trial_129 H locs ls hP hD hS (lv_sub hl [0, 1, 2, 3, 4, 5] rfl) hok
            · have hok := k_pos c163 hok
              obtain ⟨e65, hok, he65⟩ := ex_some hok
              have hok := hok.trans (congrArg some (hL65 _ he65))
              refine lv_iload hx hb dX9_putFor_166 (lv_at hl 5 rfl) ?_
              cases hok
              subst hQe; exact W.iret hx hb hr (fun t ht hW => ⟨⟨_, (), rfl, rfl, by rw [ht]; exact hP, va_K.moved hW.alike hK, hD⟩, hS.F ht⟩) hS.2.2 dX9_putFor_168
          · have hok := k_neg c132 hok
            refine lv_aload_n hx hb dX9_putFor_135 rfl (lv_at hl 0 rfl) ?_
            refine lv_aload_n hx hb dX9_putFor_136 rfl (lv_at hl 0 rfl) ?_
            refine va_get (D := D) (ci := 8) (v := .ref (qM 22)) (C := RX9) (T := TX9) (N := 29) hx hb ht0 niX9 hown hK hP 0 rfl rfl 22 (by decide) (ht0 _ wd921) (fun _ h9 => h9) rfl dX9_putFor_137 ?_
            obtain ⟨⟨r140, p1_140⟩, hc140, hok⟩ := k_bind hok
            try dsimp only at hok
            refine kCi (wc := (wX9_nightOf cy aM (qM 22) qM vM_65 vM_r 9 vM_trial_129)) (wc2 := (wX9_nightOf cy aM (qM 22) qM vM_65 vM_r 9 p1_140)) (wr := [(qM 17, rI cy 9 vM_st)]) (ws2 := (wX9_putFor cy aM qM vM_65 vM_r vM_st p1_140)) (kRunV (As := [.ref (qM 22)]) (rest := []) ⟨hx, hb, hml, hown, ht0⟩ (kX9_nightOf l D cy _ aM (qM 22) qM vM_65 vM_r 9 vM_trial_129 r140 p1_140 hc140 _ rfl) (cwV 1 ht0 (gV wd940 wd941 wd942 wd744 wd943) rfl rfl rfl (by decide +kernel) ⟨Nat.le_of_ble_eq_true rfl, Nat.le_of_ble_eq_true rfl⟩) hK hN hP hD [0, 1, 3] rfl (by decide) 0 8 rfl rfl rfl hl.1 rfl (Nat.le_of_ble_eq_true rfl) dX9_putFor_140 ⟨Nat.zero_le _, Nat.zero_le _⟩) hP hD hS hA [0, 1, 3] [2] rfl rfl (by decide) (by decide) [1, 2, 0, 3] (by decide) rfl rfl (fun H locs hP hD hS => ?_)
            refine lv_pop hx hb dX9_putFor_143 rfl ?_
            refine lv_iinc (v := (y7_129 + 1)) (lv' := [(7, .int (y7_129 + 1)), (0, .ref aM), (1, .int x1), (2, .int x2), (3, .int x3), (4, .int ((vM_st x1.toNatClampNeg) / (9 : Int32))), (5, .int y5_65)]) hx hb dX9_putFor_144 hl (k := 6) rfl (by first | rfl | decide) (by decide) rfl (fun ls hl => ?_)
            refine lv_goto (tgt := 129) hx hb dX9_putFor_147 (by decide) ?_
            exact ih129 (y7_129 + 1) p1_140 H locs ls hP hD hS (lv_sub hl [1, 2, 3, 4, 5, 6, 0] rfl) (hR129 _ (Option.some.inj hok).symm)
      have J108 : ∀ (H : Heap) (locs : List Loc) (ls : Array Slot), va_P D vwCl (wX9_putFor cy aM qM vM_65 vM_r vM_st vM_trial_65) H → va_D A (wX9_putFor cy aM qM vM_65 vM_r vM_st vM_trial_65) → va_S A s.heap H locs → lv_has ls 8 [(0, .ref aM), (1, .int x1), (2, .int x2), (3, .int x3), (4, .int ((vM_st x1.toNatClampNeg) / (9 : Int32))), (5, .int y5_65)] → fX9_putFor_J108 vM_r vM_st x1 x2 x3 y5_65 vM_trial_65 vM_65 = some y65 → W p l e ({ frames := 5, cells := 0, slots := 0, locals := 114 } : Room) s m ([.ref aM, .int x1, .int x2, .int x3] : List Value).toArray below meth c H locs 0 0 Q (F0 m 108 ls []) := by
        intro  H locs ls hP hD hS hl hok
        unfold fX9_putFor_J108 at hok
        refine lv_aload_n hx hb dX9_putFor_108 rfl (lv_at hl 0 rfl) ?_
        obtain ⟨vM_trial_109, hc109, hok⟩ := k_bind hok
        refine kCv (wc := (wX9_begin cy aM qM vM_65 vM_st vM_trial_65)) (wc2 := (wX9_begin cy aM qM vM_65 vM_st vM_trial_109)) (wr := [(qM 15, rI cy 224 vM_r)]) (ws2 := (wX9_putFor cy aM qM vM_65 vM_r vM_st vM_trial_109)) (kRunV (As := []) (rest := []) ⟨hx, hb, hml, hown, ht0⟩ (kX9_begin l D cy _ aM qM vM_65 vM_st vM_trial_65 vM_trial_109 hc109 _ rfl) (cwV 0 ht0 (gV wd948 wd949 wd950 wd744 wd951) rfl rfl rfl (by decide +kernel) ⟨Nat.le_of_ble_eq_true rfl, Nat.le_of_ble_eq_true rfl⟩) hK hN hP hD [0, 2, 3] rfl (by decide) 0 8 rfl rfl rfl hl.1 rfl (Nat.le_of_ble_eq_true rfl) dX9_putFor_109 ⟨Nat.zero_le _, Nat.zero_le _⟩) hP hD hS hA [0, 2, 3] [1] rfl rfl (by decide) (by decide) [1, 0, 2, 3] (by decide) rfl rfl (fun H locs hP hD hS => ?_)
        refine lv_aload_n hx hb dX9_putFor_112 rfl (lv_at hl 0 rfl) ?_
        refine va_get (D := D) (ci := 8) (v := .ref (qM 22)) (C := RX9) (T := TX9) (N := 29) hx hb ht0 niX9 hown hK hP 0 rfl rfl 22 (by decide) (ht0 _ wd921) (fun _ h9 => h9) rfl dX9_putFor_113 ?_
        refine lv_iload_n hx hb dX9_putFor_116 rfl (lv_at hl 1 rfl) ?_
        refine lv_bipush (v := 9) hx hb dX9_putFor_117 (by decide) ?_
        refine lv_iload hx hb dX9_putFor_119 (lv_at hl 4 rfl) ?_
        refine lv_imul hx hb dX9_putFor_121 ?_
        refine lv_iload hx hb dX9_putFor_122 (lv_at hl 5 rfl) ?_
        refine lv_iadd hx hb dX9_putFor_124 ?_
        obtain ⟨g125, hok⟩ := gd_some hok
        refine va_iast hx hb hK hP hD hS 3 0 rfl rfl (okI_in g125) dX9_putFor_125 (fun H locs hP hD hS => ?_)
        have hP : va_P D vwCl (wX9_putFor cy aM qM vM_65 vM_r vM_st (upd vM_trial_109 x1.toNatClampNeg (((9 : Int32) * ((vM_st x1.toNatClampNeg) / (9 : Int32))) + y5_65))) H := hP
        have hD : va_D A (wX9_putFor cy aM qM vM_65 vM_r vM_st (upd vM_trial_109 x1.toNatClampNeg (((9 : Int32) * ((vM_st x1.toNatClampNeg) / (9 : Int32))) + y5_65))) := hD
        refine lv_iconst (v := 0) hx hb dX9_putFor_126 (by decide) ?_
        refine lv_istore (lv' := [(7, .int 0), (0, .ref aM), (1, .int x1), (2, .int x2), (3, .int x3), (4, .int ((vM_st x1.toNatClampNeg) / (9 : Int32))), (5, .int y5_65)]) hx hb dX9_putFor_127 hl (by decide) rfl (fun ls hl => ?_)
        exact L129 5000 (0 : Int32) (upd vM_trial_109 x1.toNatClampNeg (((9 : Int32) * ((vM_st x1.toNatClampNeg) / (9 : Int32))) + y5_65)) H locs ls hP hD hS (lv_sub hl [1, 2, 3, 4, 5, 6, 0] rfl) hok
      unfold fX9_putFor_B65 at hok
      try dsimp only at hok
      refine lv_iload hx hb dX9_putFor_65 (lv_at hl 5 rfl) ?_
      refine lv_aload_n hx hb dX9_putFor_67 rfl (lv_at hl 0 rfl) ?_
      refine lv_iload hx hb dX9_putFor_68 (lv_at hl 4 rfl) ?_
      obtain ⟨r70, hc70, hok⟩ := k_bind hok
      refine kCi (wc := (wX9_placesOf cy aM qM vM_65 vM_r)) (wc2 := (wX9_placesOf cy aM qM vM_65 vM_r)) (wr := [(qM 17, rI cy 9 vM_st), (qM 22, rI cy 9 vM_trial_65)]) (ws2 := (wX9_putFor cy aM qM vM_65 vM_r vM_st vM_trial_65)) (kRunV (As := [.int ((vM_st x1.toNatClampNeg) / (9 : Int32))]) (rest := [.int y5_65]) ⟨hx, hb, hml, hown, ht0⟩ (kX9_placesOf l D cy _ aM qM vM_65 vM_r ((vM_st x1.toNatClampNeg) / (9 : Int32)) r70 hc70 _ rfl) (cwV 1 ht0 (gV wd878 wd879 wd880 wd744 wd881) rfl rfl rfl (by decide +kernel) ⟨Nat.le_of_ble_eq_true rfl, Nat.le_of_ble_eq_true rfl⟩) hK hN hP hD [0, 1] rfl (by decide) 0 8 rfl rfl rfl hl.1 rfl (Nat.le_of_ble_eq_true rfl) dX9_putFor_70 ⟨Nat.zero_le _, Nat.zero_le _⟩) hP hD hS hA [0, 1] [2, 3] rfl rfl (by decide) (by decide) [2, 3, 0, 1] (by decide) rfl rfl (fun H locs hP hD hS => ?_)
      refine lv_icmp_ge (tgt := 175) hx hb dX9_putFor_73 (by decide) (fun c73 => ?_) (fun c73 => ?_)
      · have hok := k_pos c73 hok
        obtain ⟨e65, hok, he65⟩ := ex_some hok
        have hok := hok.trans (congrArg some (hL65 _ he65))
        refine lv_bipush (v := -2) hx hb dX9_putFor_175 (by decide) ?_
        cases hok
        subst hQe; exact W.iret hx hb hr (fun t ht hW => ⟨⟨_, (), rfl, rfl, by rw [ht]; exact hP, va_K.moved hW.alike hK, hD⟩, hS.F ht⟩) hS.2.2 dX9_putFor_177
      · have hok := k_neg c73 hok
        refine lv_aload_n hx hb dX9_putFor_76 rfl (lv_at hl 0 rfl) ?_
        refine lv_aload_n hx hb dX9_putFor_77 rfl (lv_at hl 0 rfl) ?_
        refine va_get (D := D) (ci := 8) (v := .ref (qM 17)) (C := RX9) (T := TX9) (N := 29) hx hb ht0 niX9 hown hK hP 0 rfl rfl 17 (by decide) (ht0 _ wd858) (fun _ h9 => h9) rfl dX9_putFor_78 ?_
        refine lv_bipush (v := 9) hx hb dX9_putFor_81 (by decide) ?_
        refine lv_iload hx hb dX9_putFor_83 (lv_at hl 4 rfl) ?_
        refine lv_imul hx hb dX9_putFor_85 ?_
        refine lv_iload hx hb dX9_putFor_86 (lv_at hl 5 rfl) ?_
        refine lv_iadd hx hb dX9_putFor_88 ?_
        obtain ⟨r89, hc89, hok⟩ := k_bind hok
        refine kCi (wc := (wX9_thingAt cy aM (qM 17) qM vM_65 vM_r 9 vM_st)) (wc2 := (wX9_thingAt cy aM (qM 17) qM vM_65 vM_r 9 vM_st)) (wr := [(qM 22, rI cy 9 vM_trial_65)]) (ws2 := (wX9_putFor cy aM qM vM_65 vM_r vM_st vM_trial_65)) (kRunV (As := [.ref (qM 17), .int (((9 : Int32) * ((vM_st x1.toNatClampNeg) / (9 : Int32))) + y5_65)]) (rest := []) ⟨hx, hb, hml, hown, ht0⟩ (kX9_thingAt l D cy _ aM (qM 17) qM vM_65 vM_r 9 vM_st (((9 : Int32) * ((vM_st x1.toNatClampNeg) / (9 : Int32))) + y5_65) r89 hc89 _ rfl) (cwV 2 ht0 (gV wd901 wd902 wd903 wd744 wd904) rfl rfl rfl (by decide +kernel) ⟨Nat.le_of_ble_eq_true rfl, Nat.le_of_ble_eq_true rfl⟩) hK hN hP hD [0, 1, 2] rfl (by decide) 0 8 rfl rfl rfl hl.1 rfl (Nat.le_of_ble_eq_true rfl) dX9_putFor_89 ⟨Nat.zero_le _, Nat.zero_le _⟩) hP hD hS hA [0, 1, 2] [3] rfl rfl (by decide) (by decide) [1, 2, 3, 0] (by decide) rfl rfl (fun H locs hP hD hS => ?_)
        refine lv_istore (lv' := [(6, .int r89), (0, .ref aM), (1, .int x1), (2, .int x2), (3, .int x3), (4, .int ((vM_st x1.toNatClampNeg) / (9 : Int32))), (5, .int y5_65)]) hx hb dX9_putFor_92 hl (by decide) rfl (fun ls hl => ?_)
        refine lv_iload hx hb dX9_putFor_94 (lv_at hl 0 rfl) ?_
        refine lv_if_lt (tgt := 108) hx hb dX9_putFor_96 (by decide) (fun c96 => ?_) (fun c96 => ?_)
        · have hok := k_pos c96 hok
          exact J108  H locs ls hP hD hS (lv_sub hl [1, 2, 3, 4, 5, 6] rfl) hok
        · have hok := k_neg c96 hok
          refine lv_iload hx hb dX9_putFor_99 (lv_at hl 0 rfl) ?_
          refine lv_iload_n hx hb dX9_putFor_101 rfl (lv_at hl 2 rfl) ?_
          refine lv_icmp_eq (tgt := 108) hx hb dX9_putFor_102 (by decide) (fun c102 => ?_) (fun c102 => ?_)
          · have hok := k_pos c102 hok
            exact J108  H locs ls hP hD hS (lv_sub hl [1, 2, 3, 4, 5, 6] rfl) hok
          · have hok := k_neg c102 hok
            refine lv_goto (tgt := 169) hx hb dX9_putFor_105 (by decide) ?_
            exact J169 vM_trial_65 H locs ls hP hD hS (lv_sub hl [1, 2, 3, 4, 5, 6] rfl) hok
  have J29 : ∀ (vM_29 : Nat → Int32), ∀ (H : Heap) (locs : List Loc) (ls : Array Slot), va_P D vwCl (wX9_putFor cy aM qM vM_29 vM_r vM_st vM_trial) H → va_D A (wX9_putFor cy aM qM vM_29 vM_r vM_st vM_trial) → va_S A s.heap H locs → lv_has ls 8 [(0, .ref aM)] → fX9_putFor_J29 vM_trial vM_29 = some (zr, z_vM, z_vM_trial) → W p l e ({ frames := 5, cells := 0, slots := 0, locals := 114 } : Room) s m ([.ref aM, .int x1, .int x2, .int x3] : List Value).toArray below meth c H locs 0 0 Q (F0 m 29 ls []) := by
    intro vM_29 H locs ls hP hD hS hl hok
    unfold fX9_putFor_J29 at hok
    refine lv_aload_n hx hb dX9_putFor_29 rfl (lv_at hl 0 rfl) ?_
    refine lv_iconst (v := 1) hx hb dX9_putFor_30 (by decide) ?_
    obtain ⟨⟨r31, vM_31⟩, hc31, hok⟩ := k_bind hok
    try dsimp only at hok
    refine kCi (wc := (wX9_no cy aM qM vM_29)) (wc2 := (wX9_no cy aM qM vM_31)) (wr := [(qM 15, rI cy 224 vM_r), (qM 17, rI cy 9 vM_st), (qM 22, rI cy 9 vM_trial)]) (ws2 := (wX9_putFor cy aM qM vM_31 vM_r vM_st vM_trial)) (kRunV (As := [.int 1]) (rest := []) ⟨hx, hb, hml, hown, ht0⟩ (kX9_no l D cy _ aM qM vM_29 (1 : Int32) r31 vM_31 hc31 _ rfl) (cwV 1 ht0 (gV wd862 wd863 wd864 wd744 wd865) rfl rfl rfl (by decide +kernel) ⟨Nat.le_of_ble_eq_true rfl, Nat.le_of_ble_eq_true rfl⟩) hK hN hP hD [0] rfl (by decide) 0 8 rfl rfl rfl hl.1 rfl (Nat.le_of_ble_eq_true rfl) dX9_putFor_31 ⟨Nat.zero_le _, Nat.zero_le _⟩) hP hD hS hA [0] [1, 2, 3] rfl rfl (by decide) (by decide) [3, 0, 1, 2] (by decide) rfl rfl (fun H locs hP hD hS => ?_)
    cases hok
    subst hQe; exact W.iret hx hb hr (fun t ht hW => ⟨⟨_, (), rfl, rfl, by rw [ht]; exact hP, va_K.moved hW.alike hK, hD⟩, hS.F ht⟩) hS.2.2 dX9_putFor_34
  unfold fX9_putFor at hok
  obtain ⟨H, hH⟩ : ∃ H, H = s.heap := ⟨_, rfl⟩
  obtain ⟨locs, hlc⟩ : ∃ x : List Loc, x = [] := ⟨_, rfl⟩
  have hP : va_P D vwCl (wX9_putFor cy aM qM vM vM_r vM_st vM_trial) H := by rw [hH]; exact hP
  have hS : va_S A s.heap H locs := by rw [hH, hlc]; exact hS
  rw [show W p l e _ s m _ below meth c s.heap [] = W p l e _ s m _ below meth c H locs from by rw [hH, hlc]]
  refine lv_aload_n hx hb dX9_putFor_0 rfl (lv_at hl 0 rfl) ?_
  obtain ⟨vM_1, hc1, hok⟩ := k_bind hok
  refine kCv (wc := (wX9_good cy aM qM vM)) (wc2 := (wX9_good cy aM qM vM_1)) (wr := [(qM 15, rI cy 224 vM_r), (qM 17, rI cy 9 vM_st), (qM 22, rI cy 9 vM_trial)]) (ws2 := (wX9_putFor cy aM qM vM_1 vM_r vM_st vM_trial)) (kRunV (As := []) (rest := []) ⟨hx, hb, hml, hown, ht0⟩ (kX9_good l D cy _ aM qM vM vM_1 hc1 _ rfl) (cwV 0 ht0 (gV wd870 wd871 wd872 wd744 wd873) rfl rfl rfl (by decide +kernel) ⟨Nat.le_of_ble_eq_true rfl, Nat.le_of_ble_eq_true rfl⟩) hK hN hP hD [0] rfl (by decide) 0 8 rfl rfl rfl hl.1 rfl (Nat.le_of_ble_eq_true rfl) dX9_putFor_1 ⟨Nat.zero_le _, Nat.zero_le _⟩) hP hD hS hA [0] [1, 2, 3] rfl rfl (by decide) (by decide) [3, 0, 1, 2] (by decide) rfl rfl (fun H locs hP hD hS => ?_)
  refine lv_aload_n hx hb dX9_putFor_4 rfl (lv_at hl 0 rfl) ?_
  refine lv_iload_n hx hb dX9_putFor_5 rfl (lv_at hl 1 rfl) ?_
  obtain ⟨r6, hc6, hok⟩ := k_bind hok
  refine kCi (wc := (wX9_isThing cy aM qM vM_1 vM_r)) (wc2 := (wX9_isThing cy aM qM vM_1 vM_r)) (wr := [(qM 17, rI cy 9 vM_st), (qM 22, rI cy 9 vM_trial)]) (ws2 := (wX9_putFor cy aM qM vM_1 vM_r vM_st vM_trial)) (kRunV (As := [.int x1]) (rest := []) ⟨hx, hb, hml, hown, ht0⟩ (kX9_isThing l D cy _ aM qM vM_1 vM_r x1 r6 hc6 _ rfl) (cwV 1 ht0 (gV wd925 wd926 wd927 wd744 wd928) rfl rfl rfl (by decide +kernel) ⟨Nat.le_of_ble_eq_true rfl, Nat.le_of_ble_eq_true rfl⟩) hK hN hP hD [0, 1] rfl (by decide) 0 8 rfl rfl rfl hl.1 rfl (Nat.le_of_ble_eq_true rfl) dX9_putFor_6 ⟨Nat.zero_le _, Nat.zero_le _⟩) hP hD hS hA [0, 1] [2, 3] rfl rfl (by decide) (by decide) [2, 3, 0, 1] (by decide) rfl rfl (fun H locs hP hD hS => ?_)
  refine lv_if_eq (tgt := 29) hx hb dX9_putFor_9 (by decide) (fun c9 => ?_) (fun c9 => ?_)
  · have hok := k_pos c9 hok
    exact J29 vM_1 H locs ls hP hD hS (lv_sub hl [0] rfl) hok
  · have hok := k_neg c9 hok
    refine lv_aload_n hx hb dX9_putFor_12 rfl (lv_at hl 0 rfl) ?_
    refine lv_aload_n hx hb dX9_putFor_13 rfl (lv_at hl 0 rfl) ?_
    refine va_get (D := D) (ci := 8) (v := .ref (qM 17)) (C := RX9) (T := TX9) (N := 29) hx hb ht0 niX9 hown hK hP 0 rfl rfl 17 (by decide) (ht0 _ wd858) (fun _ h9 => h9) rfl dX9_putFor_14 ?_
    refine lv_iload_n hx hb dX9_putFor_17 rfl (lv_at hl 1 rfl) ?_
    obtain ⟨g18, hok⟩ := gd_some hok
    refine va_iald hx hb hK hP 2 0 rfl rfl (okI_in g18) dX9_putFor_18 ?_
    refine lv_bipush (v := 9) hx hb dX9_putFor_19 (by decide) ?_
    refine lv_idiv hx hb dX9_putFor_21 (by decide) ?_
    refine lv_iload_n hx hb dX9_putFor_22 rfl (lv_at hl 2 rfl) ?_
    obtain ⟨r23, hc23, hok⟩ := k_bind hok
    refine kCi (wc := (wX9_isPlace cy aM qM vM_1 vM_r)) (wc2 := (wX9_isPlace cy aM qM vM_1 vM_r)) (wr := [(qM 17, rI cy 9 vM_st), (qM 22, rI cy 9 vM_trial)]) (ws2 := (wX9_putFor cy aM qM vM_1 vM_r vM_st vM_trial)) (kRunV (As := [.int ((vM_st x1.toNatClampNeg) / (9 : Int32)), .int x2]) (rest := []) ⟨hx, hb, hml, hown, ht0⟩ (kX9_isPlace l D cy _ aM qM vM_1 vM_r ((vM_st x1.toNatClampNeg) / (9 : Int32)) x2 r23 hc23 _ rfl) (cwV 2 ht0 (gV wd929 wd930 wd931 wd744 wd932) rfl rfl rfl (by decide +kernel) ⟨Nat.le_of_ble_eq_true rfl, Nat.le_of_ble_eq_true rfl⟩) hK hN hP hD [0, 1] rfl (by decide) 0 8 rfl rfl rfl hl.1 rfl (Nat.le_of_ble_eq_true rfl) dX9_putFor_23 ⟨Nat.zero_le _, Nat.zero_le _⟩) hP hD hS hA [0, 1] [2, 3] rfl rfl (by decide) (by decide) [2, 3, 0, 1] (by decide) rfl rfl (fun H locs hP hD hS => ?_)
    refine lv_if_ne (tgt := 35) hx hb dX9_putFor_26 (by decide) (fun c26 => ?_) (fun c26 => ?_)
    · have hok := k_neg c26 hok
      refine lv_iload_n hx hb dX9_putFor_35 rfl (lv_at hl 3 rfl) ?_
      refine lv_iconst (v := 0) hx hb dX9_putFor_36 (by decide) ?_
      refine lv_bipush (v := 60) hx hb dX9_putFor_37 (by decide) ?_
      obtain ⟨r39, hc39, hok⟩ := k_bind hok
      refine kCi (wc := (wX9_in cy )) (wc2 := (wX9_in cy )) (wr := [(aM, oX9 vM_1 qM), (qM 15, rI cy 224 vM_r), (qM 17, rI cy 9 vM_st), (qM 22, rI cy 9 vM_trial)]) (ws2 := (wX9_putFor cy aM qM vM_1 vM_r vM_st vM_trial)) (kRunS (As := [.int x3, .int 0, .int 60]) (rest := []) ⟨hx, hb, hml, hown, ht0⟩ (kX9_in l D cy _ x3 (0 : Int32) (60 : Int32) r39 hc39 _ rfl) (va_cwS 3 ht0 (gS wd787 wd788 wd744 wd789) rfl rfl rfl (by decide +kernel) ⟨Nat.le_of_ble_eq_true rfl, Nat.le_of_ble_eq_true rfl⟩) hK hN hP hD [] rfl (by decide) rfl hl.1 rfl (Nat.le_of_ble_eq_true rfl) dX9_putFor_39 ⟨Nat.zero_le _, Nat.zero_le _⟩) hP hD hS hA [] [0, 1, 2, 3] rfl rfl (by decide) (by decide) [0, 1, 2, 3] (by decide) rfl rfl (fun H locs hP hD hS => ?_)
      refine lv_if_ne (tgt := 51) hx hb dX9_putFor_42 (by decide) (fun c42 => ?_) (fun c42 => ?_)
      · have hok := k_neg c42 hok
        refine lv_aload_n hx hb dX9_putFor_51 rfl (lv_at hl 0 rfl) ?_
        refine va_get (D := D) (ci := 8) (v := .ref (qM 17)) (C := RX9) (T := TX9) (N := 29) hx hb ht0 niX9 hown hK hP 0 rfl rfl 17 (by decide) (ht0 _ wd858) (fun _ h9 => h9) rfl dX9_putFor_52 ?_
        refine lv_iload_n hx hb dX9_putFor_55 rfl (lv_at hl 1 rfl) ?_
        obtain ⟨g56, hok⟩ := gd_some hok
        refine va_iald hx hb hK hP 2 0 rfl rfl (okI_in g56) dX9_putFor_56 ?_
        refine lv_bipush (v := 9) hx hb dX9_putFor_57 (by decide) ?_
        refine lv_idiv hx hb dX9_putFor_59 (by decide) ?_
        refine lv_istore (lv' := [(4, .int ((vM_st x1.toNatClampNeg) / (9 : Int32))), (0, .ref aM), (1, .int x1), (2, .int x2), (3, .int x3)]) hx hb dX9_putFor_60 hl (by decide) rfl (fun ls hl => ?_)
        refine lv_iconst (v := 0) hx hb dX9_putFor_62 (by decide) ?_
        refine lv_istore (lv' := [(5, .int 0), (4, .int ((vM_st x1.toNatClampNeg) / (9 : Int32))), (0, .ref aM), (1, .int x1), (2, .int x2), (3, .int x3)]) hx hb dX9_putFor_63 hl (by decide) rfl (fun ls hl => ?_)
        exact L65 5000 (0 : Int32) vM_trial vM_1 H locs ls hP hD hS (lv_sub hl [2, 3, 4, 5, 1, 0] rfl) hok
      · have hok := k_pos c42 hok
        refine lv_aload_n hx hb dX9_putFor_45 rfl (lv_at hl 0 rfl) ?_
        refine lv_iconst (v := 2) hx hb dX9_putFor_46 (by decide) ?_
        obtain ⟨⟨r47, vM_47⟩, hc47, hok⟩ := k_bind hok
        try dsimp only at hok
        refine kCi (wc := (wX9_no cy aM qM vM_1)) (wc2 := (wX9_no cy aM qM vM_47)) (wr := [(qM 15, rI cy 224 vM_r), (qM 17, rI cy 9 vM_st), (qM 22, rI cy 9 vM_trial)]) (ws2 := (wX9_putFor cy aM qM vM_47 vM_r vM_st vM_trial)) (kRunV (As := [.int 2]) (rest := []) ⟨hx, hb, hml, hown, ht0⟩ (kX9_no l D cy _ aM qM vM_1 (2 : Int32) r47 vM_47 hc47 _ rfl) (cwV 1 ht0 (gV wd862 wd863 wd864 wd744 wd865) rfl rfl rfl (by decide +kernel) ⟨Nat.le_of_ble_eq_true rfl, Nat.le_of_ble_eq_true rfl⟩) hK hN hP hD [0] rfl (by decide) 0 8 rfl rfl rfl hl.1 rfl (Nat.le_of_ble_eq_true rfl) dX9_putFor_47 ⟨Nat.zero_le _, Nat.zero_le _⟩) hP hD hS hA [0] [1, 2, 3] rfl rfl (by decide) (by decide) [3, 0, 1, 2] (by decide) rfl rfl (fun H locs hP hD hS => ?_)
        cases hok
        subst hQe; exact W.iret hx hb hr (fun t ht hW => ⟨⟨_, (), rfl, rfl, by rw [ht]; exact hP, va_K.moved hW.alike hK, hD⟩, hS.F ht⟩) hS.2.2 dX9_putFor_50
    · have hok := k_pos c26 hok
      exact J29 vM_1 H locs ls hP hD hS (lv_sub hl [0] rfl) hok
def wsX9_holdsToMeet : List Cond := .code yX9_holdsToMeet cX9_holdsToMeet 7 (some .int) :: W0
abbrev wX9_holdsToMeet (cy : Nat → ClassId) (aM : Nat) (qM : Nat → Nat) (vM : Nat → Int32) (vM_r : Nat → Int32) (vM_st : Nat → Int32) (vM_trial : Nat → Int32) : va_W := [(aM, oX9 vM qM), (qM 15, rI cy 224 vM_r), (qM 17, rI cy 9 vM_st), (qM 22, rI cy 9 vM_trial)]
set_option maxHeartbeats 4000000 in
set_option maxRecDepth 100000 in
theorem kX9_holdsToMeet (l : Launch) (D : va_G) (cy : Nat → ClassId) (sz : Nat) (aM : Nat) (qM : Nat → Nat) (vM : Nat → Int32) (vM_r : Nat → Int32) (vM_st : Nat → Int32) (vM_trial : Nat → Int32) (x1 : Int32) (x2 : Int32) (x3 : Int32) (zr : Int32) (z_vM : Nat → Int32) (z_vM_trial : Nat → Int32) (hok : fX9_holdsToMeet vM vM_r vM_st vM_trial x1 x2 x3 = some (zr, z_vM, z_vM_trial)) (A : Nat → Prop) (hAe : va_A (wX9_holdsToMeet cy aM qM vM vM_r vM_st vM_trial) sz = A) : Met l yX9_holdsToMeet wsX9_holdsToMeet ({ frames := 6, cells := 0, slots := 0, locals := 139 } : Room) (kPre D cy [.ref aM, .int x1, .int x2, .int x3] (wX9_holdsToMeet cy aM qM vM vM_r vM_st vM_trial) sz) (kQi D cy zr A (wX9_holdsToMeet cy aM qM z_vM vM_r vM_st z_vM_trial)) 0 0 A := by
  refine Met.ofW (cc := cX9_holdsToMeet) (maxL := 7) (ret := (some .int)) (by decide) rfl ?_
  intro p e s m args below meth c s₁ B hml hv
  obtain ⟨rfl, hsz, hP, hK, hD0, hN⟩ := hv
  have hx := B.exec
  have hb := B.bytes
  have hr := B.returns
  have ht0 : ∀ w ∈ W0, w.before _ s = true := fun w h => atoms_spec (ws := wsX9_holdsToMeet) B.pre w (List.mem_cons_of_mem _ h)
  have hown : s.vm.findClass RX9 = some m.cls := findClass_of_methodNamed B.named
  have hlocks := B.notSynchronized
  subst hsz
  have hD : va_D A (wX9_holdsToMeet cy aM qM vM vM_r vM_st vM_trial) := by rw [← hAe]; exact hD0.self
  have hA : ∀ q : Nat, s.heap.size ≤ q → A q := fun q h => by rw [← hAe]; exact Or.inr h
  have hS : va_S A s.heap s.heap [] := va_S.rf
  have hl := lv_entry ([.ref aM, .int x1, .int x2, .int x3]) (n := 7) (Nat.le_of_ble_eq_true rfl)
  rw [lg_entry_eq]
  generalize (lg_sl ([.ref aM, .int x1, .int x2, .int x3]) ++ List.replicate (7 - (lg_sl ([.ref aM, .int x1, .int x2, .int x3])).length) Slot.unset).toArray = ls at hl ⊢
  have hl : lv_has ls 7 [(0, .ref aM), (1, .int x1), (2, .int x2), (3, .int x3)] := hl
  generalize hQe : MQ below (kQi D cy zr A (wX9_holdsToMeet cy aM qM z_vM vM_r vM_st z_vM_trial)) ([.ref aM, .int x1, .int x2, .int x3] : List Value).toArray s 0 0 A = Q
  have L38 : ∀ (fuel : Nat) (y5_38 : Int32) (y6_38 : Int32) (vM_trial_38 : Nat → Int32) (vM_38 : Nat → Int32), ∀ (H : Heap) (locs : List Loc) (ls : Array Slot), va_P D vwCl (wX9_holdsToMeet cy aM qM vM_38 vM_r vM_st vM_trial_38) H → va_D A (wX9_holdsToMeet cy aM qM vM_38 vM_r vM_st vM_trial_38) → va_S A s.heap H locs → lv_has ls 7 [(0, .ref aM), (1, .int x1), (2, .int x2), (3, .int x3), (5, .int y5_38), (6, .int y6_38)] → lp (fX9_holdsToMeet_B38 vM_r vM_st x1 x2 x3) fuel (y5_38, y6_38, vM_trial_38, vM_38) = some (zr, z_vM, z_vM_trial) → W p l e ({ frames := 6, cells := 0, slots := 0, locals := 139 } : Room) s m ([.ref aM, .int x1, .int x2, .int x3] : List Value).toArray below meth c H locs 0 0 Q (F0 m 38 ls []) := by
    intro fuel
    induction fuel with
    | zero => intro y5_38 y6_38 vM_trial_38 vM_38 H locs ls hP hD hS hl hok; exact (lp_0 hok).elim
    | succ fuel ih38 =>
      intro y5_38 y6_38 vM_trial_38 vM_38 H locs ls hP hD hS hl hok
      obtain ⟨y38, hok, hL38, hR38⟩ := lp_step hok
      have J94 : ∀ (y5_94 : Int32) (vM_trial_94 : Nat → Int32), ∀ (H : Heap) (locs : List Loc) (ls : Array Slot), va_P D vwCl (wX9_holdsToMeet cy aM qM vM_38 vM_r vM_st vM_trial_94) H → va_D A (wX9_holdsToMeet cy aM qM vM_38 vM_r vM_st vM_trial_94) → va_S A s.heap H locs → lv_has ls 7 [(0, .ref aM), (1, .int x1), (2, .int x2), (3, .int x3), (5, .int y5_94), (6, .int y6_38)] → fX9_holdsToMeet_J94 y6_38 vM_38 y5_94 vM_trial_94 = some y38 → W p l e ({ frames := 6, cells := 0, slots := 0, locals := 139 } : Room) s m ([.ref aM, .int x1, .int x2, .int x3] : List Value).toArray below meth c H locs 0 0 Q (F0 m 94 ls []) := by
        intro y5_94 vM_trial_94 H locs ls hP hD hS hl hok
        unfold fX9_holdsToMeet_J94 at hok
        refine lv_iinc (v := (y6_38 + 1)) (lv' := [(6, .int (y6_38 + 1)), (0, .ref aM), (1, .int x1), (2, .int x2), (3, .int x3), (5, .int y5_94)]) hx hb dX9_holdsToMeet_94 hl (k := 5) rfl (by first | rfl | decide) (by decide) rfl (fun ls hl => ?_)
        refine lv_goto (tgt := 38) hx hb dX9_holdsToMeet_97 (by decide) ?_
        exact ih38 y5_94 (y6_38 + 1) vM_trial_94 vM_38 H locs ls hP hD hS (lv_sub hl [1, 2, 3, 4, 5, 0] rfl) (hR38 _ (Option.some.inj hok).symm)
      have J78 : ∀ (H : Heap) (locs : List Loc) (ls : Array Slot), va_P D vwCl (wX9_holdsToMeet cy aM qM vM_38 vM_r vM_st vM_trial_38) H → va_D A (wX9_holdsToMeet cy aM qM vM_38 vM_r vM_st vM_trial_38) → va_S A s.heap H locs → lv_has ls 7 [(0, .ref aM), (1, .int x1), (2, .int x2), (3, .int x3), (5, .int y5_38), (6, .int y6_38)] → fX9_holdsToMeet_J78 vM_r vM_st x1 x2 x3 y5_38 y6_38 vM_trial_38 vM_38 = some y38 → W p l e ({ frames := 6, cells := 0, slots := 0, locals := 139 } : Room) s m ([.ref aM, .int x1, .int x2, .int x3] : List Value).toArray below meth c H locs 0 0 Q (F0 m 78 ls []) := by
        intro  H locs ls hP hD hS hl hok
        unfold fX9_holdsToMeet_J78 at hok
        refine lv_aload_n hx hb dX9_holdsToMeet_78 rfl (lv_at hl 0 rfl) ?_
        refine lv_iload hx hb dX9_holdsToMeet_79 (lv_at hl 5 rfl) ?_
        refine lv_iload_n hx hb dX9_holdsToMeet_81 rfl (lv_at hl 1 rfl) ?_
        refine lv_iload_n hx hb dX9_holdsToMeet_82 rfl (lv_at hl 2 rfl) ?_
        refine lv_iload_n hx hb dX9_holdsToMeet_83 rfl (lv_at hl 3 rfl) ?_
        obtain ⟨⟨r84, vM_trial_84⟩, hc84, hok⟩ := k_bind hok
        try dsimp only at hok
        refine kCi (wc := (wX9_doMeetBy cy aM qM vM_38 vM_st vM_trial_38 vM_r)) (wc2 := (wX9_doMeetBy cy aM qM vM_38 vM_st vM_trial_84 vM_r)) (wr := []) (ws2 := (wX9_holdsToMeet cy aM qM vM_38 vM_r vM_st vM_trial_84)) (kRunV (As := [.int y6_38, .int x1, .int x2, .int x3]) (rest := []) ⟨hx, hb, hml, hown, ht0⟩ (kX9_doMeetBy l D cy _ aM qM vM_38 vM_st vM_trial_38 vM_r y6_38 x1 x2 x3 r84 vM_trial_84 hc84 _ rfl) (cwV 4 ht0 (gV wd970 wd971 wd972 wd744 wd973) rfl rfl rfl (by decide +kernel) ⟨Nat.le_of_ble_eq_true rfl, Nat.le_of_ble_eq_true rfl⟩) hK hN hP hD [0, 2, 3, 1] rfl (by decide) 0 8 rfl rfl rfl hl.1 rfl (Nat.le_of_ble_eq_true rfl) dX9_holdsToMeet_84 ⟨Nat.zero_le _, Nat.zero_le _⟩) hP hD hS hA [0, 2, 3, 1] [] rfl rfl (by decide) (by decide) [0, 3, 1, 2] (by decide) rfl rfl (fun H locs hP hD hS => ?_)
        refine lv_if_eq (tgt := 94) hx hb dX9_holdsToMeet_87 (by decide) (fun c87 => ?_) (fun c87 => ?_)
        · have hok := k_pos c87 hok
          exact J94 y5_38 vM_trial_84 H locs ls hP hD hS (lv_sub hl [0, 1, 2, 3, 4, 5] rfl) hok
        · have hok := k_neg c87 hok
          refine lv_iload hx hb dX9_holdsToMeet_90 (lv_at hl 5 rfl) ?_
          refine lv_istore (lv' := [(5, .int y6_38), (0, .ref aM), (1, .int x1), (2, .int x2), (3, .int x3), (6, .int y6_38)]) hx hb dX9_holdsToMeet_92 hl (by decide) rfl (fun ls hl => ?_)
          exact J94 y6_38 vM_trial_84 H locs ls hP hD hS (lv_sub hl [1, 2, 3, 4, 0, 5] rfl) hok
      unfold fX9_holdsToMeet_B38 at hok
      try dsimp only at hok
      refine lv_iload hx hb dX9_holdsToMeet_38 (lv_at hl 5 rfl) ?_
      refine lv_aload_n hx hb dX9_holdsToMeet_40 rfl (lv_at hl 0 rfl) ?_
      obtain ⟨r41, hc41, hok⟩ := k_bind hok
      refine kCi (wc := (wX9_allThings cy aM qM vM_38 vM_r)) (wc2 := (wX9_allThings cy aM qM vM_38 vM_r)) (wr := [(qM 17, rI cy 9 vM_st), (qM 22, rI cy 9 vM_trial_38)]) (ws2 := (wX9_holdsToMeet cy aM qM vM_38 vM_r vM_st vM_trial_38)) (kRunV (As := []) (rest := [.int y6_38]) ⟨hx, hb, hml, hown, ht0⟩ (kX9_allThings l D cy _ aM qM vM_38 vM_r r41 hc41 _ rfl) (cwV 0 ht0 (gV wd966 wd967 wd968 wd744 wd969) rfl rfl rfl (by decide +kernel) ⟨Nat.le_of_ble_eq_true rfl, Nat.le_of_ble_eq_true rfl⟩) hK hN hP hD [0, 1] rfl (by decide) 0 8 rfl rfl rfl hl.1 rfl (Nat.le_of_ble_eq_true rfl) dX9_holdsToMeet_41 ⟨Nat.zero_le _, Nat.zero_le _⟩) hP hD hS hA [0, 1] [2, 3] rfl rfl (by decide) (by decide) [2, 3, 0, 1] (by decide) rfl rfl (fun H locs hP hD hS => ?_)
      refine lv_icmp_gt (tgt := 100) hx hb dX9_holdsToMeet_44 (by decide) (fun c44 => ?_) (fun c44 => ?_)
      · have hok := k_pos c44 hok
        obtain ⟨e38, hok, he38⟩ := ex_some hok
        have hok := hok.trans (congrArg some (hL38 _ he38))
        refine lv_iload hx hb dX9_holdsToMeet_100 (lv_at hl 4 rfl) ?_
        cases hok
        subst hQe; exact W.iret hx hb hr (fun t ht hW => ⟨⟨_, (), rfl, rfl, by rw [ht]; exact hP, va_K.moved hW.alike hK, hD⟩, hS.F ht⟩) hS.2.2 dX9_holdsToMeet_102
      · have hok := k_neg c44 hok
        refine lv_iload hx hb dX9_holdsToMeet_47 (lv_at hl 5 rfl) ?_
        refine lv_aload_n hx hb dX9_holdsToMeet_49 rfl (lv_at hl 0 rfl) ?_
        refine va_get (D := D) (ci := 8) (v := .ref (qM 17)) (C := RX9) (T := TX9) (N := 29) hx hb ht0 niX9 hown hK hP 0 rfl rfl 17 (by decide) (ht0 _ wd858) (fun _ h9 => h9) rfl dX9_holdsToMeet_50 ?_
        refine lv_bipush (v := 7) hx hb dX9_holdsToMeet_53 (by decide) ?_
        obtain ⟨g55, hok⟩ := gd_some hok
        refine va_iald hx hb hK hP 2 0 rfl rfl (okI_in g55) dX9_holdsToMeet_55 ?_
        refine lv_iand hx hb dX9_holdsToMeet_56 ?_
        refine lv_if_ne (tgt := 94) hx hb dX9_holdsToMeet_57 (by decide) (fun c57 => ?_) (fun c57 => ?_)
        · have hok := k_neg c57 hok
          exact J94 y5_38 vM_trial_38 H locs ls hP hD hS (lv_sub hl [0, 1, 2, 3, 4, 5] rfl) hok
        · have hok := k_pos c57 hok
          refine lv_iload hx hb dX9_holdsToMeet_60 (lv_at hl 4 rfl) ?_
          refine lv_if_lt (tgt := 78) hx hb dX9_holdsToMeet_62 (by decide) (fun c62 => ?_) (fun c62 => ?_)
          · have hok := k_pos c62 hok
            exact J78  H locs ls hP hD hS (lv_sub hl [0, 1, 2, 3, 4, 5] rfl) hok
          · have hok := k_neg c62 hok
            refine lv_iload hx hb dX9_holdsToMeet_65 (lv_at hl 5 rfl) ?_
            obtain ⟨r67, hc67, hok⟩ := k_bind hok
            refine kCi (wc := (wX9_ones cy )) (wc2 := (wX9_ones cy )) (wr := [(aM, oX9 vM_38 qM), (qM 15, rI cy 224 vM_r), (qM 17, rI cy 9 vM_st), (qM 22, rI cy 9 vM_trial_38)]) (ws2 := (wX9_holdsToMeet cy aM qM vM_38 vM_r vM_st vM_trial_38)) (kRunS (As := [.int y6_38]) (rest := []) ⟨hx, hb, hml, hown, ht0⟩ (kX9_ones l D cy _ y6_38 r67 hc67 _ rfl) (va_cwS 1 ht0 (gS wd922 wd923 wd744 wd924) rfl rfl rfl (by decide +kernel) ⟨Nat.le_of_ble_eq_true rfl, Nat.le_of_ble_eq_true rfl⟩) hK hN hP hD [] rfl (by decide) rfl hl.1 rfl (Nat.le_of_ble_eq_true rfl) dX9_holdsToMeet_67 ⟨Nat.zero_le _, Nat.zero_le _⟩) hP hD hS hA [] [0, 1, 2, 3] rfl rfl (by decide) (by decide) [0, 1, 2, 3] (by decide) rfl rfl (fun H locs hP hD hS => ?_)
            refine lv_iload hx hb dX9_holdsToMeet_70 (lv_at hl 4 rfl) ?_
            obtain ⟨r72, hc72, hok⟩ := k_bind hok
            refine kCi (wc := (wX9_ones cy )) (wc2 := (wX9_ones cy )) (wr := [(aM, oX9 vM_38 qM), (qM 15, rI cy 224 vM_r), (qM 17, rI cy 9 vM_st), (qM 22, rI cy 9 vM_trial_38)]) (ws2 := (wX9_holdsToMeet cy aM qM vM_38 vM_r vM_st vM_trial_38)) (kRunS (As := [.int y5_38]) (rest := [.int r67]) ⟨hx, hb, hml, hown, ht0⟩ (kX9_ones l D cy _ y5_38 r72 hc72 _ rfl) (va_cwS 1 ht0 (gS wd922 wd923 wd744 wd924) rfl rfl rfl (by decide +kernel) ⟨Nat.le_of_ble_eq_true rfl, Nat.le_of_ble_eq_true rfl⟩) hK hN hP hD [] rfl (by decide) rfl hl.1 rfl (Nat.le_of_ble_eq_true rfl) dX9_holdsToMeet_72 ⟨Nat.zero_le _, Nat.zero_le _⟩) hP hD hS hA [] [0, 1, 2, 3] rfl rfl (by decide) (by decide) [0, 1, 2, 3] (by decide) rfl rfl (fun H locs hP hD hS => ?_)
            refine lv_icmp_ge (tgt := 94) hx hb dX9_holdsToMeet_75 (by decide) (fun c75 => ?_) (fun c75 => ?_)
            · have hok := k_pos c75 hok
              exact J94 y5_38 vM_trial_38 H locs ls hP hD hS (lv_sub hl [0, 1, 2, 3, 4, 5] rfl) hok
            · have hok := k_neg c75 hok
              exact J78  H locs ls hP hD hS (lv_sub hl [0, 1, 2, 3, 4, 5] rfl) hok
  unfold fX9_holdsToMeet at hok
  obtain ⟨H, hH⟩ : ∃ H, H = s.heap := ⟨_, rfl⟩
  obtain ⟨locs, hlc⟩ : ∃ x : List Loc, x = [] := ⟨_, rfl⟩
  have hP : va_P D vwCl (wX9_holdsToMeet cy aM qM vM vM_r vM_st vM_trial) H := by rw [hH]; exact hP
  have hS : va_S A s.heap H locs := by rw [hH, hlc]; exact hS
  rw [show W p l e _ s m _ below meth c s.heap [] = W p l e _ s m _ below meth c H locs from by rw [hH, hlc]]
  refine lv_aload_n hx hb dX9_holdsToMeet_0 rfl (lv_at hl 0 rfl) ?_
  obtain ⟨vM_1, hc1, hok⟩ := k_bind hok
  refine kCv (wc := (wX9_good cy aM qM vM)) (wc2 := (wX9_good cy aM qM vM_1)) (wr := [(qM 15, rI cy 224 vM_r), (qM 17, rI cy 9 vM_st), (qM 22, rI cy 9 vM_trial)]) (ws2 := (wX9_holdsToMeet cy aM qM vM_1 vM_r vM_st vM_trial)) (kRunV (As := []) (rest := []) ⟨hx, hb, hml, hown, ht0⟩ (kX9_good l D cy _ aM qM vM vM_1 hc1 _ rfl) (cwV 0 ht0 (gV wd870 wd871 wd872 wd744 wd873) rfl rfl rfl (by decide +kernel) ⟨Nat.le_of_ble_eq_true rfl, Nat.le_of_ble_eq_true rfl⟩) hK hN hP hD [0] rfl (by decide) 0 8 rfl rfl rfl hl.1 rfl (Nat.le_of_ble_eq_true rfl) dX9_holdsToMeet_1 ⟨Nat.zero_le _, Nat.zero_le _⟩) hP hD hS hA [0] [1, 2, 3] rfl rfl (by decide) (by decide) [3, 0, 1, 2] (by decide) rfl rfl (fun H locs hP hD hS => ?_)
  refine lv_aload_n hx hb dX9_holdsToMeet_4 rfl (lv_at hl 0 rfl) ?_
  refine lv_aload_n hx hb dX9_holdsToMeet_5 rfl (lv_at hl 0 rfl) ?_
  refine lv_iload_n hx hb dX9_holdsToMeet_6 rfl (lv_at hl 1 rfl) ?_
  refine lv_iload_n hx hb dX9_holdsToMeet_7 rfl (lv_at hl 2 rfl) ?_
  obtain ⟨r8, hc8, hok⟩ := k_bind hok
  refine kCi (wc := (wX9_areTwo cy aM qM vM_1 vM_r)) (wc2 := (wX9_areTwo cy aM qM vM_1 vM_r)) (wr := [(qM 17, rI cy 9 vM_st), (qM 22, rI cy 9 vM_trial)]) (ws2 := (wX9_holdsToMeet cy aM qM vM_1 vM_r vM_st vM_trial)) (kRunV (As := [.int x1, .int x2]) (rest := [.ref aM]) ⟨hx, hb, hml, hown, ht0⟩ (kX9_areTwo l D cy _ aM qM vM_1 vM_r x1 x2 r8 hc8 _ rfl) (cwV 2 ht0 (gV wd952 wd953 wd954 wd744 wd955) rfl rfl rfl (by decide +kernel) ⟨Nat.le_of_ble_eq_true rfl, Nat.le_of_ble_eq_true rfl⟩) hK hN hP hD [0, 1] rfl (by decide) 0 8 rfl rfl rfl hl.1 rfl (Nat.le_of_ble_eq_true rfl) dX9_holdsToMeet_8 ⟨Nat.zero_le _, Nat.zero_le _⟩) hP hD hS hA [0, 1] [2, 3] rfl rfl (by decide) (by decide) [2, 3, 0, 1] (by decide) rfl rfl (fun H locs hP hD hS => ?_)
  refine lv_iload_n hx hb dX9_holdsToMeet_11 rfl (lv_at hl 3 rfl) ?_
  refine lv_bipush (v := 30) hx hb dX9_holdsToMeet_12 (by decide) ?_
  obtain ⟨r14, hc14, hok⟩ := k_bind hok
  refine kCi (wc := (wX9_why cy aM)) (wc2 := (wX9_why cy aM)) (wr := [(aM, oX9 vM_1 qM), (qM 15, rI cy 224 vM_r), (qM 17, rI cy 9 vM_st), (qM 22, rI cy 9 vM_trial)]) (ws2 := (wX9_holdsToMeet cy aM qM vM_1 vM_r vM_st vM_trial)) (kRunV (As := [.int r8, .int x3, .int 30]) (rest := []) ⟨hx, hb, hml, hown, ht0⟩ (kX9_why l D cy _ aM r8 x3 (30 : Int32) r14 hc14 _ rfl) (cwV 3 ht0 (gV wd944 wd945 wd946 wd744 wd947) rfl rfl rfl (by decide +kernel) ⟨Nat.le_of_ble_eq_true rfl, Nat.le_of_ble_eq_true rfl⟩) hK hN hP hD [] rfl (by decide) 0 8 rfl rfl rfl hl.1 rfl (Nat.le_of_ble_eq_true rfl) dX9_holdsToMeet_14 ⟨Nat.zero_le _, Nat.zero_le _⟩) hP hD hS hA [] [0, 1, 2, 3] rfl rfl (by decide) (by decide) [0, 1, 2, 3] (by decide) rfl rfl (fun H locs hP hD hS => ?_)
  refine lv_istore (lv' := [(4, .int r14), (0, .ref aM), (1, .int x1), (2, .int x2), (3, .int x3)]) hx hb dX9_holdsToMeet_17 hl (by decide) rfl (fun ls hl => ?_)
  refine lv_iload hx hb dX9_holdsToMeet_19 (lv_at hl 0 rfl) ?_
  refine lv_if_eq (tgt := 31) hx hb dX9_holdsToMeet_21 (by decide) (fun c21 => ?_) (fun c21 => ?_)
  · have hok := k_pos c21 hok
    refine lv_bipush (v := -2) hx hb dX9_holdsToMeet_31 (by decide) ?_
    refine lv_istore (lv' := [(5, .int (-2)), (4, .int r14), (0, .ref aM), (1, .int x1), (2, .int x2), (3, .int x3)]) hx hb dX9_holdsToMeet_33 hl (by decide) rfl (fun ls hl => ?_)
    refine lv_iconst (v := 0) hx hb dX9_holdsToMeet_35 (by decide) ?_
    refine lv_istore (lv' := [(6, .int 0), (5, .int (-2)), (4, .int r14), (0, .ref aM), (1, .int x1), (2, .int x2), (3, .int x3)]) hx hb dX9_holdsToMeet_36 hl (by decide) rfl (fun ls hl => ?_)
    exact L38 5000 (-2 : Int32) (0 : Int32) vM_trial vM_1 H locs ls hP hD hS (lv_sub hl [3, 4, 5, 6, 1, 0] rfl) hok
  · have hok := k_neg c21 hok
    refine lv_aload_n hx hb dX9_holdsToMeet_24 rfl (lv_at hl 1 rfl) ?_
    refine lv_iload hx hb dX9_holdsToMeet_25 (lv_at hl 0 rfl) ?_
    obtain ⟨⟨r27, vM_27⟩, hc27, hok⟩ := k_bind hok
    try dsimp only at hok
    refine kCi (wc := (wX9_no cy aM qM vM_1)) (wc2 := (wX9_no cy aM qM vM_27)) (wr := [(qM 15, rI cy 224 vM_r), (qM 17, rI cy 9 vM_st), (qM 22, rI cy 9 vM_trial)]) (ws2 := (wX9_holdsToMeet cy aM qM vM_27 vM_r vM_st vM_trial)) (kRunV (As := [.int r14]) (rest := []) ⟨hx, hb, hml, hown, ht0⟩ (kX9_no l D cy _ aM qM vM_1 r14 r27 vM_27 hc27 _ rfl) (cwV 1 ht0 (gV wd862 wd863 wd864 wd744 wd865) rfl rfl rfl (by decide +kernel) ⟨Nat.le_of_ble_eq_true rfl, Nat.le_of_ble_eq_true rfl⟩) hK hN hP hD [0] rfl (by decide) 0 8 rfl rfl rfl hl.1 rfl (Nat.le_of_ble_eq_true rfl) dX9_holdsToMeet_27 ⟨Nat.zero_le _, Nat.zero_le _⟩) hP hD hS hA [0] [1, 2, 3] rfl rfl (by decide) (by decide) [3, 0, 1, 2] (by decide) rfl rfl (fun H locs hP hD hS => ?_)
    cases hok
    subst hQe; exact W.iret hx hb hr (fun t ht hW => ⟨⟨_, (), rfl, rfl, by rw [ht]; exact hP, va_K.moved hW.alike hK, hD⟩, hS.F ht⟩) hS.2.2 dX9_holdsToMeet_30
