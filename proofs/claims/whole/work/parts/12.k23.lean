def wsX9_lookOf : List Cond := .code yX9_lookOf cX9_lookOf 6 (some .int) :: W0
abbrev wX9_lookOf (cy : Nat → ClassId) (aM : Nat) (qM : Nat → Nat) (vM : Nat → Int32) (vM_counts : Nat → Int32) (vM_r : Nat → Int32) : va_W := [(aM, oX9 vM qM), (qM 24, rI cy 1200 vM_counts), (qM 15, rI cy 224 vM_r)]
set_option maxHeartbeats 4000000 in
set_option maxRecDepth 100000 in
theorem kX9_lookOf (l : Launch) (D : va_G) (cy : Nat → ClassId) (sz : Nat) (aM : Nat) (qM : Nat → Nat) (vM : Nat → Int32) (vM_counts : Nat → Int32) (vM_r : Nat → Int32) (zr : Int32) (z_vM : Nat → Int32) (z_vM_counts : Nat → Int32) (hok : fX9_lookOf vM vM_counts vM_r = some (zr, z_vM, z_vM_counts)) (A : Nat → Prop) (hAe : va_A (wX9_lookOf cy aM qM vM vM_counts vM_r) sz = A) : Met l yX9_lookOf wsX9_lookOf ({ frames := 1, cells := 0, slots := 0, locals := 25 } : Room) (kPre D cy [.ref aM] (wX9_lookOf cy aM qM vM vM_counts vM_r) sz) (kQi D cy zr A (wX9_lookOf cy aM qM z_vM z_vM_counts vM_r)) 0 0 A := by
  refine Met.ofW (cc := cX9_lookOf) (maxL := 6) (ret := (some .int)) (by decide) rfl ?_
  intro p e s m args below meth c s₁ B hml hv
  obtain ⟨rfl, hsz, hP, hK, hD0, hN⟩ := hv
  have hx := B.exec
  have hb := B.bytes
  have hr := B.returns
  have ht0 : ∀ w ∈ W0, w.before _ s = true := fun w h => atoms_spec (ws := wsX9_lookOf) B.pre w (List.mem_cons_of_mem _ h)
  have hown : s.vm.findClass RX9 = some m.cls := findClass_of_methodNamed B.named
  have hlocks := B.notSynchronized
  subst hsz
  have hD : va_D A (wX9_lookOf cy aM qM vM vM_counts vM_r) := by rw [← hAe]; exact hD0.self
  have hA : ∀ q : Nat, s.heap.size ≤ q → A q := fun q h => by rw [← hAe]; exact Or.inr h
  have hS : va_S A s.heap s.heap [] := va_S.rf
  have hl := lv_entry ([.ref aM]) (n := 6) (Nat.le_of_ble_eq_true rfl)
  rw [lg_entry_eq]
  generalize (lg_sl ([.ref aM]) ++ List.replicate (6 - (lg_sl ([.ref aM])).length) Slot.unset).toArray = ls at hl ⊢
  have hl : lv_has ls 6 [(0, .ref aM)] := hl
  generalize hQe : MQ below (kQi D cy zr A (wX9_lookOf cy aM qM z_vM z_vM_counts vM_r)) ([.ref aM] : List Value).toArray s 0 0 A = Q
  have J222 : ∀ (y2_222 : Int32) (vM_counts_222 : Nat → Int32) (vM_222 : Nat → Int32), ∀ (H : Heap) (locs : List Loc) (ls : Array Slot), va_P D vwCl (wX9_lookOf cy aM qM vM_222 vM_counts_222 vM_r) H → va_D A (wX9_lookOf cy aM qM vM_222 vM_counts_222 vM_r) → va_S A s.heap H locs → lv_has ls 6 [(2, .int y2_222)] → fX9_lookOf_J222 y2_222 vM_counts_222 vM_222 = some (zr, z_vM, z_vM_counts) → W p l e ({ frames := 1, cells := 0, slots := 0, locals := 25 } : Room) s m ([.ref aM] : List Value).toArray below meth c H locs 0 0 Q (F0 m 222 ls []) := by
    intro y2_222 vM_counts_222 vM_222 H locs ls hP hD hS hl hok
    unfold fX9_lookOf_J222 at hok
    refine lv_iload_n hx hb dX9_lookOf_222 rfl (lv_at hl 0 rfl) ?_
    cases hok
    subst hQe; exact W.iret hx hb hr (fun t ht hW => ⟨⟨_, (), rfl, rfl, by rw [ht]; exact hP, va_K.moved hW.alike hK, hD⟩, hS.F ht⟩) hS.2.2 dX9_lookOf_223
  have L134 : ∀ (fuel : Nat) (y1_134 : Int32) (y2_134 : Int32) (y3_134 : Int32) (vM_counts_134 : Nat → Int32) (vM_134 : Nat → Int32), ∀ (H : Heap) (locs : List Loc) (ls : Array Slot), va_P D vwCl (wX9_lookOf cy aM qM vM_134 vM_counts_134 vM_r) H → va_D A (wX9_lookOf cy aM qM vM_134 vM_counts_134 vM_r) → va_S A s.heap H locs → lv_has ls 6 [(0, .ref aM), (1, .int y1_134), (2, .int y2_134), (3, .int y3_134)] → lp (fX9_lookOf_B134) fuel (y1_134, y2_134, y3_134, vM_counts_134, vM_134) = some (zr, z_vM, z_vM_counts) → W p l e ({ frames := 1, cells := 0, slots := 0, locals := 25 } : Room) s m ([.ref aM] : List Value).toArray below meth c H locs 0 0 Q (F0 m 134 ls []) := by
    intro fuel
    induction fuel with
    | zero => intro y1_134 y2_134 y3_134 vM_counts_134 vM_134 H locs ls hP hD hS hl hok; exact (lp_0 hok).elim
    | succ fuel ih134 =>
      intro y1_134 y2_134 y3_134 vM_counts_134 vM_134 H locs ls hP hD hS hl hok
      obtain ⟨y134, hok, hL134, hR134⟩ := lp_step hok
      have J216 : ∀ (y2_216 : Int32) (vM_216 : Nat → Int32), ∀ (H : Heap) (locs : List Loc) (ls : Array Slot), va_P D vwCl (wX9_lookOf cy aM qM vM_216 vM_counts_134 vM_r) H → va_D A (wX9_lookOf cy aM qM vM_216 vM_counts_134 vM_r) → va_S A s.heap H locs → lv_has ls 6 [(0, .ref aM), (1, .int y1_134), (2, .int y2_216), (3, .int y3_134)] → fX9_lookOf_J216 y1_134 y3_134 vM_counts_134 y2_216 vM_216 = some y134 → W p l e ({ frames := 1, cells := 0, slots := 0, locals := 25 } : Room) s m ([.ref aM] : List Value).toArray below meth c H locs 0 0 Q (F0 m 216 ls []) := by
        intro y2_216 vM_216 H locs ls hP hD hS hl hok
        unfold fX9_lookOf_J216 at hok
        refine lv_iinc (v := (y3_134 + 1)) (lv' := [(3, .int (y3_134 + 1)), (0, .ref aM), (1, .int y1_134), (2, .int y2_216)]) hx hb dX9_lookOf_216 hl (k := 3) rfl (by first | rfl | decide) (by decide) rfl (fun ls hl => ?_)
        refine lv_goto (tgt := 134) hx hb dX9_lookOf_219 (by decide) ?_
        exact ih134 y1_134 y2_216 (y3_134 + 1) vM_counts_134 vM_216 H locs ls hP hD hS (lv_sub hl [1, 2, 3, 0] rfl) (hR134 _ (Option.some.inj hok).symm)
      have J197 : ∀ (y4_197 : Int32), ∀ (H : Heap) (locs : List Loc) (ls : Array Slot), va_P D vwCl (wX9_lookOf cy aM qM vM_134 vM_counts_134 vM_r) H → va_D A (wX9_lookOf cy aM qM vM_134 vM_counts_134 vM_r) → va_S A s.heap H locs → lv_has ls 6 [(0, .ref aM), (1, .int y1_134), (3, .int y3_134), (4, .int y4_197)] → fX9_lookOf_J197 y1_134 y3_134 vM_counts_134 vM_134 y4_197 = some y134 → W p l e ({ frames := 1, cells := 0, slots := 0, locals := 25 } : Room) s m ([.ref aM] : List Value).toArray below meth c H locs 0 0 Q (F0 m 197 ls []) := by
        intro y4_197 H locs ls hP hD hS hl hok
        unfold fX9_lookOf_J197 at hok
        refine lv_bipush (v := 100) hx hb dX9_lookOf_197 (by decide) ?_
        refine lv_iload_n hx hb dX9_lookOf_199 rfl (lv_at hl 2 rfl) ?_
        refine lv_bipush (v := 12) hx hb dX9_lookOf_200 (by decide) ?_
        refine lv_idiv hx hb dX9_lookOf_202 (by decide) ?_
        refine lv_imul hx hb dX9_lookOf_203 ?_
        refine lv_iload_n hx hb dX9_lookOf_204 rfl (lv_at hl 2 rfl) ?_
        refine lv_bipush (v := 12) hx hb dX9_lookOf_205 (by decide) ?_
        refine lv_irem hx hb dX9_lookOf_207 (by decide) ?_
        refine lv_iadd hx hb dX9_lookOf_208 ?_
        refine lv_istore_n (lv' := [(2, .int (((100 : Int32) * (y3_134 / (12 : Int32))) + (irm y3_134 (12 : Int32)))), (0, .ref aM), (1, .int y1_134), (3, .int y3_134), (4, .int y4_197)]) hx hb dX9_lookOf_209 rfl hl (by decide) rfl (fun ls hl => ?_)
        refine lv_aload_n hx hb dX9_lookOf_210 rfl (lv_at hl 1 rfl) ?_
        refine lv_iload hx hb dX9_lookOf_211 (lv_at hl 4 rfl) ?_
        refine va_put (D := D) (ci := 8) (v := .int y4_197) (ty := .int) (C := RX9) (T := TX9) (N := 29) hx hb ht0 niX9 tyX9 tyX9_ok nmX9 hown hK hP hD hS 0 rfl rfl 25 (by decide) (ht0 _ wd994) (fun _ h9 => h9) rfl (by decide +kernel) rfl rfl (Nat.le_of_ble_eq_true rfl) dX9_lookOf_213 (fun H locs hP hD hS => ?_)
        have hP : va_P D vwCl (wX9_lookOf cy aM qM (upd vM_134 25 y4_197) vM_counts_134 vM_r) H := hP
        have hD : va_D A (wX9_lookOf cy aM qM (upd vM_134 25 y4_197) vM_counts_134 vM_r) := hD
        exact J216 (((100 : Int32) * (y3_134 / (12 : Int32))) + (irm y3_134 (12 : Int32))) (upd vM_134 25 y4_197) H locs ls hP hD hS (lv_sub hl [1, 2, 0, 3] rfl) hok
      have J179 : ∀ (t0_179 : Int32), ∀ (H : Heap) (locs : List Loc) (ls : Array Slot), va_P D vwCl (wX9_lookOf cy aM qM vM_134 vM_counts_134 vM_r) H → va_D A (wX9_lookOf cy aM qM vM_134 vM_counts_134 vM_r) → va_S A s.heap H locs → lv_has ls 6 [(0, .ref aM), (1, .int y1_134), (2, .int y2_134), (3, .int y3_134)] → fX9_lookOf_J179 y1_134 y2_134 y3_134 vM_counts_134 vM_134 t0_179 = some y134 → W p l e ({ frames := 1, cells := 0, slots := 0, locals := 25 } : Room) s m ([.ref aM] : List Value).toArray below meth c H locs 0 0 Q (F0 m 179 ls [.int t0_179]) := by
        intro t0_179 H locs ls hP hD hS hl hok
        unfold fX9_lookOf_J179 at hok
        refine lv_istore (lv' := [(4, .int t0_179), (0, .ref aM), (1, .int y1_134), (2, .int y2_134), (3, .int y3_134)]) hx hb dX9_lookOf_179 hl (by decide) rfl (fun ls hl => ?_)
        refine lv_iload_n hx hb dX9_lookOf_181 rfl (lv_at hl 3 rfl) ?_
        refine lv_if_lt (tgt := 197) hx hb dX9_lookOf_182 (by decide) (fun c182 => ?_) (fun c182 => ?_)
        · have hok := k_pos c182 hok
          exact J197 t0_179 H locs ls hP hD hS (lv_sub hl [1, 2, 4, 0] rfl) hok
        · have hok := k_neg c182 hok
          refine lv_iload hx hb dX9_lookOf_185 (lv_at hl 0 rfl) ?_
          refine lv_aload_n hx hb dX9_lookOf_187 rfl (lv_at hl 1 rfl) ?_
          refine va_get (D := D) (ci := 8) (v := .int (vM_134 25)) (C := RX9) (T := TX9) (N := 29) hx hb ht0 niX9 hown hK hP 0 rfl rfl 25 (by decide) (ht0 _ wd994) (fun _ h9 => h9) rfl dX9_lookOf_188 ?_
          refine lv_icmp_lt (tgt := 197) hx hb dX9_lookOf_191 (by decide) (fun c191 => ?_) (fun c191 => ?_)
          · have hok := k_pos c191 hok
            exact J197 t0_179 H locs ls hP hD hS (lv_sub hl [1, 2, 4, 0] rfl) hok
          · have hok := k_neg c191 hok
            refine lv_goto (tgt := 216) hx hb dX9_lookOf_194 (by decide) ?_
            exact J216 y2_134 vM_134 H locs ls hP hD hS (lv_sub hl [1, 2, 3, 4] rfl) hok
      unfold fX9_lookOf_B134 at hok
      try dsimp only at hok
      refine lv_iload_n hx hb dX9_lookOf_134 rfl (lv_at hl 3 rfl) ?_
      refine lv_sipush (v := 1200) hx hb dX9_lookOf_135 (by decide) ?_
      refine lv_icmp_ge (tgt := 222) hx hb dX9_lookOf_138 (by decide) (fun c138 => ?_) (fun c138 => ?_)
      · have hok := k_pos c138 hok
        obtain ⟨e134, hok, he134⟩ := ex_some hok
        have hok := hok.trans (congrArg some (hL134 _ he134))
        exact J222 y2_134 vM_counts_134 vM_134 H locs ls hP hD hS (lv_sub hl [2] rfl) hok
      · have hok := k_neg c138 hok
        refine lv_iload_n hx hb dX9_lookOf_141 rfl (lv_at hl 1 rfl) ?_
        refine lv_if_le (tgt := 222) hx hb dX9_lookOf_142 (by decide) (fun c142 => ?_) (fun c142 => ?_)
        · have hok := k_pos c142 hok
          obtain ⟨e134, hok, he134⟩ := ex_some hok
          have hok := hok.trans (congrArg some (hL134 _ he134))
          exact J222 y2_134 vM_counts_134 vM_134 H locs ls hP hD hS (lv_sub hl [2] rfl) hok
        · have hok := k_neg c142 hok
          refine lv_aload_n hx hb dX9_lookOf_145 rfl (lv_at hl 0 rfl) ?_
          refine va_get (D := D) (ci := 8) (v := .ref (qM 24)) (C := RX9) (T := TX9) (N := 29) hx hb ht0 niX9 hown hK hP 0 rfl rfl 24 (by decide) (ht0 _ wd995) (fun _ h9 => h9) rfl dX9_lookOf_146 ?_
          refine lv_iload_n hx hb dX9_lookOf_149 rfl (lv_at hl 3 rfl) ?_
          obtain ⟨g150, hok⟩ := gd_some hok
          refine va_iald hx hb hK hP 1 0 rfl rfl (okI_in g150) dX9_lookOf_150 ?_
          refine lv_iload_n hx hb dX9_lookOf_151 rfl (lv_at hl 1 rfl) ?_
          refine lv_aload_n hx hb dX9_lookOf_152 rfl (lv_at hl 0 rfl) ?_
          refine va_get (D := D) (ci := 8) (v := .ref (qM 24)) (C := RX9) (T := TX9) (N := 29) hx hb ht0 niX9 hown hK hP 0 rfl rfl 24 (by decide) (ht0 _ wd995) (fun _ h9 => h9) rfl dX9_lookOf_153 ?_
          refine lv_iload_n hx hb dX9_lookOf_156 rfl (lv_at hl 3 rfl) ?_
          obtain ⟨g157, hok⟩ := gd_some hok
          refine va_iald hx hb hK hP 1 0 rfl rfl (okI_in g157) dX9_lookOf_157 ?_
          refine lv_isub hx hb dX9_lookOf_158 ?_
          refine lv_icmp_le (tgt := 171) hx hb dX9_lookOf_159 (by decide) (fun c159 => ?_) (fun c159 => ?_)
          · have hok := k_pos c159 hok
            refine lv_iload_n hx hb dX9_lookOf_171 rfl (lv_at hl 1 rfl) ?_
            refine lv_aload_n hx hb dX9_lookOf_172 rfl (lv_at hl 0 rfl) ?_
            refine va_get (D := D) (ci := 8) (v := .ref (qM 24)) (C := RX9) (T := TX9) (N := 29) hx hb ht0 niX9 hown hK hP 0 rfl rfl 24 (by decide) (ht0 _ wd995) (fun _ h9 => h9) rfl dX9_lookOf_173 ?_
            refine lv_iload_n hx hb dX9_lookOf_176 rfl (lv_at hl 3 rfl) ?_
            obtain ⟨g177, hok⟩ := gd_some hok
            refine va_iald hx hb hK hP 1 0 rfl rfl (okI_in g177) dX9_lookOf_177 ?_
            refine lv_isub hx hb dX9_lookOf_178 ?_
            exact J179 (y1_134 - (vM_counts_134 y3_134.toNatClampNeg)) H locs ls hP hD hS (lv_sub hl [0, 1, 2, 3] rfl) hok
          · have hok := k_neg c159 hok
            refine lv_aload_n hx hb dX9_lookOf_162 rfl (lv_at hl 0 rfl) ?_
            refine va_get (D := D) (ci := 8) (v := .ref (qM 24)) (C := RX9) (T := TX9) (N := 29) hx hb ht0 niX9 hown hK hP 0 rfl rfl 24 (by decide) (ht0 _ wd995) (fun _ h9 => h9) rfl dX9_lookOf_163 ?_
            refine lv_iload_n hx hb dX9_lookOf_166 rfl (lv_at hl 3 rfl) ?_
            obtain ⟨g167, hok⟩ := gd_some hok
            refine va_iald hx hb hK hP 1 0 rfl rfl (okI_in g167) dX9_lookOf_167 ?_
            refine lv_goto (tgt := 179) hx hb dX9_lookOf_168 (by decide) ?_
            exact J179 (vM_counts_134 y3_134.toNatClampNeg) H locs ls hP hD hS (lv_sub hl [0, 1, 2, 3] rfl) hok
  have L26 : ∀ (fuel : Nat) (y1_26 : Int32) (y2_26 : Int32) (vM_counts_26 : Nat → Int32), ∀ (H : Heap) (locs : List Loc) (ls : Array Slot), va_P D vwCl (wX9_lookOf cy aM qM vM vM_counts_26 vM_r) H → va_D A (wX9_lookOf cy aM qM vM vM_counts_26 vM_r) → va_S A s.heap H locs → lv_has ls 6 [(0, .ref aM), (1, .int y1_26), (2, .int y2_26)] → lp (fX9_lookOf_B26 vM vM_r) fuel (y1_26, y2_26, vM_counts_26) = some (zr, z_vM, z_vM_counts) → W p l e ({ frames := 1, cells := 0, slots := 0, locals := 25 } : Room) s m ([.ref aM] : List Value).toArray below meth c H locs 0 0 Q (F0 m 26 ls []) := by
    intro fuel
    induction fuel with
    | zero => intro y1_26 y2_26 vM_counts_26 H locs ls hP hD hS hl hok; exact (lp_0 hok).elim
    | succ fuel ih26 =>
      intro y1_26 y2_26 vM_counts_26 H locs ls hP hD hS hl hok
      obtain ⟨y26, hok, hL26, hR26⟩ := lp_step hok
      have L34 : ∀ (fuel : Nat) (y1_34 : Int32) (y3_34 : Int32) (vM_counts_34 : Nat → Int32), ∀ (H : Heap) (locs : List Loc) (ls : Array Slot), va_P D vwCl (wX9_lookOf cy aM qM vM vM_counts_34 vM_r) H → va_D A (wX9_lookOf cy aM qM vM vM_counts_34 vM_r) → va_S A s.heap H locs → lv_has ls 6 [(0, .ref aM), (1, .int y1_34), (2, .int y2_26), (3, .int y3_34)] → lp (fX9_lookOf_B34 vM vM_r y2_26) fuel (y1_34, y3_34, vM_counts_34) = some y26 → W p l e ({ frames := 1, cells := 0, slots := 0, locals := 25 } : Room) s m ([.ref aM] : List Value).toArray below meth c H locs 0 0 Q (F0 m 34 ls []) := by
        intro fuel
        induction fuel with
        | zero => intro y1_34 y3_34 vM_counts_34 H locs ls hP hD hS hl hok; exact (lp_0 hok).elim
        | succ fuel ih34 =>
          intro y1_34 y3_34 vM_counts_34 H locs ls hP hD hS hl hok
          obtain ⟨y34, hok, hL34, hR34⟩ := lp_step hok
          have L42 : ∀ (fuel : Nat) (y1_42 : Int32) (y4_42 : Int32) (vM_counts_42 : Nat → Int32), ∀ (H : Heap) (locs : List Loc) (ls : Array Slot), va_P D vwCl (wX9_lookOf cy aM qM vM vM_counts_42 vM_r) H → va_D A (wX9_lookOf cy aM qM vM vM_counts_42 vM_r) → va_S A s.heap H locs → lv_has ls 6 [(0, .ref aM), (1, .int y1_42), (2, .int y2_26), (3, .int y3_34), (4, .int y4_42)] → lp (fX9_lookOf_B42 vM vM_r y2_26 y3_34) fuel (y1_42, y4_42, vM_counts_42) = some y34 → W p l e ({ frames := 1, cells := 0, slots := 0, locals := 25 } : Room) s m ([.ref aM] : List Value).toArray below meth c H locs 0 0 Q (F0 m 42 ls []) := by
            intro fuel
            induction fuel with
            | zero => intro y1_42 y4_42 vM_counts_42 H locs ls hP hD hS hl hok; exact (lp_0 hok).elim
            | succ fuel ih42 =>
              intro y1_42 y4_42 vM_counts_42 H locs ls hP hD hS hl hok
              obtain ⟨y42, hok, hL42, hR42⟩ := lp_step hok
              have J105 : ∀ (y1_105 : Int32) (vM_counts_105 : Nat → Int32), ∀ (H : Heap) (locs : List Loc) (ls : Array Slot), va_P D vwCl (wX9_lookOf cy aM qM vM vM_counts_105 vM_r) H → va_D A (wX9_lookOf cy aM qM vM vM_counts_105 vM_r) → va_S A s.heap H locs → lv_has ls 6 [(0, .ref aM), (1, .int y1_105), (2, .int y2_26), (3, .int y3_34), (4, .int y4_42)] → fX9_lookOf_J105 y4_42 y1_105 vM_counts_105 = some y42 → W p l e ({ frames := 1, cells := 0, slots := 0, locals := 25 } : Room) s m ([.ref aM] : List Value).toArray below meth c H locs 0 0 Q (F0 m 105 ls []) := by
                intro y1_105 vM_counts_105 H locs ls hP hD hS hl hok
                unfold fX9_lookOf_J105 at hok
                refine lv_iinc (v := (y4_42 + 1)) (lv' := [(4, .int (y4_42 + 1)), (0, .ref aM), (1, .int y1_105), (2, .int y2_26), (3, .int y3_34)]) hx hb dX9_lookOf_105 hl (k := 4) rfl (by first | rfl | decide) (by decide) rfl (fun ls hl => ?_)
                refine lv_goto (tgt := 42) hx hb dX9_lookOf_108 (by decide) ?_
                exact ih42 y1_105 (y4_42 + 1) vM_counts_105 H locs ls hP hD hS (lv_sub hl [1, 2, 3, 4, 0] rfl) (hR42 _ (Option.some.inj hok).symm)
              have L68 : ∀ (fuel : Nat) (y5_68 : Int32) (vM_counts_68 : Nat → Int32), ∀ (H : Heap) (locs : List Loc) (ls : Array Slot), va_P D vwCl (wX9_lookOf cy aM qM vM vM_counts_68 vM_r) H → va_D A (wX9_lookOf cy aM qM vM vM_counts_68 vM_r) → va_S A s.heap H locs → lv_has ls 6 [(0, .ref aM), (1, .int (y1_42 + 1)), (2, .int y2_26), (3, .int y3_34), (4, .int y4_42), (5, .int y5_68)] → lp (fX9_lookOf_B68 y2_26 y3_34 y1_42 y4_42) fuel (y5_68, vM_counts_68) = some y42 → W p l e ({ frames := 1, cells := 0, slots := 0, locals := 25 } : Room) s m ([.ref aM] : List Value).toArray below meth c H locs 0 0 Q (F0 m 68 ls []) := by
                intro fuel
                induction fuel with
                | zero => intro y5_68 vM_counts_68 H locs ls hP hD hS hl hok; exact (lp_0 hok).elim
                | succ fuel ih68 =>
                  intro y5_68 vM_counts_68 H locs ls hP hD hS hl hok
                  obtain ⟨y68, hok, hL68, hR68⟩ := lp_step hok
                  unfold fX9_lookOf_B68 at hok
                  try dsimp only at hok
                  refine lv_iload hx hb dX9_lookOf_68 (lv_at hl 5 rfl) ?_
                  refine lv_bipush (v := 100) hx hb dX9_lookOf_70 (by decide) ?_
                  refine lv_icmp_ge (tgt := 105) hx hb dX9_lookOf_72 (by decide) (fun c72 => ?_) (fun c72 => ?_)
                  · have hok := k_pos c72 hok
                    obtain ⟨e68, hok, he68⟩ := ex_some hok
                    have hok := hok.trans (congrArg some (hL68 _ he68))
                    exact J105 (y1_42 + 1) vM_counts_68 H locs ls hP hD hS (lv_sub hl [0, 1, 2, 3, 4] rfl) hok
                  · have hok := k_neg c72 hok
                    refine lv_aload_n hx hb dX9_lookOf_75 rfl (lv_at hl 0 rfl) ?_
                    refine va_get (D := D) (ci := 8) (v := .ref (qM 24)) (C := RX9) (T := TX9) (N := 29) hx hb ht0 niX9 hown hK hP 0 rfl rfl 24 (by decide) (ht0 _ wd995) (fun _ h9 => h9) rfl dX9_lookOf_76 ?_
                    refine lv_bipush (v := 12) hx hb dX9_lookOf_79 (by decide) ?_
                    refine lv_iload hx hb dX9_lookOf_81 (lv_at hl 5 rfl) ?_
                    refine lv_imul hx hb dX9_lookOf_83 ?_
                    refine lv_iload hx hb dX9_lookOf_84 (lv_at hl 4 rfl) ?_
                    refine lv_iload_n hx hb dX9_lookOf_86 rfl (lv_at hl 3 rfl) ?_
                    refine lv_iload hx hb dX9_lookOf_87 (lv_at hl 5 rfl) ?_
                    refine lv_imul hx hb dX9_lookOf_89 ?_
                    refine lv_iadd hx hb dX9_lookOf_90 ?_
                    refine lv_iload_n hx hb dX9_lookOf_91 rfl (lv_at hl 2 rfl) ?_
                    obtain ⟨g92, hok⟩ := gd_some hok
                    refine lv_irem hx hb dX9_lookOf_92 (nzI_ne g92) ?_
                    refine lv_iadd hx hb dX9_lookOf_93 ?_
                    refine lv_dup2_11 hx hb dX9_lookOf_94 rfl rfl ?_
                    obtain ⟨g95, hok⟩ := gd_some hok
                    refine va_iald hx hb hK hP 1 0 rfl rfl (okI_in g95) dX9_lookOf_95 ?_
                    refine lv_iconst (v := 1) hx hb dX9_lookOf_96 (by decide) ?_
                    refine lv_iadd hx hb dX9_lookOf_97 ?_
                    obtain ⟨g98, hok⟩ := gd_some hok
                    refine va_iast hx hb hK hP hD hS 1 0 rfl rfl (okI_in g98) dX9_lookOf_98 (fun H locs hP hD hS => ?_)
                    have hP : va_P D vwCl (wX9_lookOf cy aM qM vM (upd vM_counts_68 (((12 : Int32) * y5_68) + (irm (y4_42 + (y3_34 * y5_68)) y2_26)).toNatClampNeg ((vM_counts_68 (((12 : Int32) * y5_68) + (irm (y4_42 + (y3_34 * y5_68)) y2_26)).toNatClampNeg) + (1 : Int32))) vM_r) H := hP
                    have hD : va_D A (wX9_lookOf cy aM qM vM (upd vM_counts_68 (((12 : Int32) * y5_68) + (irm (y4_42 + (y3_34 * y5_68)) y2_26)).toNatClampNeg ((vM_counts_68 (((12 : Int32) * y5_68) + (irm (y4_42 + (y3_34 * y5_68)) y2_26)).toNatClampNeg) + (1 : Int32))) vM_r) := hD
                    refine lv_iinc (v := (y5_68 + 1)) (lv' := [(5, .int (y5_68 + 1)), (0, .ref aM), (1, .int (y1_42 + 1)), (2, .int y2_26), (3, .int y3_34), (4, .int y4_42)]) hx hb dX9_lookOf_99 hl (k := 5) rfl (by first | rfl | decide) (by decide) rfl (fun ls hl => ?_)
                    refine lv_goto (tgt := 68) hx hb dX9_lookOf_102 (by decide) ?_
                    exact ih68 (y5_68 + 1) (upd vM_counts_68 (((12 : Int32) * y5_68) + (irm (y4_42 + (y3_34 * y5_68)) y2_26)).toNatClampNeg ((vM_counts_68 (((12 : Int32) * y5_68) + (irm (y4_42 + (y3_34 * y5_68)) y2_26)).toNatClampNeg) + (1 : Int32))) H locs ls hP hD hS (lv_sub hl [1, 2, 3, 4, 5, 0] rfl) (hR68 _ (Option.some.inj hok).symm)
              unfold fX9_lookOf_B42 at hok
              try dsimp only at hok
              refine lv_iload hx hb dX9_lookOf_42 (lv_at hl 4 rfl) ?_
              refine lv_iload_n hx hb dX9_lookOf_44 rfl (lv_at hl 2 rfl) ?_
              refine lv_icmp_ge (tgt := 111) hx hb dX9_lookOf_45 (by decide) (fun c45 => ?_) (fun c45 => ?_)
              · have hok := k_pos c45 hok
                obtain ⟨e42, hok, he42⟩ := ex_some hok
                have hok := hok.trans (congrArg some (hL42 _ he42))
                refine lv_iinc (v := (y3_34 + 1)) (lv' := [(3, .int (y3_34 + 1)), (0, .ref aM), (1, .int y1_42), (2, .int y2_26), (4, .int y4_42)]) hx hb dX9_lookOf_111 hl (k := 3) rfl (by first | rfl | decide) (by decide) rfl (fun ls hl => ?_)
                refine lv_goto (tgt := 34) hx hb dX9_lookOf_114 (by decide) ?_
                exact ih34 y1_42 (y3_34 + 1) vM_counts_42 H locs ls hP hD hS (lv_sub hl [1, 2, 3, 0] rfl) (hR34 _ (Option.some.inj hok).symm)
              · have hok := k_neg c45 hok
                refine lv_aload_n hx hb dX9_lookOf_48 rfl (lv_at hl 0 rfl) ?_
                refine lv_iload_n hx hb dX9_lookOf_49 rfl (lv_at hl 2 rfl) ?_
                refine lv_iload_n hx hb dX9_lookOf_50 rfl (lv_at hl 3 rfl) ?_
                refine lv_iload hx hb dX9_lookOf_51 (lv_at hl 4 rfl) ?_
                obtain ⟨r53, hc53, hok⟩ := k_bind hok
                refine kCi (wc := (wX9_isRule cy aM qM vM vM_r)) (wc2 := (wX9_isRule cy aM qM vM vM_r)) (wr := [(qM 24, rI cy 1200 vM_counts_42)]) (ws2 := (wX9_lookOf cy aM qM vM vM_counts_42 vM_r)) (kRunV (As := [.int y2_26, .int y3_34, .int y4_42]) (rest := []) ⟨hx, hb, hml, hown, ht0⟩ (kX9_isRule l D cy _ aM qM vM vM_r y2_26 y3_34 y4_42 r53 hc53 _ rfl) (cwV 3 ht0 (gV wd986 wd987 wd988 wd744 wd989) rfl rfl rfl (by decide +kernel) ⟨Nat.le_of_ble_eq_true rfl, Nat.le_of_ble_eq_true rfl⟩) hK hN hP hD [0, 2] rfl (by decide) 0 8 rfl rfl rfl hl.1 rfl (Nat.le_of_ble_eq_true rfl) dX9_lookOf_53 ⟨Nat.zero_le _, Nat.zero_le _⟩) hP hD hS hA [0, 2] [1] rfl rfl (by decide) (by decide) [1, 0, 2] (by decide) rfl rfl (fun H locs hP hD hS => ?_)
                refine lv_if_ne (tgt := 62) hx hb dX9_lookOf_56 (by decide) (fun c56 => ?_) (fun c56 => ?_)
                · have hok := k_neg c56 hok
                  refine lv_iinc (v := (y1_42 + 1)) (lv' := [(1, .int (y1_42 + 1)), (0, .ref aM), (2, .int y2_26), (3, .int y3_34), (4, .int y4_42)]) hx hb dX9_lookOf_62 hl (k := 1) rfl (by first | rfl | decide) (by decide) rfl (fun ls hl => ?_)
                  refine lv_iconst (v := 0) hx hb dX9_lookOf_65 (by decide) ?_
                  refine lv_istore (lv' := [(5, .int 0), (1, .int (y1_42 + 1)), (0, .ref aM), (2, .int y2_26), (3, .int y3_34), (4, .int y4_42)]) hx hb dX9_lookOf_66 hl (by decide) rfl (fun ls hl => ?_)
                  exact L68 5000 (0 : Int32) vM_counts_42 H locs ls hP hD hS (lv_sub hl [2, 1, 3, 4, 5, 0] rfl) hok
                · have hok := k_pos c56 hok
                  refine lv_goto (tgt := 105) hx hb dX9_lookOf_59 (by decide) ?_
                  exact J105 y1_42 vM_counts_42 H locs ls hP hD hS (lv_sub hl [0, 1, 2, 3, 4] rfl) hok
          unfold fX9_lookOf_B34 at hok
          try dsimp only at hok
          refine lv_iload_n hx hb dX9_lookOf_34 rfl (lv_at hl 3 rfl) ?_
          refine lv_iload_n hx hb dX9_lookOf_35 rfl (lv_at hl 2 rfl) ?_
          refine lv_icmp_ge (tgt := 117) hx hb dX9_lookOf_36 (by decide) (fun c36 => ?_) (fun c36 => ?_)
          · have hok := k_pos c36 hok
            obtain ⟨e34, hok, he34⟩ := ex_some hok
            have hok := hok.trans (congrArg some (hL34 _ he34))
            refine lv_iinc (v := (y2_26 + 1)) (lv' := [(2, .int (y2_26 + 1)), (0, .ref aM), (1, .int y1_34), (3, .int y3_34)]) hx hb dX9_lookOf_117 hl (k := 2) rfl (by first | rfl | decide) (by decide) rfl (fun ls hl => ?_)
            refine lv_goto (tgt := 26) hx hb dX9_lookOf_120 (by decide) ?_
            exact ih26 y1_34 (y2_26 + 1) vM_counts_34 H locs ls hP hD hS (lv_sub hl [1, 2, 0] rfl) (hR26 _ (Option.some.inj hok).symm)
          · have hok := k_neg c36 hok
            refine lv_iconst (v := 0) hx hb dX9_lookOf_39 (by decide) ?_
            refine lv_istore (lv' := [(4, .int 0), (0, .ref aM), (1, .int y1_34), (2, .int y2_26), (3, .int y3_34)]) hx hb dX9_lookOf_40 hl (by decide) rfl (fun ls hl => ?_)
            exact L42 5000 y1_34 (0 : Int32) vM_counts_34 H locs ls hP hD hS (lv_sub hl [1, 2, 3, 4, 0] rfl) hok
      unfold fX9_lookOf_B26 at hok
      try dsimp only at hok
      refine lv_iload_n hx hb dX9_lookOf_26 rfl (lv_at hl 2 rfl) ?_
      refine lv_bipush (v := 12) hx hb dX9_lookOf_27 (by decide) ?_
      refine lv_icmp_gt (tgt := 123) hx hb dX9_lookOf_29 (by decide) (fun c29 => ?_) (fun c29 => ?_)
      · have hok := k_pos c29 hok
        obtain ⟨e26, hok, he26⟩ := ex_some hok
        have hok := hok.trans (congrArg some (hL26 _ he26))
        refine lv_aload_n hx hb dX9_lookOf_123 rfl (lv_at hl 0 rfl) ?_
        refine lv_bipush (v := -2) hx hb dX9_lookOf_124 (by decide) ?_
        refine va_put (D := D) (ci := 8) (v := .int (-2)) (ty := .int) (C := RX9) (T := TX9) (N := 29) hx hb ht0 niX9 tyX9 tyX9_ok nmX9 hown hK hP hD hS 0 rfl rfl 25 (by decide) (ht0 _ wd994) (fun _ h9 => h9) rfl (by decide +kernel) rfl rfl (Nat.le_of_ble_eq_true rfl) dX9_lookOf_126 (fun H locs hP hD hS => ?_)
        have hP : va_P D vwCl (wX9_lookOf cy aM qM (upd vM 25 (-2 : Int32)) vM_counts_26 vM_r) H := hP
        have hD : va_D A (wX9_lookOf cy aM qM (upd vM 25 (-2 : Int32)) vM_counts_26 vM_r) := hD
        refine lv_bipush (v := -2) hx hb dX9_lookOf_129 (by decide) ?_
        refine lv_istore_n (lv' := [(2, .int (-2)), (0, .ref aM), (1, .int y1_26)]) hx hb dX9_lookOf_131 rfl hl (by decide) rfl (fun ls hl => ?_)
        refine lv_iconst (v := 0) hx hb dX9_lookOf_132 (by decide) ?_
        refine lv_istore_n (lv' := [(3, .int 0), (2, .int (-2)), (0, .ref aM), (1, .int y1_26)]) hx hb dX9_lookOf_133 rfl hl (by decide) rfl (fun ls hl => ?_)
        exact L134 5000 y1_26 (-2 : Int32) (0 : Int32) vM_counts_26 (upd vM 25 (-2 : Int32)) H locs ls hP hD hS (lv_sub hl [2, 3, 1, 0] rfl) hok
      · have hok := k_neg c29 hok
        refine lv_iconst (v := 1) hx hb dX9_lookOf_32 (by decide) ?_
        refine lv_istore_n (lv' := [(3, .int 1), (0, .ref aM), (1, .int y1_26), (2, .int y2_26)]) hx hb dX9_lookOf_33 rfl hl (by decide) rfl (fun ls hl => ?_)
        exact L34 5000 y1_26 (1 : Int32) vM_counts_26 H locs ls hP hD hS (lv_sub hl [1, 2, 3, 0] rfl) hok
  have L4 : ∀ (fuel : Nat) (y2_4 : Int32) (vM_counts_4 : Nat → Int32), ∀ (H : Heap) (locs : List Loc) (ls : Array Slot), va_P D vwCl (wX9_lookOf cy aM qM vM vM_counts_4 vM_r) H → va_D A (wX9_lookOf cy aM qM vM vM_counts_4 vM_r) → va_S A s.heap H locs → lv_has ls 6 [(0, .ref aM), (1, .int 0), (2, .int y2_4)] → lp (fX9_lookOf_B4 vM vM_r) fuel (y2_4, vM_counts_4) = some (zr, z_vM, z_vM_counts) → W p l e ({ frames := 1, cells := 0, slots := 0, locals := 25 } : Room) s m ([.ref aM] : List Value).toArray below meth c H locs 0 0 Q (F0 m 4 ls []) := by
    intro fuel
    induction fuel with
    | zero => intro y2_4 vM_counts_4 H locs ls hP hD hS hl hok; exact (lp_0 hok).elim
    | succ fuel ih4 =>
      intro y2_4 vM_counts_4 H locs ls hP hD hS hl hok
      obtain ⟨y4, hok, hL4, hR4⟩ := lp_step hok
      unfold fX9_lookOf_B4 at hok
      try dsimp only at hok
      refine lv_iload_n hx hb dX9_lookOf_4 rfl (lv_at hl 2 rfl) ?_
      refine lv_sipush (v := 1200) hx hb dX9_lookOf_5 (by decide) ?_
      refine lv_icmp_ge (tgt := 24) hx hb dX9_lookOf_8 (by decide) (fun c8 => ?_) (fun c8 => ?_)
      · have hok := k_pos c8 hok
        obtain ⟨e4, hok, he4⟩ := ex_some hok
        have hok := hok.trans (congrArg some (hL4 _ he4))
        refine lv_iconst (v := 2) hx hb dX9_lookOf_24 (by decide) ?_
        refine lv_istore_n (lv' := [(2, .int 2), (0, .ref aM), (1, .int 0)]) hx hb dX9_lookOf_25 rfl hl (by decide) rfl (fun ls hl => ?_)
        exact L26 5000 (0 : Int32) (2 : Int32) vM_counts_4 H locs ls hP hD hS (lv_sub hl [1, 2, 0] rfl) hok
      · have hok := k_neg c8 hok
        refine lv_aload_n hx hb dX9_lookOf_11 rfl (lv_at hl 0 rfl) ?_
        refine va_get (D := D) (ci := 8) (v := .ref (qM 24)) (C := RX9) (T := TX9) (N := 29) hx hb ht0 niX9 hown hK hP 0 rfl rfl 24 (by decide) (ht0 _ wd995) (fun _ h9 => h9) rfl dX9_lookOf_12 ?_
        refine lv_iload_n hx hb dX9_lookOf_15 rfl (lv_at hl 2 rfl) ?_
        refine lv_iconst (v := 0) hx hb dX9_lookOf_16 (by decide) ?_
        obtain ⟨g17, hok⟩ := gd_some hok
        refine va_iast hx hb hK hP hD hS 1 0 rfl rfl (okI_in g17) dX9_lookOf_17 (fun H locs hP hD hS => ?_)
        have hP : va_P D vwCl (wX9_lookOf cy aM qM vM (upd vM_counts_4 y2_4.toNatClampNeg (0 : Int32)) vM_r) H := hP
        have hD : va_D A (wX9_lookOf cy aM qM vM (upd vM_counts_4 y2_4.toNatClampNeg (0 : Int32)) vM_r) := hD
        refine lv_iinc (v := (y2_4 + 1)) (lv' := [(2, .int (y2_4 + 1)), (0, .ref aM), (1, .int 0)]) hx hb dX9_lookOf_18 hl (k := 2) rfl (by first | rfl | decide) (by decide) rfl (fun ls hl => ?_)
        refine lv_goto (tgt := 4) hx hb dX9_lookOf_21 (by decide) ?_
        exact ih4 (y2_4 + 1) (upd vM_counts_4 y2_4.toNatClampNeg (0 : Int32)) H locs ls hP hD hS (lv_sub hl [1, 2, 0] rfl) (hR4 _ (Option.some.inj hok).symm)
  unfold fX9_lookOf at hok
  obtain ⟨H, hH⟩ : ∃ H, H = s.heap := ⟨_, rfl⟩
  obtain ⟨locs, hlc⟩ : ∃ x : List Loc, x = [] := ⟨_, rfl⟩
  have hP : va_P D vwCl (wX9_lookOf cy aM qM vM vM_counts vM_r) H := by rw [hH]; exact hP
  have hS : va_S A s.heap H locs := by rw [hH, hlc]; exact hS
  rw [show W p l e _ s m _ below meth c s.heap [] = W p l e _ s m _ below meth c H locs from by rw [hH, hlc]]
  refine lv_iconst (v := 0) hx hb dX9_lookOf_0 (by decide) ?_
  refine lv_istore_n (lv' := [(1, .int 0), (0, .ref aM)]) hx hb dX9_lookOf_1 rfl hl (by decide) rfl (fun ls hl => ?_)
  refine lv_iconst (v := 0) hx hb dX9_lookOf_2 (by decide) ?_
  refine lv_istore_n (lv' := [(2, .int 0), (1, .int 0), (0, .ref aM)]) hx hb dX9_lookOf_3 rfl hl (by decide) rfl (fun ls hl => ?_)
  exact L4 5000 (0 : Int32) vM_counts H locs ls hP hD hS (lv_sub hl [2, 1, 0] rfl) hok
def wsX9_look : List Cond := .code yX9_look cX9_look 1 (some .int) :: W0
abbrev wX9_look (cy : Nat → ClassId) (aM : Nat) (qM : Nat → Nat) (vM : Nat → Int32) (vM_counts : Nat → Int32) (vM_r : Nat → Int32) : va_W := [(aM, oX9 vM qM), (qM 24, rI cy 1200 vM_counts), (qM 15, rI cy 224 vM_r)]
set_option maxHeartbeats 4000000 in
set_option maxRecDepth 100000 in
theorem kX9_look (l : Launch) (D : va_G) (cy : Nat → ClassId) (sz : Nat) (aM : Nat) (qM : Nat → Nat) (vM : Nat → Int32) (vM_counts : Nat → Int32) (vM_r : Nat → Int32) (zr : Int32) (z_vM : Nat → Int32) (z_vM_counts : Nat → Int32) (hok : fX9_look vM vM_counts vM_r = some (zr, z_vM, z_vM_counts)) (A : Nat → Prop) (hAe : va_A (wX9_look cy aM qM vM vM_counts vM_r) sz = A) : Met l yX9_look wsX9_look ({ frames := 2, cells := 0, slots := 0, locals := 50 } : Room) (kPre D cy [.ref aM] (wX9_look cy aM qM vM vM_counts vM_r) sz) (kQi D cy zr A (wX9_look cy aM qM z_vM z_vM_counts vM_r)) 0 0 A := by
  refine Met.ofW (cc := cX9_look) (maxL := 1) (ret := (some .int)) (by decide) rfl ?_
  intro p e s m args below meth c s₁ B hml hv
  obtain ⟨rfl, hsz, hP, hK, hD0, hN⟩ := hv
  have hx := B.exec
  have hb := B.bytes
  have hr := B.returns
  have ht0 : ∀ w ∈ W0, w.before _ s = true := fun w h => atoms_spec (ws := wsX9_look) B.pre w (List.mem_cons_of_mem _ h)
  have hown : s.vm.findClass RX9 = some m.cls := findClass_of_methodNamed B.named
  have hlocks := B.notSynchronized
  subst hsz
  have hD : va_D A (wX9_look cy aM qM vM vM_counts vM_r) := by rw [← hAe]; exact hD0.self
  have hA : ∀ q : Nat, s.heap.size ≤ q → A q := fun q h => by rw [← hAe]; exact Or.inr h
  have hS : va_S A s.heap s.heap [] := va_S.rf
  have hl := lv_entry ([.ref aM]) (n := 1) (Nat.le_of_ble_eq_true rfl)
  rw [lg_entry_eq]
  generalize (lg_sl ([.ref aM]) ++ List.replicate (1 - (lg_sl ([.ref aM])).length) Slot.unset).toArray = ls at hl ⊢
  have hl : lv_has ls 1 [(0, .ref aM)] := hl
  generalize hQe : MQ below (kQi D cy zr A (wX9_look cy aM qM z_vM z_vM_counts vM_r)) ([.ref aM] : List Value).toArray s 0 0 A = Q
  have J23 : ∀ (t0_23 : Int32) (vM_counts_23 : Nat → Int32) (vM_23 : Nat → Int32), ∀ (H : Heap) (locs : List Loc) (ls : Array Slot), va_P D vwCl (wX9_look cy aM qM vM_23 vM_counts_23 vM_r) H → va_D A (wX9_look cy aM qM vM_23 vM_counts_23 vM_r) → va_S A s.heap H locs → lv_has ls 1 [] → fX9_look_J23 t0_23 vM_counts_23 vM_23 = some (zr, z_vM, z_vM_counts) → W p l e ({ frames := 2, cells := 0, slots := 0, locals := 50 } : Room) s m ([.ref aM] : List Value).toArray below meth c H locs 0 0 Q (F0 m 23 ls [.int t0_23]) := by
    intro t0_23 vM_counts_23 vM_23 H locs ls hP hD hS hl hok
    unfold fX9_look_J23 at hok
    cases hok
    subst hQe; exact W.iret hx hb hr (fun t ht hW => ⟨⟨_, (), rfl, rfl, by rw [ht]; exact hP, va_K.moved hW.alike hK, hD⟩, hS.F ht⟩) hS.2.2 dX9_look_23
  unfold fX9_look at hok
  obtain ⟨H, hH⟩ : ∃ H, H = s.heap := ⟨_, rfl⟩
  obtain ⟨locs, hlc⟩ : ∃ x : List Loc, x = [] := ⟨_, rfl⟩
  have hP : va_P D vwCl (wX9_look cy aM qM vM vM_counts vM_r) H := by rw [hH]; exact hP
  have hS : va_S A s.heap H locs := by rw [hH, hlc]; exact hS
  rw [show W p l e _ s m _ below meth c s.heap [] = W p l e _ s m _ below meth c H locs from by rw [hH, hlc]]
  refine lv_aload_n hx hb dX9_look_0 rfl (lv_at hl 0 rfl) ?_
  obtain ⟨vM_1, hc1, hok⟩ := k_bind hok
  refine kCv (wc := (wX9_good cy aM qM vM)) (wc2 := (wX9_good cy aM qM vM_1)) (wr := [(qM 24, rI cy 1200 vM_counts), (qM 15, rI cy 224 vM_r)]) (ws2 := (wX9_look cy aM qM vM_1 vM_counts vM_r)) (kRunV (As := []) (rest := []) ⟨hx, hb, hml, hown, ht0⟩ (kX9_good l D cy _ aM qM vM vM_1 hc1 _ rfl) (cwV 0 ht0 (gV wd870 wd871 wd872 wd744 wd873) rfl rfl rfl (by decide +kernel) ⟨Nat.le_of_ble_eq_true rfl, Nat.le_of_ble_eq_true rfl⟩) hK hN hP hD [0] rfl (by decide) 0 8 rfl rfl rfl hl.1 rfl (Nat.le_of_ble_eq_true rfl) dX9_look_1 ⟨Nat.zero_le _, Nat.zero_le _⟩) hP hD hS hA [0] [1, 2] rfl rfl (by decide) (by decide) [2, 0, 1] (by decide) rfl rfl (fun H locs hP hD hS => ?_)
  refine lv_aload_n hx hb dX9_look_4 rfl (lv_at hl 0 rfl) ?_
  refine va_get (D := D) (ci := 8) (v := .int (vM_1 14)) (C := RX9) (T := TX9) (N := 29) hx hb ht0 niX9 hown hK hP 0 rfl rfl 14 (by decide) (ht0 _ wd855) (fun _ h9 => h9) rfl dX9_look_5 ?_
  refine lv_if_eq (tgt := 18) hx hb dX9_look_8 (by decide) (fun c8 => ?_) (fun c8 => ?_)
  · have hok := k_pos c8 hok
    refine lv_aload_n hx hb dX9_look_18 rfl (lv_at hl 0 rfl) ?_
    refine lv_iconst (v := 1) hx hb dX9_look_19 (by decide) ?_
    obtain ⟨⟨r20, vM_20⟩, hc20, hok⟩ := k_bind hok
    try dsimp only at hok
    refine kCi (wc := (wX9_no cy aM qM vM_1)) (wc2 := (wX9_no cy aM qM vM_20)) (wr := [(qM 24, rI cy 1200 vM_counts), (qM 15, rI cy 224 vM_r)]) (ws2 := (wX9_look cy aM qM vM_20 vM_counts vM_r)) (kRunV (As := [.int 1]) (rest := []) ⟨hx, hb, hml, hown, ht0⟩ (kX9_no l D cy _ aM qM vM_1 (1 : Int32) r20 vM_20 hc20 _ rfl) (cwV 1 ht0 (gV wd862 wd863 wd864 wd744 wd865) rfl rfl rfl (by decide +kernel) ⟨Nat.le_of_ble_eq_true rfl, Nat.le_of_ble_eq_true rfl⟩) hK hN hP hD [0] rfl (by decide) 0 8 rfl rfl rfl hl.1 rfl (Nat.le_of_ble_eq_true rfl) dX9_look_20 ⟨Nat.zero_le _, Nat.zero_le _⟩) hP hD hS hA [0] [1, 2] rfl rfl (by decide) (by decide) [2, 0, 1] (by decide) rfl rfl (fun H locs hP hD hS => ?_)
    exact J23 r20 vM_counts vM_20 H locs ls hP hD hS (lv_sub hl [] rfl) hok
  · have hok := k_neg c8 hok
    refine lv_aload_n hx hb dX9_look_11 rfl (lv_at hl 0 rfl) ?_
    obtain ⟨⟨r12, vM_12, vM_counts_12⟩, hc12, hok⟩ := k_bind hok
    try dsimp only at hok
    refine kCi (wc := (wX9_lookOf cy aM qM vM_1 vM_counts vM_r)) (wc2 := (wX9_lookOf cy aM qM vM_12 vM_counts_12 vM_r)) (wr := []) (ws2 := (wX9_look cy aM qM vM_12 vM_counts_12 vM_r)) (kRunV (As := []) (rest := []) ⟨hx, hb, hml, hown, ht0⟩ (kX9_lookOf l D cy _ aM qM vM_1 vM_counts vM_r r12 vM_12 vM_counts_12 hc12 _ rfl) (cwV 0 ht0 (gV wd996 wd997 wd998 wd744 wd999) rfl rfl rfl (by decide +kernel) ⟨Nat.le_of_ble_eq_true rfl, Nat.le_of_ble_eq_true rfl⟩) hK hN hP hD [0, 1, 2] rfl (by decide) 0 8 rfl rfl rfl hl.1 rfl (Nat.le_of_ble_eq_true rfl) dX9_look_12 ⟨Nat.zero_le _, Nat.zero_le _⟩) hP hD hS hA [0, 1, 2] [] rfl rfl (by decide) (by decide) [0, 1, 2] (by decide) rfl rfl (fun H locs hP hD hS => ?_)
    refine lv_goto (tgt := 23) hx hb dX9_look_15 (by decide) ?_
    exact J23 r12 vM_counts_12 vM_12 H locs ls hP hD hS (lv_sub hl [] rfl) hok
def wsX9_lookLeaves : List Cond := .code yX9_lookLeaves cX9_lookLeaves 1 (some .int) :: W0
abbrev wX9_lookLeaves (cy : Nat → ClassId) (aM : Nat) (qM : Nat → Nat) (vM : Nat → Int32) (vM_counts : Nat → Int32) (vM_r : Nat → Int32) : va_W := [(aM, oX9 vM qM), (qM 24, rI cy 1200 vM_counts), (qM 15, rI cy 224 vM_r)]
set_option maxHeartbeats 4000000 in
set_option maxRecDepth 100000 in
theorem kX9_lookLeaves (l : Launch) (D : va_G) (cy : Nat → ClassId) (sz : Nat) (aM : Nat) (qM : Nat → Nat) (vM : Nat → Int32) (vM_counts : Nat → Int32) (vM_r : Nat → Int32) (zr : Int32) (z_vM : Nat → Int32) (z_vM_counts : Nat → Int32) (hok : fX9_lookLeaves vM vM_counts vM_r = some (zr, z_vM, z_vM_counts)) (A : Nat → Prop) (hAe : va_A (wX9_lookLeaves cy aM qM vM vM_counts vM_r) sz = A) : Met l yX9_lookLeaves wsX9_lookLeaves ({ frames := 2, cells := 0, slots := 0, locals := 50 } : Room) (kPre D cy [.ref aM] (wX9_lookLeaves cy aM qM vM vM_counts vM_r) sz) (kQi D cy zr A (wX9_lookLeaves cy aM qM z_vM z_vM_counts vM_r)) 0 0 A := by
  refine Met.ofW (cc := cX9_lookLeaves) (maxL := 1) (ret := (some .int)) (by decide) rfl ?_
  intro p e s m args below meth c s₁ B hml hv
  obtain ⟨rfl, hsz, hP, hK, hD0, hN⟩ := hv
  have hx := B.exec
  have hb := B.bytes
  have hr := B.returns
  have ht0 : ∀ w ∈ W0, w.before _ s = true := fun w h => atoms_spec (ws := wsX9_lookLeaves) B.pre w (List.mem_cons_of_mem _ h)
  have hown : s.vm.findClass RX9 = some m.cls := findClass_of_methodNamed B.named
  have hlocks := B.notSynchronized
  subst hsz
  have hD : va_D A (wX9_lookLeaves cy aM qM vM vM_counts vM_r) := by rw [← hAe]; exact hD0.self
  have hA : ∀ q : Nat, s.heap.size ≤ q → A q := fun q h => by rw [← hAe]; exact Or.inr h
  have hS : va_S A s.heap s.heap [] := va_S.rf
  have hl := lv_entry ([.ref aM]) (n := 1) (Nat.le_of_ble_eq_true rfl)
  rw [lg_entry_eq]
  generalize (lg_sl ([.ref aM]) ++ List.replicate (1 - (lg_sl ([.ref aM])).length) Slot.unset).toArray = ls at hl ⊢
  have hl : lv_has ls 1 [(0, .ref aM)] := hl
  unfold fX9_lookLeaves at hok
  obtain ⟨H, hH⟩ : ∃ H, H = s.heap := ⟨_, rfl⟩
  obtain ⟨locs, hlc⟩ : ∃ x : List Loc, x = [] := ⟨_, rfl⟩
  have hP : va_P D vwCl (wX9_lookLeaves cy aM qM vM vM_counts vM_r) H := by rw [hH]; exact hP
  have hS : va_S A s.heap H locs := by rw [hH, hlc]; exact hS
  rw [show W p l e _ s m _ below meth c s.heap [] = W p l e _ s m _ below meth c H locs from by rw [hH, hlc]]
  refine lv_aload_n hx hb dX9_lookLeaves_0 rfl (lv_at hl 0 rfl) ?_
  obtain ⟨vM_1, hc1, hok⟩ := k_bind hok
  refine kCv (wc := (wX9_good cy aM qM vM)) (wc2 := (wX9_good cy aM qM vM_1)) (wr := [(qM 24, rI cy 1200 vM_counts), (qM 15, rI cy 224 vM_r)]) (ws2 := (wX9_lookLeaves cy aM qM vM_1 vM_counts vM_r)) (kRunV (As := []) (rest := []) ⟨hx, hb, hml, hown, ht0⟩ (kX9_good l D cy _ aM qM vM vM_1 hc1 _ rfl) (cwV 0 ht0 (gV wd870 wd871 wd872 wd744 wd873) rfl rfl rfl (by decide +kernel) ⟨Nat.le_of_ble_eq_true rfl, Nat.le_of_ble_eq_true rfl⟩) hK hN hP hD [0] rfl (by decide) 0 8 rfl rfl rfl hl.1 rfl (Nat.le_of_ble_eq_true rfl) dX9_lookLeaves_1 ⟨Nat.zero_le _, Nat.zero_le _⟩) hP hD hS hA [0] [1, 2] rfl rfl (by decide) (by decide) [2, 0, 1] (by decide) rfl rfl (fun H locs hP hD hS => ?_)
  refine lv_aload_n hx hb dX9_lookLeaves_4 rfl (lv_at hl 0 rfl) ?_
  refine va_get (D := D) (ci := 8) (v := .int (vM_1 14)) (C := RX9) (T := TX9) (N := 29) hx hb ht0 niX9 hown hK hP 0 rfl rfl 14 (by decide) (ht0 _ wd855) (fun _ h9 => h9) rfl dX9_lookLeaves_5 ?_
  refine lv_if_ne (tgt := 17) hx hb dX9_lookLeaves_8 (by decide) (fun c8 => ?_) (fun c8 => ?_)
  · have hok := k_neg c8 hok
    refine lv_aload_n hx hb dX9_lookLeaves_17 rfl (lv_at hl 0 rfl) ?_
    obtain ⟨⟨r18, vM_18, vM_counts_18⟩, hc18, hok⟩ := k_bind hok
    try dsimp only at hok
    refine kCi (wc := (wX9_lookOf cy aM qM vM_1 vM_counts vM_r)) (wc2 := (wX9_lookOf cy aM qM vM_18 vM_counts_18 vM_r)) (wr := []) (ws2 := (wX9_lookLeaves cy aM qM vM_18 vM_counts_18 vM_r)) (kRunV (As := []) (rest := []) ⟨hx, hb, hml, hown, ht0⟩ (kX9_lookOf l D cy _ aM qM vM_1 vM_counts vM_r r18 vM_18 vM_counts_18 hc18 _ rfl) (cwV 0 ht0 (gV wd996 wd997 wd998 wd744 wd999) rfl rfl rfl (by decide +kernel) ⟨Nat.le_of_ble_eq_true rfl, Nat.le_of_ble_eq_true rfl⟩) hK hN hP hD [0, 1, 2] rfl (by decide) 0 8 rfl rfl rfl hl.1 rfl (Nat.le_of_ble_eq_true rfl) dX9_lookLeaves_18 ⟨Nat.zero_le _, Nat.zero_le _⟩) hP hD hS hA [0, 1, 2] [] rfl rfl (by decide) (by decide) [0, 1, 2] (by decide) rfl rfl (fun H locs hP hD hS => ?_)
    refine lv_pop hx hb dX9_lookLeaves_21 rfl ?_
    refine lv_aload_n hx hb dX9_lookLeaves_22 rfl (lv_at hl 0 rfl) ?_
    refine va_get (D := D) (ci := 8) (v := .int (vM_18 25)) (C := RX9) (T := TX9) (N := 29) hx hb ht0 niX9 hown hK hP 0 rfl rfl 25 (by decide) (ht0 _ wd994) (fun _ h9 => h9) rfl dX9_lookLeaves_23 ?_
    cases hok
    exact W.iret hx hb hr (fun t ht hW => ⟨⟨_, (), rfl, rfl, by rw [ht]; exact hP, va_K.moved hW.alike hK, hD⟩, hS.F ht⟩) hS.2.2 dX9_lookLeaves_26
  · have hok := k_pos c8 hok
    refine lv_aload_n hx hb dX9_lookLeaves_11 rfl (lv_at hl 0 rfl) ?_
    refine lv_iconst (v := 1) hx hb dX9_lookLeaves_12 (by decide) ?_
    obtain ⟨⟨r13, vM_13⟩, hc13, hok⟩ := k_bind hok
    try dsimp only at hok
    refine kCi (wc := (wX9_no cy aM qM vM_1)) (wc2 := (wX9_no cy aM qM vM_13)) (wr := [(qM 24, rI cy 1200 vM_counts), (qM 15, rI cy 224 vM_r)]) (ws2 := (wX9_lookLeaves cy aM qM vM_13 vM_counts vM_r)) (kRunV (As := [.int 1]) (rest := []) ⟨hx, hb, hml, hown, ht0⟩ (kX9_no l D cy _ aM qM vM_1 (1 : Int32) r13 vM_13 hc13 _ rfl) (cwV 1 ht0 (gV wd862 wd863 wd864 wd744 wd865) rfl rfl rfl (by decide +kernel) ⟨Nat.le_of_ble_eq_true rfl, Nat.le_of_ble_eq_true rfl⟩) hK hN hP hD [0] rfl (by decide) 0 8 rfl rfl rfl hl.1 rfl (Nat.le_of_ble_eq_true rfl) dX9_lookLeaves_13 ⟨Nat.zero_le _, Nat.zero_le _⟩) hP hD hS hA [0] [1, 2] rfl rfl (by decide) (by decide) [2, 0, 1] (by decide) rfl rfl (fun H locs hP hD hS => ?_)
    cases hok
    exact W.iret hx hb hr (fun t ht hW => ⟨⟨_, (), rfl, rfl, by rw [ht]; exact hP, va_K.moved hW.alike hK, hD⟩, hS.F ht⟩) hS.2.2 dX9_lookLeaves_16
def wsX9_heirOf : List Cond := .code yX9_heirOf cX9_heirOf 3 (some .int) :: W0
abbrev wX9_heirOf (cy : Nat → ClassId)  : va_W := []
set_option maxHeartbeats 4000000 in
set_option maxRecDepth 100000 in
theorem kX9_heirOf (l : Launch) (D : va_G) (cy : Nat → ClassId) (sz : Nat) (x0 : Int32) (x1 : Int32) (x2 : Int32) (zr : Int32) (hok : fX9_heirOf x0 x1 x2 = some zr) (A : Nat → Prop) (hAe : va_A (wX9_heirOf cy ) sz = A) : Met l yX9_heirOf wsX9_heirOf ({ frames := 0, cells := 0, slots := 0, locals := 0 } : Room) (kPre D cy [.int x0, .int x1, .int x2] (wX9_heirOf cy ) sz) (kQi D cy zr A (wX9_heirOf cy )) 0 0 A := by
  refine Met.ofW (cc := cX9_heirOf) (maxL := 3) (ret := (some .int)) (by decide) rfl ?_
  intro p e s m args below meth c s₁ B hml hv
  obtain ⟨rfl, hsz, hP, hK, hD0, hN⟩ := hv
  have hx := B.exec
  have hb := B.bytes
  have hr := B.returns
  have ht0 : ∀ w ∈ W0, w.before _ s = true := fun w h => atoms_spec (ws := wsX9_heirOf) B.pre w (List.mem_cons_of_mem _ h)
  have hown : s.vm.findClass RX9 = some m.cls := findClass_of_methodNamed B.named
  have hlocks := B.notSynchronized
  subst hsz
  have hD : va_D A (wX9_heirOf cy ) := by rw [← hAe]; exact hD0.self
  have hA : ∀ q : Nat, s.heap.size ≤ q → A q := fun q h => by rw [← hAe]; exact Or.inr h
  have hS : va_S A s.heap s.heap [] := va_S.rf
  have hl := lv_entry ([.int x0, .int x1, .int x2]) (n := 3) (Nat.le_of_ble_eq_true rfl)
  rw [lg_entry_eq]
  generalize (lg_sl ([.int x0, .int x1, .int x2]) ++ List.replicate (3 - (lg_sl ([.int x0, .int x1, .int x2])).length) Slot.unset).toArray = ls at hl ⊢
  have hl : lv_has ls 3 [(0, .int x0), (1, .int x1), (2, .int x2)] := hl
  generalize hQe : MQ below (kQi D cy zr A (wX9_heirOf cy )) ([.int x0, .int x1, .int x2] : List Value).toArray s 0 0 A = Q
  have J21 : ∀ (t0_21 : Int32), ∀ (H : Heap) (locs : List Loc) (ls : Array Slot), va_P D vwCl (wX9_heirOf cy ) H → va_D A (wX9_heirOf cy ) → va_S A s.heap H locs → lv_has ls 3 [(1, .int x1)] → fX9_heirOf_J21 x1 t0_21 = some zr → W p l e ({ frames := 0, cells := 0, slots := 0, locals := 0 } : Room) s m ([.int x0, .int x1, .int x2] : List Value).toArray below meth c H locs 0 0 Q (F0 m 21 ls [.int t0_21]) := by
    intro t0_21 H locs ls hP hD hS hl hok
    unfold fX9_heirOf_J21 at hok
    refine lv_iload_n hx hb dX9_heirOf_21 rfl (lv_at hl 0 rfl) ?_
    refine lv_iload_n hx hb dX9_heirOf_22 rfl (lv_at hl 0 rfl) ?_
    refine lv_imul hx hb dX9_heirOf_23 ?_
    refine lv_isub hx hb dX9_heirOf_24 ?_
    cases hok
    subst hQe; exact W.iret hx hb hr (fun t ht hW => ⟨⟨_, (), rfl, rfl, by rw [ht]; exact hP, va_K.moved hW.alike hK, hD⟩, hS.F ht⟩) hS.2.2 dX9_heirOf_25
  unfold fX9_heirOf at hok
  obtain ⟨H, hH⟩ : ∃ H, H = s.heap := ⟨_, rfl⟩
  obtain ⟨locs, hlc⟩ : ∃ x : List Loc, x = [] := ⟨_, rfl⟩
  have hP : va_P D vwCl (wX9_heirOf cy ) H := by rw [hH]; exact hP
  have hS : va_S A s.heap H locs := by rw [hH, hlc]; exact hS
  rw [show W p l e _ s m _ below meth c s.heap [] = W p l e _ s m _ below meth c H locs from by rw [hH, hlc]]
  refine lv_iload_n hx hb dX9_heirOf_0 rfl (lv_at hl 1 rfl) ?_
  refine lv_iload_n hx hb dX9_heirOf_1 rfl (lv_at hl 2 rfl) ?_
  refine lv_icmp_le (tgt := 9) hx hb dX9_heirOf_2 (by decide) (fun c2 => ?_) (fun c2 => ?_)
  · have hok := k_pos c2 hok
    refine lv_iload_n hx hb dX9_heirOf_9 rfl (lv_at hl 1 rfl) ?_
    refine lv_iload_n hx hb dX9_heirOf_10 rfl (lv_at hl 2 rfl) ?_
    refine lv_icmp_ne (tgt := 20) hx hb dX9_heirOf_11 (by decide) (fun c11 => ?_) (fun c11 => ?_)
    · have hok := k_neg c11 hok
      refine lv_iconst (v := 0) hx hb dX9_heirOf_20 (by decide) ?_
      exact J21 (0 : Int32) H locs ls hP hD hS (lv_sub hl [1] rfl) hok
    · have hok := k_pos c11 hok
      refine lv_iload_n hx hb dX9_heirOf_14 rfl (lv_at hl 0 rfl) ?_
      refine lv_iconst (v := 2) hx hb dX9_heirOf_15 (by decide) ?_
      refine lv_idiv hx hb dX9_heirOf_16 (by decide) ?_
      refine lv_goto (tgt := 21) hx hb dX9_heirOf_17 (by decide) ?_
      exact J21 (x0 / (2 : Int32)) H locs ls hP hD hS (lv_sub hl [1] rfl) hok
  · have hok := k_neg c2 hok
    refine lv_iload_n hx hb dX9_heirOf_5 rfl (lv_at hl 0 rfl) ?_
    refine lv_goto (tgt := 21) hx hb dX9_heirOf_6 (by decide) ?_
    exact J21 x0 H locs ls hP hD hS (lv_sub hl [1] rfl) hok
def wsX9_heir : List Cond := .code yX9_heir cX9_heir 6 (some .int) :: W0
abbrev wX9_heir (cy : Nat → ClassId) (aM : Nat) (qM : Nat → Nat) (vM : Nat → Int32) : va_W := [(aM, oX9 vM qM)]
set_option maxHeartbeats 4000000 in
set_option maxRecDepth 100000 in
theorem kX9_heir (l : Launch) (D : va_G) (cy : Nat → ClassId) (sz : Nat) (aM : Nat) (qM : Nat → Nat) (vM : Nat → Int32) (x1 : Int32) (x2 : Int32) (x3 : Int32) (x4 : Int32) (zr : Int32) (z_vM : Nat → Int32) (hok : fX9_heir vM x1 x2 x3 x4 = some (zr, z_vM)) (A : Nat → Prop) (hAe : va_A (wX9_heir cy aM qM vM) sz = A) : Met l yX9_heir wsX9_heir ({ frames := 2, cells := 0, slots := 0, locals := 45 } : Room) (kPre D cy [.ref aM, .int x1, .int x2, .int x3, .int x4] (wX9_heir cy aM qM vM) sz) (kQi D cy zr A (wX9_heir cy aM qM z_vM)) 0 0 A := by
  refine Met.ofW (cc := cX9_heir) (maxL := 6) (ret := (some .int)) (by decide) rfl ?_
  intro p e s m args below meth c s₁ B hml hv
  obtain ⟨rfl, hsz, hP, hK, hD0, hN⟩ := hv
  have hx := B.exec
  have hb := B.bytes
  have hr := B.returns
  have ht0 : ∀ w ∈ W0, w.before _ s = true := fun w h => atoms_spec (ws := wsX9_heir) B.pre w (List.mem_cons_of_mem _ h)
  have hown : s.vm.findClass RX9 = some m.cls := findClass_of_methodNamed B.named
  have hlocks := B.notSynchronized
  subst hsz
  have hD : va_D A (wX9_heir cy aM qM vM) := by rw [← hAe]; exact hD0.self
  have hA : ∀ q : Nat, s.heap.size ≤ q → A q := fun q h => by rw [← hAe]; exact Or.inr h
  have hS : va_S A s.heap s.heap [] := va_S.rf
  have hl := lv_entry ([.ref aM, .int x1, .int x2, .int x3, .int x4]) (n := 6) (Nat.le_of_ble_eq_true rfl)
  rw [lg_entry_eq]
  generalize (lg_sl ([.ref aM, .int x1, .int x2, .int x3, .int x4]) ++ List.replicate (6 - (lg_sl ([.ref aM, .int x1, .int x2, .int x3, .int x4])).length) Slot.unset).toArray = ls at hl ⊢
  have hl : lv_has ls 6 [(0, .ref aM), (1, .int x1), (2, .int x2), (3, .int x3), (4, .int x4)] := hl
  generalize hQe : MQ below (kQi D cy zr A (wX9_heir cy aM qM z_vM)) ([.ref aM, .int x1, .int x2, .int x3, .int x4] : List Value).toArray s 0 0 A = Q
  have J70 : ∀ (t0_70 : Int32) (vM_70 : Nat → Int32), ∀ (H : Heap) (locs : List Loc) (ls : Array Slot), va_P D vwCl (wX9_heir cy aM qM vM_70) H → va_D A (wX9_heir cy aM qM vM_70) → va_S A s.heap H locs → lv_has ls 6 [] → fX9_heir_J70 t0_70 vM_70 = some (zr, z_vM) → W p l e ({ frames := 2, cells := 0, slots := 0, locals := 45 } : Room) s m ([.ref aM, .int x1, .int x2, .int x3, .int x4] : List Value).toArray below meth c H locs 0 0 Q (F0 m 70 ls [.int t0_70]) := by
    intro t0_70 vM_70 H locs ls hP hD hS hl hok
    unfold fX9_heir_J70 at hok
    cases hok
    subst hQe; exact W.iret hx hb hr (fun t ht hW => ⟨⟨_, (), rfl, rfl, by rw [ht]; exact hP, va_K.moved hW.alike hK, hD⟩, hS.F ht⟩) hS.2.2 dX9_heir_70
  have J45 : ∀ (y5_45 : Int32) (vM_45 : Nat → Int32), ∀ (H : Heap) (locs : List Loc) (ls : Array Slot), va_P D vwCl (wX9_heir cy aM qM vM_45) H → va_D A (wX9_heir cy aM qM vM_45) → va_S A s.heap H locs → lv_has ls 6 [(0, .ref aM), (1, .int x1), (2, .int x2), (3, .int x3), (4, .int x4), (5, .int y5_45)] → fX9_heir_J45 x1 x2 x3 x4 y5_45 vM_45 = some (zr, z_vM) → W p l e ({ frames := 2, cells := 0, slots := 0, locals := 45 } : Room) s m ([.ref aM, .int x1, .int x2, .int x3, .int x4] : List Value).toArray below meth c H locs 0 0 Q (F0 m 45 ls []) := by
    intro y5_45 vM_45 H locs ls hP hD hS hl hok
    unfold fX9_heir_J45 at hok
    refine lv_iload hx hb dX9_heir_45 (lv_at hl 5 rfl) ?_
    refine lv_if_ne (tgt := 71) hx hb dX9_heir_47 (by decide) (fun c47 => ?_) (fun c47 => ?_)
    · have hok := k_neg c47 hok
      refine lv_aload_n hx hb dX9_heir_71 rfl (lv_at hl 0 rfl) ?_
      refine lv_iload hx hb dX9_heir_72 (lv_at hl 5 rfl) ?_
      refine va_put (D := D) (ci := 8) (v := .int y5_45) (ty := .int) (C := RX9) (T := TX9) (N := 29) hx hb ht0 niX9 tyX9 tyX9_ok nmX9 hown hK hP hD hS 0 rfl rfl 11 (by decide) (ht0 _ wd736) (fun _ h9 => h9) rfl (by decide +kernel) rfl rfl (Nat.le_of_ble_eq_true rfl) dX9_heir_74 (fun H locs hP hD hS => ?_)
      have hP : va_P D vwCl (wX9_heir cy aM qM (upd vM_45 11 y5_45)) H := hP
      have hD : va_D A (wX9_heir cy aM qM (upd vM_45 11 y5_45)) := hD
      refine lv_bipush (v := -100) hx hb dX9_heir_77 (by decide) ?_
      cases hok
      subst hQe; exact W.iret hx hb hr (fun t ht hW => ⟨⟨_, (), rfl, rfl, by rw [ht]; exact hP, va_K.moved hW.alike hK, hD⟩, hS.F ht⟩) hS.2.2 dX9_heir_79
    · have hok := k_pos c47 hok
      refine lv_iload hx hb dX9_heir_50 (lv_at hl 4 rfl) ?_
      refine lv_if_eq (tgt := 64) hx hb dX9_heir_52 (by decide) (fun c52 => ?_) (fun c52 => ?_)
      · have hok := k_pos c52 hok
        refine lv_iload_n hx hb dX9_heir_64 rfl (lv_at hl 1 rfl) ?_
        refine lv_iload_n hx hb dX9_heir_65 rfl (lv_at hl 2 rfl) ?_
        refine lv_iload_n hx hb dX9_heir_66 rfl (lv_at hl 3 rfl) ?_
        obtain ⟨r67, hc67, hok⟩ := k_bind hok
        refine kCi (wc := (wX9_heirOf cy )) (wc2 := (wX9_heirOf cy )) (wr := [(aM, oX9 vM_45 qM)]) (ws2 := (wX9_heir cy aM qM vM_45)) (kRunS (As := [.int x1, .int x2, .int x3]) (rest := []) ⟨hx, hb, hml, hown, ht0⟩ (kX9_heirOf l D cy _ x1 x2 x3 r67 hc67 _ rfl) (va_cwS 3 ht0 (gS wd1000 wd1001 wd744 wd1002) rfl rfl rfl (by decide +kernel) ⟨Nat.le_of_ble_eq_true rfl, Nat.le_of_ble_eq_true rfl⟩) hK hN hP hD [] rfl (by decide) rfl hl.1 rfl (Nat.le_of_ble_eq_true rfl) dX9_heir_67 ⟨Nat.zero_le _, Nat.zero_le _⟩) hP hD hS hA [] [0] rfl rfl (by decide) (by decide) [0] (by decide) rfl rfl (fun H locs hP hD hS => ?_)
        exact J70 r67 vM_45 H locs ls hP hD hS (lv_sub hl [] rfl) hok
      · have hok := k_neg c52 hok
        refine lv_iload_n hx hb dX9_heir_55 rfl (lv_at hl 1 rfl) ?_
        refine lv_iload_n hx hb dX9_heir_56 rfl (lv_at hl 3 rfl) ?_
        refine lv_iload_n hx hb dX9_heir_57 rfl (lv_at hl 2 rfl) ?_
        obtain ⟨r58, hc58, hok⟩ := k_bind hok
        refine kCi (wc := (wX9_heirOf cy )) (wc2 := (wX9_heirOf cy )) (wr := [(aM, oX9 vM_45 qM)]) (ws2 := (wX9_heir cy aM qM vM_45)) (kRunS (As := [.int x1, .int x3, .int x2]) (rest := []) ⟨hx, hb, hml, hown, ht0⟩ (kX9_heirOf l D cy _ x1 x3 x2 r58 hc58 _ rfl) (va_cwS 3 ht0 (gS wd1000 wd1001 wd744 wd1002) rfl rfl rfl (by decide +kernel) ⟨Nat.le_of_ble_eq_true rfl, Nat.le_of_ble_eq_true rfl⟩) hK hN hP hD [] rfl (by decide) rfl hl.1 rfl (Nat.le_of_ble_eq_true rfl) dX9_heir_58 ⟨Nat.zero_le _, Nat.zero_le _⟩) hP hD hS hA [] [0] rfl rfl (by decide) (by decide) [0] (by decide) rfl rfl (fun H locs hP hD hS => ?_)
        refine lv_goto (tgt := 70) hx hb dX9_heir_61 (by decide) ?_
        exact J70 r58 vM_45 H locs ls hP hD hS (lv_sub hl [] rfl) hok
  have J42 : ∀ (vM_42 : Nat → Int32), ∀ (H : Heap) (locs : List Loc) (ls : Array Slot), va_P D vwCl (wX9_heir cy aM qM vM_42) H → va_D A (wX9_heir cy aM qM vM_42) → va_S A s.heap H locs → lv_has ls 6 [(0, .ref aM), (1, .int x1), (2, .int x2), (3, .int x3), (4, .int x4)] → fX9_heir_J42 x1 x2 x3 x4 vM_42 = some (zr, z_vM) → W p l e ({ frames := 2, cells := 0, slots := 0, locals := 45 } : Room) s m ([.ref aM, .int x1, .int x2, .int x3, .int x4] : List Value).toArray below meth c H locs 0 0 Q (F0 m 42 ls []) := by
    intro vM_42 H locs ls hP hD hS hl hok
    unfold fX9_heir_J42 at hok
    refine lv_iconst (v := 2) hx hb dX9_heir_42 (by decide) ?_
    refine lv_istore (lv' := [(5, .int 2), (0, .ref aM), (1, .int x1), (2, .int x2), (3, .int x3), (4, .int x4)]) hx hb dX9_heir_43 hl (by decide) rfl (fun ls hl => ?_)
    exact J45 (2 : Int32) vM_42 H locs ls hP hD hS (lv_sub hl [1, 2, 3, 4, 5, 0] rfl) hok
  unfold fX9_heir at hok
  obtain ⟨H, hH⟩ : ∃ H, H = s.heap := ⟨_, rfl⟩
  obtain ⟨locs, hlc⟩ : ∃ x : List Loc, x = [] := ⟨_, rfl⟩
  have hP : va_P D vwCl (wX9_heir cy aM qM vM) H := by rw [hH]; exact hP
  have hS : va_S A s.heap H locs := by rw [hH, hlc]; exact hS
  rw [show W p l e _ s m _ below meth c s.heap [] = W p l e _ s m _ below meth c H locs from by rw [hH, hlc]]
  refine lv_aload_n hx hb dX9_heir_0 rfl (lv_at hl 0 rfl) ?_
  obtain ⟨vM_1, hc1, hok⟩ := k_bind hok
  refine kCv (wc := (wX9_good cy aM qM vM)) (wc2 := (wX9_good cy aM qM vM_1)) (wr := []) (ws2 := (wX9_heir cy aM qM vM_1)) (kRunV (As := []) (rest := []) ⟨hx, hb, hml, hown, ht0⟩ (kX9_good l D cy _ aM qM vM vM_1 hc1 _ rfl) (cwV 0 ht0 (gV wd870 wd871 wd872 wd744 wd873) rfl rfl rfl (by decide +kernel) ⟨Nat.le_of_ble_eq_true rfl, Nat.le_of_ble_eq_true rfl⟩) hK hN hP hD [0] rfl (by decide) 0 8 rfl rfl rfl hl.1 rfl (Nat.le_of_ble_eq_true rfl) dX9_heir_1 ⟨Nat.zero_le _, Nat.zero_le _⟩) hP hD hS hA [0] [] rfl rfl (by decide) (by decide) [0] (by decide) rfl rfl (fun H locs hP hD hS => ?_)
  refine lv_aload_n hx hb dX9_heir_4 rfl (lv_at hl 0 rfl) ?_
  refine lv_aload_n hx hb dX9_heir_5 rfl (lv_at hl 0 rfl) ?_
  refine va_get (D := D) (ci := 8) (v := .int (vM_1 14)) (C := RX9) (T := TX9) (N := 29) hx hb ht0 niX9 hown hK hP 0 rfl rfl 14 (by decide) (ht0 _ wd855) (fun _ h9 => h9) rfl dX9_heir_6 ?_
  refine lv_iload_n hx hb dX9_heir_9 rfl (lv_at hl 1 rfl) ?_
  refine lv_bipush (v := 99) hx hb dX9_heir_10 (by decide) ?_
  obtain ⟨r12, hc12, hok⟩ := k_bind hok
  refine kCi (wc := (wX9_why cy aM)) (wc2 := (wX9_why cy aM)) (wr := [(aM, oX9 vM_1 qM)]) (ws2 := (wX9_heir cy aM qM vM_1)) (kRunV (As := [.int (vM_1 14), .int x1, .int 99]) (rest := []) ⟨hx, hb, hml, hown, ht0⟩ (kX9_why l D cy _ aM (vM_1 14) x1 (99 : Int32) r12 hc12 _ rfl) (cwV 3 ht0 (gV wd944 wd945 wd946 wd744 wd947) rfl rfl rfl (by decide +kernel) ⟨Nat.le_of_ble_eq_true rfl, Nat.le_of_ble_eq_true rfl⟩) hK hN hP hD [] rfl (by decide) 0 8 rfl rfl rfl hl.1 rfl (Nat.le_of_ble_eq_true rfl) dX9_heir_12 ⟨Nat.zero_le _, Nat.zero_le _⟩) hP hD hS hA [] [0] rfl rfl (by decide) (by decide) [0] (by decide) rfl rfl (fun H locs hP hD hS => ?_)
  refine lv_istore (lv' := [(5, .int r12), (0, .ref aM), (1, .int x1), (2, .int x2), (3, .int x3), (4, .int x4)]) hx hb dX9_heir_15 hl (by decide) rfl (fun ls hl => ?_)
  refine lv_iload hx hb dX9_heir_17 (lv_at hl 0 rfl) ?_
  refine lv_if_ne (tgt := 45) hx hb dX9_heir_19 (by decide) (fun c19 => ?_) (fun c19 => ?_)
  · have hok := k_neg c19 hok
    exact J45 r12 vM_1 H locs ls hP hD hS (lv_sub hl [1, 2, 3, 4, 5, 0] rfl) hok
  · have hok := k_pos c19 hok
    refine lv_iload_n hx hb dX9_heir_22 rfl (lv_at hl 3 rfl) ?_
    refine lv_iconst (v := 0) hx hb dX9_heir_23 (by decide) ?_
    refine lv_bipush (v := 6) hx hb dX9_heir_24 (by decide) ?_
    obtain ⟨r26, hc26, hok⟩ := k_bind hok
    refine kCi (wc := (wX9_in cy )) (wc2 := (wX9_in cy )) (wr := [(aM, oX9 vM_1 qM)]) (ws2 := (wX9_heir cy aM qM vM_1)) (kRunS (As := [.int x2, .int 0, .int 6]) (rest := []) ⟨hx, hb, hml, hown, ht0⟩ (kX9_in l D cy _ x2 (0 : Int32) (6 : Int32) r26 hc26 _ rfl) (va_cwS 3 ht0 (gS wd787 wd788 wd744 wd789) rfl rfl rfl (by decide +kernel) ⟨Nat.le_of_ble_eq_true rfl, Nat.le_of_ble_eq_true rfl⟩) hK hN hP hD [] rfl (by decide) rfl hl.1 rfl (Nat.le_of_ble_eq_true rfl) dX9_heir_26 ⟨Nat.zero_le _, Nat.zero_le _⟩) hP hD hS hA [] [0] rfl rfl (by decide) (by decide) [0] (by decide) rfl rfl (fun H locs hP hD hS => ?_)
    refine lv_if_eq (tgt := 42) hx hb dX9_heir_29 (by decide) (fun c29 => ?_) (fun c29 => ?_)
    · have hok := k_pos c29 hok
      exact J42 vM_1 H locs ls hP hD hS (lv_sub hl [1, 2, 3, 4, 5] rfl) hok
    · have hok := k_neg c29 hok
      refine lv_iload_n hx hb dX9_heir_32 rfl (lv_at hl 4 rfl) ?_
      refine lv_iconst (v := 0) hx hb dX9_heir_33 (by decide) ?_
      refine lv_bipush (v := 6) hx hb dX9_heir_34 (by decide) ?_
      obtain ⟨r36, hc36, hok⟩ := k_bind hok
      refine kCi (wc := (wX9_in cy )) (wc2 := (wX9_in cy )) (wr := [(aM, oX9 vM_1 qM)]) (ws2 := (wX9_heir cy aM qM vM_1)) (kRunS (As := [.int x3, .int 0, .int 6]) (rest := []) ⟨hx, hb, hml, hown, ht0⟩ (kX9_in l D cy _ x3 (0 : Int32) (6 : Int32) r36 hc36 _ rfl) (va_cwS 3 ht0 (gS wd787 wd788 wd744 wd789) rfl rfl rfl (by decide +kernel) ⟨Nat.le_of_ble_eq_true rfl, Nat.le_of_ble_eq_true rfl⟩) hK hN hP hD [] rfl (by decide) rfl hl.1 rfl (Nat.le_of_ble_eq_true rfl) dX9_heir_36 ⟨Nat.zero_le _, Nat.zero_le _⟩) hP hD hS hA [] [0] rfl rfl (by decide) (by decide) [0] (by decide) rfl rfl (fun H locs hP hD hS => ?_)
      refine lv_if_ne (tgt := 45) hx hb dX9_heir_39 (by decide) (fun c39 => ?_) (fun c39 => ?_)
      · have hok := k_neg c39 hok
        exact J45 r12 vM_1 H locs ls hP hD hS (lv_sub hl [1, 2, 3, 4, 5, 0] rfl) hok
      · have hok := k_pos c39 hok
        exact J42 vM_1 H locs ls hP hD hS (lv_sub hl [1, 2, 3, 4, 5] rfl) hok
def wsX9_isRest : List Cond := .code yX9_isRest cX9_isRest 5 (some .boolean) :: W0
abbrev wX9_isRest (cy : Nat → ClassId)  : va_W := []
set_option maxHeartbeats 4000000 in
set_option maxRecDepth 100000 in
theorem kX9_isRest (l : Launch) (D : va_G) (cy : Nat → ClassId) (sz : Nat) (x0 : Int32) (x1 : Int32) (x2 : Int32) (zr : Int32) (hok : fX9_isRest x0 x1 x2 = some zr) (A : Nat → Prop) (hAe : va_A (wX9_isRest cy ) sz = A) : Met l yX9_isRest wsX9_isRest ({ frames := 1, cells := 0, slots := 0, locals := 22 } : Room) (kPre D cy [.int x0, .int x1, .int x2] (wX9_isRest cy ) sz) (kQi D cy zr A (wX9_isRest cy )) 0 0 A := by
  refine Met.ofW (cc := cX9_isRest) (maxL := 5) (ret := (some .boolean)) (by decide) rfl ?_
  intro p e s m args below meth c s₁ B hml hv
  obtain ⟨rfl, hsz, hP, hK, hD0, hN⟩ := hv
  have hx := B.exec
  have hb := B.bytes
  have hr := B.returns
  have ht0 : ∀ w ∈ W0, w.before _ s = true := fun w h => atoms_spec (ws := wsX9_isRest) B.pre w (List.mem_cons_of_mem _ h)
  have hown : s.vm.findClass RX9 = some m.cls := findClass_of_methodNamed B.named
  have hlocks := B.notSynchronized
  subst hsz
  have hD : va_D A (wX9_isRest cy ) := by rw [← hAe]; exact hD0.self
  have hA : ∀ q : Nat, s.heap.size ≤ q → A q := fun q h => by rw [← hAe]; exact Or.inr h
  have hS : va_S A s.heap s.heap [] := va_S.rf
  have hl := lv_entry ([.int x0, .int x1, .int x2]) (n := 5) (Nat.le_of_ble_eq_true rfl)
  rw [lg_entry_eq]
  generalize (lg_sl ([.int x0, .int x1, .int x2]) ++ List.replicate (5 - (lg_sl ([.int x0, .int x1, .int x2])).length) Slot.unset).toArray = ls at hl ⊢
  have hl : lv_has ls 5 [(0, .int x0), (1, .int x1), (2, .int x2)] := hl
  generalize hQe : MQ below (kQi D cy zr A (wX9_isRest cy )) ([.int x0, .int x1, .int x2] : List Value).toArray s 0 0 A = Q
  have L5 : ∀ (fuel : Nat) (y3_5 : Int32) (y4_5 : Int32), ∀ (H : Heap) (locs : List Loc) (ls : Array Slot), va_P D vwCl (wX9_isRest cy ) H → va_D A (wX9_isRest cy ) → va_S A s.heap H locs → lv_has ls 5 [(0, .int x0), (1, .int x1), (2, .int x2), (3, .int y3_5), (4, .int y4_5)] → lp (fX9_isRest_B5 x0 x1 x2) fuel (y3_5, y4_5) = some zr → W p l e ({ frames := 1, cells := 0, slots := 0, locals := 22 } : Room) s m ([.int x0, .int x1, .int x2] : List Value).toArray below meth c H locs 0 0 Q (F0 m 5 ls []) := by
    intro fuel
    induction fuel with
    | zero => intro y3_5 y4_5 H locs ls hP hD hS hl hok; exact (lp_0 hok).elim
    | succ fuel ih5 =>
      intro y3_5 y4_5 H locs ls hP hD hS hl hok
      obtain ⟨y5, hok, hL5, hR5⟩ := lp_step hok
      have J53 : ∀ (t0_53 : Int32), ∀ (H : Heap) (locs : List Loc) (ls : Array Slot), va_P D vwCl (wX9_isRest cy ) H → va_D A (wX9_isRest cy ) → va_S A s.heap H locs → lv_has ls 5 [(0, .int x0), (1, .int x1), (2, .int x2), (4, .int y4_5)] → fX9_isRest_J53 y4_5 t0_53 = some y5 → W p l e ({ frames := 1, cells := 0, slots := 0, locals := 22 } : Room) s m ([.int x0, .int x1, .int x2] : List Value).toArray below meth c H locs 0 0 Q (F0 m 53 ls [.int t0_53]) := by
        intro t0_53 H locs ls hP hD hS hl hok
        unfold fX9_isRest_J53 at hok
        refine lv_istore_n (lv' := [(3, .int t0_53), (0, .int x0), (1, .int x1), (2, .int x2), (4, .int y4_5)]) hx hb dX9_isRest_53 rfl hl (by decide) rfl (fun ls hl => ?_)
        refine lv_iinc (v := (y4_5 + 1)) (lv' := [(4, .int (y4_5 + 1)), (3, .int t0_53), (0, .int x0), (1, .int x1), (2, .int x2)]) hx hb dX9_isRest_54 hl (k := 4) rfl (by first | rfl | decide) (by decide) rfl (fun ls hl => ?_)
        refine lv_goto (tgt := 5) hx hb dX9_isRest_57 (by decide) ?_
        exact ih5 t0_53 (y4_5 + 1) H locs ls hP hD hS (lv_sub hl [2, 3, 4, 1, 0] rfl) (hR5 _ (Option.some.inj hok).symm)
      have J52 : ∀ (H : Heap) (locs : List Loc) (ls : Array Slot), va_P D vwCl (wX9_isRest cy ) H → va_D A (wX9_isRest cy ) → va_S A s.heap H locs → lv_has ls 5 [(0, .int x0), (1, .int x1), (2, .int x2), (4, .int y4_5)] → fX9_isRest_J52 y4_5 = some y5 → W p l e ({ frames := 1, cells := 0, slots := 0, locals := 22 } : Room) s m ([.int x0, .int x1, .int x2] : List Value).toArray below meth c H locs 0 0 Q (F0 m 52 ls []) := by
        intro  H locs ls hP hD hS hl hok
        unfold fX9_isRest_J52 at hok
        refine lv_iconst (v := 0) hx hb dX9_isRest_52 (by decide) ?_
        exact J53 (0 : Int32) H locs ls hP hD hS (lv_sub hl [0, 1, 2, 3] rfl) hok
      unfold fX9_isRest_B5 at hok
      try dsimp only at hok
      refine lv_iload hx hb dX9_isRest_5 (lv_at hl 4 rfl) ?_
      refine lv_bipush (v := 6) hx hb dX9_isRest_7 (by decide) ?_
      refine lv_icmp_gt (tgt := 60) hx hb dX9_isRest_9 (by decide) (fun c9 => ?_) (fun c9 => ?_)
      · have hok := k_pos c9 hok
        obtain ⟨e5, hok, he5⟩ := ex_some hok
        have hok := hok.trans (congrArg some (hL5 _ he5))
        refine lv_iload_n hx hb dX9_isRest_60 rfl (lv_at hl 3 rfl) ?_
        obtain ⟨g61, hok⟩ := gd_some hok
        cases hok
        subst hQe; exact W.zret hx hb hr (isB_nar g61) (fun t ht hW => ⟨⟨_, (), rfl, rfl, by rw [ht]; exact hP, va_K.moved hW.alike hK, hD⟩, hS.F ht⟩) hS.2.2 dX9_isRest_61
      · have hok := k_neg c9 hok
        refine lv_iload_n hx hb dX9_isRest_12 rfl (lv_at hl 3 rfl) ?_
        refine lv_if_eq (tgt := 52) hx hb dX9_isRest_13 (by decide) (fun c13 => ?_) (fun c13 => ?_)
        · have hok := k_pos c13 hok
          exact J52  H locs ls hP hD hS (lv_sub hl [0, 1, 2, 4] rfl) hok
        · have hok := k_neg c13 hok
          refine lv_iload_n hx hb dX9_isRest_16 rfl (lv_at hl 0 rfl) ?_
          refine lv_iload hx hb dX9_isRest_17 (lv_at hl 4 rfl) ?_
          refine lv_iload_n hx hb dX9_isRest_19 rfl (lv_at hl 2 rfl) ?_
          obtain ⟨r20, hc20, hok⟩ := k_bind hok
          refine kCi (wc := (wX9_heirOf cy )) (wc2 := (wX9_heirOf cy )) (wr := []) (ws2 := (wX9_isRest cy )) (kRunS (As := [.int x0, .int y4_5, .int x2]) (rest := []) ⟨hx, hb, hml, hown, ht0⟩ (kX9_heirOf l D cy _ x0 y4_5 x2 r20 hc20 _ rfl) (va_cwS 3 ht0 (gS wd1000 wd1001 wd744 wd1002) rfl rfl rfl (by decide +kernel) ⟨Nat.le_of_ble_eq_true rfl, Nat.le_of_ble_eq_true rfl⟩) hK hN hP hD [] rfl (by decide) rfl hl.1 rfl (Nat.le_of_ble_eq_true rfl) dX9_isRest_20 ⟨Nat.zero_le _, Nat.zero_le _⟩) hP hD hS hA [] [] rfl rfl (by decide) (by decide) [] (by decide) rfl rfl (fun H locs hP hD hS => ?_)
          refine lv_iload_n hx hb dX9_isRest_23 rfl (lv_at hl 0 rfl) ?_
          refine lv_iload_n hx hb dX9_isRest_24 rfl (lv_at hl 1 rfl) ?_
          refine lv_iload_n hx hb dX9_isRest_25 rfl (lv_at hl 2 rfl) ?_
          obtain ⟨r26, hc26, hok⟩ := k_bind hok
          refine kCi (wc := (wX9_heirOf cy )) (wc2 := (wX9_heirOf cy )) (wr := []) (ws2 := (wX9_isRest cy )) (kRunS (As := [.int x0, .int x1, .int x2]) (rest := [.int r20]) ⟨hx, hb, hml, hown, ht0⟩ (kX9_heirOf l D cy _ x0 x1 x2 r26 hc26 _ rfl) (va_cwS 3 ht0 (gS wd1000 wd1001 wd744 wd1002) rfl rfl rfl (by decide +kernel) ⟨Nat.le_of_ble_eq_true rfl, Nat.le_of_ble_eq_true rfl⟩) hK hN hP hD [] rfl (by decide) rfl hl.1 rfl (Nat.le_of_ble_eq_true rfl) dX9_isRest_26 ⟨Nat.zero_le _, Nat.zero_le _⟩) hP hD hS hA [] [] rfl rfl (by decide) (by decide) [] (by decide) rfl rfl (fun H locs hP hD hS => ?_)
          refine lv_icmp_gt (tgt := 52) hx hb dX9_isRest_29 (by decide) (fun c29 => ?_) (fun c29 => ?_)
          · have hok := k_pos c29 hok
            exact J52  H locs ls hP hD hS (lv_sub hl [0, 1, 2, 4] rfl) hok
          · have hok := k_neg c29 hok
            refine lv_iload_n hx hb dX9_isRest_32 rfl (lv_at hl 0 rfl) ?_
            refine lv_iload hx hb dX9_isRest_33 (lv_at hl 4 rfl) ?_
            refine lv_iload_n hx hb dX9_isRest_35 rfl (lv_at hl 1 rfl) ?_
            obtain ⟨r36, hc36, hok⟩ := k_bind hok
            refine kCi (wc := (wX9_heirOf cy )) (wc2 := (wX9_heirOf cy )) (wr := []) (ws2 := (wX9_isRest cy )) (kRunS (As := [.int x0, .int y4_5, .int x1]) (rest := []) ⟨hx, hb, hml, hown, ht0⟩ (kX9_heirOf l D cy _ x0 y4_5 x1 r36 hc36 _ rfl) (va_cwS 3 ht0 (gS wd1000 wd1001 wd744 wd1002) rfl rfl rfl (by decide +kernel) ⟨Nat.le_of_ble_eq_true rfl, Nat.le_of_ble_eq_true rfl⟩) hK hN hP hD [] rfl (by decide) rfl hl.1 rfl (Nat.le_of_ble_eq_true rfl) dX9_isRest_36 ⟨Nat.zero_le _, Nat.zero_le _⟩) hP hD hS hA [] [] rfl rfl (by decide) (by decide) [] (by decide) rfl rfl (fun H locs hP hD hS => ?_)
            refine lv_iload_n hx hb dX9_isRest_39 rfl (lv_at hl 0 rfl) ?_
            refine lv_iload_n hx hb dX9_isRest_40 rfl (lv_at hl 2 rfl) ?_
            refine lv_iload_n hx hb dX9_isRest_41 rfl (lv_at hl 1 rfl) ?_
            obtain ⟨r42, hc42, hok⟩ := k_bind hok
            refine kCi (wc := (wX9_heirOf cy )) (wc2 := (wX9_heirOf cy )) (wr := []) (ws2 := (wX9_isRest cy )) (kRunS (As := [.int x0, .int x2, .int x1]) (rest := [.int r36]) ⟨hx, hb, hml, hown, ht0⟩ (kX9_heirOf l D cy _ x0 x2 x1 r42 hc42 _ rfl) (va_cwS 3 ht0 (gS wd1000 wd1001 wd744 wd1002) rfl rfl rfl (by decide +kernel) ⟨Nat.le_of_ble_eq_true rfl, Nat.le_of_ble_eq_true rfl⟩) hK hN hP hD [] rfl (by decide) rfl hl.1 rfl (Nat.le_of_ble_eq_true rfl) dX9_isRest_42 ⟨Nat.zero_le _, Nat.zero_le _⟩) hP hD hS hA [] [] rfl rfl (by decide) (by decide) [] (by decide) rfl rfl (fun H locs hP hD hS => ?_)
            refine lv_icmp_gt (tgt := 52) hx hb dX9_isRest_45 (by decide) (fun c45 => ?_) (fun c45 => ?_)
            · have hok := k_pos c45 hok
              exact J52  H locs ls hP hD hS (lv_sub hl [0, 1, 2, 4] rfl) hok
            · have hok := k_neg c45 hok
              refine lv_iconst (v := 1) hx hb dX9_isRest_48 (by decide) ?_
              refine lv_goto (tgt := 53) hx hb dX9_isRest_49 (by decide) ?_
              exact J53 (1 : Int32) H locs ls hP hD hS (lv_sub hl [0, 1, 2, 4] rfl) hok
  unfold fX9_isRest at hok
  obtain ⟨H, hH⟩ : ∃ H, H = s.heap := ⟨_, rfl⟩
  obtain ⟨locs, hlc⟩ : ∃ x : List Loc, x = [] := ⟨_, rfl⟩
  have hP : va_P D vwCl (wX9_isRest cy ) H := by rw [hH]; exact hP
  have hS : va_S A s.heap H locs := by rw [hH, hlc]; exact hS
  rw [show W p l e _ s m _ below meth c s.heap [] = W p l e _ s m _ below meth c H locs from by rw [hH, hlc]]
  refine lv_iconst (v := 1) hx hb dX9_isRest_0 (by decide) ?_
  refine lv_istore_n (lv' := [(3, .int 1), (0, .int x0), (1, .int x1), (2, .int x2)]) hx hb dX9_isRest_1 rfl hl (by decide) rfl (fun ls hl => ?_)
  refine lv_iconst (v := 0) hx hb dX9_isRest_2 (by decide) ?_
  refine lv_istore (lv' := [(4, .int 0), (3, .int 1), (0, .int x0), (1, .int x1), (2, .int x2)]) hx hb dX9_isRest_3 hl (by decide) rfl (fun ls hl => ?_)
  exact L5 5000 (1 : Int32) (0 : Int32) H locs ls hP hD hS (lv_sub hl [2, 3, 4, 1, 0] rfl) hok
def wsX9_seekRests : List Cond := .code yX9_seekRests cX9_seekRests 5 (some .int) :: W0
abbrev wX9_seekRests (cy : Nat → ClassId) (aM : Nat) (qM : Nat → Nat) (vM : Nat → Int32) : va_W := [(aM, oX9 vM qM)]
set_option maxHeartbeats 4000000 in
set_option maxRecDepth 100000 in
theorem kX9_seekRests (l : Launch) (D : va_G) (cy : Nat → ClassId) (sz : Nat) (aM : Nat) (qM : Nat → Nat) (vM : Nat → Int32) (x1 : Int32) (zr : Int32) (z_vM : Nat → Int32) (hok : fX9_seekRests vM x1 = some (zr, z_vM)) (A : Nat → Prop) (hAe : va_A (wX9_seekRests cy aM qM vM) sz = A) : Met l yX9_seekRests wsX9_seekRests ({ frames := 2, cells := 0, slots := 0, locals := 46 } : Room) (kPre D cy [.ref aM, .int x1] (wX9_seekRests cy aM qM vM) sz) (kQi D cy zr A (wX9_seekRests cy aM qM z_vM)) 0 0 A := by
  refine Met.ofW (cc := cX9_seekRests) (maxL := 5) (ret := (some .int)) (by decide) rfl ?_
  intro p e s m args below meth c s₁ B hml hv
  obtain ⟨rfl, hsz, hP, hK, hD0, hN⟩ := hv
  have hx := B.exec
  have hb := B.bytes
  have hr := B.returns
  have ht0 : ∀ w ∈ W0, w.before _ s = true := fun w h => atoms_spec (ws := wsX9_seekRests) B.pre w (List.mem_cons_of_mem _ h)
  have hown : s.vm.findClass RX9 = some m.cls := findClass_of_methodNamed B.named
  have hlocks := B.notSynchronized
  subst hsz
  have hD : va_D A (wX9_seekRests cy aM qM vM) := by rw [← hAe]; exact hD0.self
  have hA : ∀ q : Nat, s.heap.size ≤ q → A q := fun q h => by rw [← hAe]; exact Or.inr h
  have hS : va_S A s.heap s.heap [] := va_S.rf
  have hl := lv_entry ([.ref aM, .int x1]) (n := 5) (Nat.le_of_ble_eq_true rfl)
  rw [lg_entry_eq]
  generalize (lg_sl ([.ref aM, .int x1]) ++ List.replicate (5 - (lg_sl ([.ref aM, .int x1])).length) Slot.unset).toArray = ls at hl ⊢
  have hl : lv_has ls 5 [(0, .ref aM), (1, .int x1)] := hl
  generalize hQe : MQ below (kQi D cy zr A (wX9_seekRests cy aM qM z_vM)) ([.ref aM, .int x1] : List Value).toArray s 0 0 A = Q
  have L10 : ∀ (fuel : Nat) (y2_10 : Int32) (y3_10 : Int32) (vM_10 : Nat → Int32), ∀ (H : Heap) (locs : List Loc) (ls : Array Slot), va_P D vwCl (wX9_seekRests cy aM qM vM_10) H → va_D A (wX9_seekRests cy aM qM vM_10) → va_S A s.heap H locs → lv_has ls 5 [(0, .ref aM), (1, .int x1), (2, .int y2_10), (3, .int y3_10)] → lp (fX9_seekRests_B10 x1) fuel (y2_10, y3_10, vM_10) = some (zr, z_vM) → W p l e ({ frames := 2, cells := 0, slots := 0, locals := 46 } : Room) s m ([.ref aM, .int x1] : List Value).toArray below meth c H locs 0 0 Q (F0 m 10 ls []) := by
    intro fuel
    induction fuel with
    | zero => intro y2_10 y3_10 vM_10 H locs ls hP hD hS hl hok; exact (lp_0 hok).elim
    | succ fuel ih10 =>
      intro y2_10 y3_10 vM_10 H locs ls hP hD hS hl hok
      obtain ⟨y10, hok, hL10, hR10⟩ := lp_step hok
      have L19 : ∀ (fuel : Nat) (y2_19 : Int32) (y4_19 : Int32) (vM_19 : Nat → Int32), ∀ (H : Heap) (locs : List Loc) (ls : Array Slot), va_P D vwCl (wX9_seekRests cy aM qM vM_19) H → va_D A (wX9_seekRests cy aM qM vM_19) → va_S A s.heap H locs → lv_has ls 5 [(0, .ref aM), (1, .int x1), (2, .int y2_19), (3, .int y3_10), (4, .int y4_19)] → lp (fX9_seekRests_B19 x1 y3_10) fuel (y2_19, y4_19, vM_19) = some y10 → W p l e ({ frames := 2, cells := 0, slots := 0, locals := 46 } : Room) s m ([.ref aM, .int x1] : List Value).toArray below meth c H locs 0 0 Q (F0 m 19 ls []) := by
        intro fuel
        induction fuel with
        | zero => intro y2_19 y4_19 vM_19 H locs ls hP hD hS hl hok; exact (lp_0 hok).elim
        | succ fuel ih19 =>
          intro y2_19 y4_19 vM_19 H locs ls hP hD hS hl hok
          obtain ⟨y19, hok, hL19, hR19⟩ := lp_step hok
          have J57 : ∀ (y2_57 : Int32) (vM_57 : Nat → Int32), ∀ (H : Heap) (locs : List Loc) (ls : Array Slot), va_P D vwCl (wX9_seekRests cy aM qM vM_57) H → va_D A (wX9_seekRests cy aM qM vM_57) → va_S A s.heap H locs → lv_has ls 5 [(0, .ref aM), (1, .int x1), (2, .int y2_57), (3, .int y3_10), (4, .int y4_19)] → fX9_seekRests_J57 y4_19 y2_57 vM_57 = some y19 → W p l e ({ frames := 2, cells := 0, slots := 0, locals := 46 } : Room) s m ([.ref aM, .int x1] : List Value).toArray below meth c H locs 0 0 Q (F0 m 57 ls []) := by
            intro y2_57 vM_57 H locs ls hP hD hS hl hok
            unfold fX9_seekRests_J57 at hok
            refine lv_iinc (v := (y4_19 + 1)) (lv' := [(4, .int (y4_19 + 1)), (0, .ref aM), (1, .int x1), (2, .int y2_57), (3, .int y3_10)]) hx hb dX9_seekRests_57 hl (k := 4) rfl (by first | rfl | decide) (by decide) rfl (fun ls hl => ?_)
            refine lv_goto (tgt := 19) hx hb dX9_seekRests_60 (by decide) ?_
            exact ih19 y2_57 (y4_19 + 1) vM_57 H locs ls hP hD hS (lv_sub hl [1, 2, 3, 4, 0] rfl) (hR19 _ (Option.some.inj hok).symm)
          have J54 : ∀ (vM_54 : Nat → Int32), ∀ (H : Heap) (locs : List Loc) (ls : Array Slot), va_P D vwCl (wX9_seekRests cy aM qM vM_54) H → va_D A (wX9_seekRests cy aM qM vM_54) → va_S A s.heap H locs → lv_has ls 5 [(0, .ref aM), (1, .int x1), (2, .int y2_19), (3, .int y3_10), (4, .int y4_19)] → fX9_seekRests_J54 y2_19 y4_19 vM_54 = some y19 → W p l e ({ frames := 2, cells := 0, slots := 0, locals := 46 } : Room) s m ([.ref aM, .int x1] : List Value).toArray below meth c H locs 0 0 Q (F0 m 54 ls []) := by
            intro vM_54 H locs ls hP hD hS hl hok
            unfold fX9_seekRests_J54 at hok
            refine lv_iinc (v := (y2_19 + 1)) (lv' := [(2, .int (y2_19 + 1)), (0, .ref aM), (1, .int x1), (3, .int y3_10), (4, .int y4_19)]) hx hb dX9_seekRests_54 hl (k := 2) rfl (by first | rfl | decide) (by decide) rfl (fun ls hl => ?_)
            exact J57 (y2_19 + 1) vM_54 H locs ls hP hD hS (lv_sub hl [1, 2, 0, 3, 4] rfl) hok
          unfold fX9_seekRests_B19 at hok
          try dsimp only at hok
          refine lv_iload hx hb dX9_seekRests_19 (lv_at hl 4 rfl) ?_
          refine lv_bipush (v := 6) hx hb dX9_seekRests_21 (by decide) ?_
          refine lv_icmp_gt (tgt := 63) hx hb dX9_seekRests_23 (by decide) (fun c23 => ?_) (fun c23 => ?_)
          · have hok := k_pos c23 hok
            obtain ⟨e19, hok, he19⟩ := ex_some hok
            have hok := hok.trans (congrArg some (hL19 _ he19))
            refine lv_iinc (v := (y3_10 + 1)) (lv' := [(3, .int (y3_10 + 1)), (0, .ref aM), (1, .int x1), (2, .int y2_19), (4, .int y4_19)]) hx hb dX9_seekRests_63 hl (k := 3) rfl (by first | rfl | decide) (by decide) rfl (fun ls hl => ?_)
            refine lv_goto (tgt := 10) hx hb dX9_seekRests_66 (by decide) ?_
            exact ih10 y2_19 (y3_10 + 1) vM_19 H locs ls hP hD hS (lv_sub hl [1, 2, 3, 0] rfl) (hR10 _ (Option.some.inj hok).symm)
          · have hok := k_neg c23 hok
            refine lv_iload_n hx hb dX9_seekRests_26 rfl (lv_at hl 1 rfl) ?_
            refine lv_iload_n hx hb dX9_seekRests_27 rfl (lv_at hl 3 rfl) ?_
            refine lv_iload hx hb dX9_seekRests_28 (lv_at hl 4 rfl) ?_
            obtain ⟨r30, hc30, hok⟩ := k_bind hok
            refine kCi (wc := (wX9_isRest cy )) (wc2 := (wX9_isRest cy )) (wr := [(aM, oX9 vM_19 qM)]) (ws2 := (wX9_seekRests cy aM qM vM_19)) (kRunS (As := [.int x1, .int y3_10, .int y4_19]) (rest := []) ⟨hx, hb, hml, hown, ht0⟩ (kX9_isRest l D cy _ x1 y3_10 y4_19 r30 hc30 _ rfl) (va_cwS 3 ht0 (gS wd1003 wd1004 wd744 wd1005) rfl rfl rfl (by decide +kernel) ⟨Nat.le_of_ble_eq_true rfl, Nat.le_of_ble_eq_true rfl⟩) hK hN hP hD [] rfl (by decide) rfl hl.1 rfl (Nat.le_of_ble_eq_true rfl) dX9_seekRests_30 ⟨Nat.zero_le _, Nat.zero_le _⟩) hP hD hS hA [] [0] rfl rfl (by decide) (by decide) [0] (by decide) rfl rfl (fun H locs hP hD hS => ?_)
            refine lv_if_ne (tgt := 39) hx hb dX9_seekRests_33 (by decide) (fun c33 => ?_) (fun c33 => ?_)
            · have hok := k_neg c33 hok
              refine lv_iload_n hx hb dX9_seekRests_39 rfl (lv_at hl 2 rfl) ?_
              refine lv_if_ne (tgt := 54) hx hb dX9_seekRests_40 (by decide) (fun c40 => ?_) (fun c40 => ?_)
              · have hok := k_neg c40 hok
                exact J54 vM_19 H locs ls hP hD hS (lv_sub hl [0, 1, 2, 3, 4] rfl) hok
              · have hok := k_pos c40 hok
                refine lv_aload_n hx hb dX9_seekRests_43 rfl (lv_at hl 0 rfl) ?_
                refine lv_bipush (v := 10) hx hb dX9_seekRests_44 (by decide) ?_
                refine lv_iload_n hx hb dX9_seekRests_46 rfl (lv_at hl 3 rfl) ?_
                refine lv_imul hx hb dX9_seekRests_47 ?_
                refine lv_iload hx hb dX9_seekRests_48 (lv_at hl 4 rfl) ?_
                refine lv_iadd hx hb dX9_seekRests_50 ?_
                refine va_put (D := D) (ci := 8) (v := .int (((10 : Int32) * y3_10) + y4_19)) (ty := .int) (C := RX9) (T := TX9) (N := 29) hx hb ht0 niX9 tyX9 tyX9_ok nmX9 hown hK hP hD hS 0 rfl rfl 26 (by decide) (ht0 _ wd1006) (fun _ h9 => h9) rfl (by decide +kernel) rfl rfl (Nat.le_of_ble_eq_true rfl) dX9_seekRests_51 (fun H locs hP hD hS => ?_)
                have hP : va_P D vwCl (wX9_seekRests cy aM qM (upd vM_19 26 (((10 : Int32) * y3_10) + y4_19))) H := hP
                have hD : va_D A (wX9_seekRests cy aM qM (upd vM_19 26 (((10 : Int32) * y3_10) + y4_19))) := hD
                exact J54 (upd vM_19 26 (((10 : Int32) * y3_10) + y4_19)) H locs ls hP hD hS (lv_sub hl [0, 1, 2, 3, 4] rfl) hok
            · have hok := k_pos c33 hok
              refine lv_goto (tgt := 57) hx hb dX9_seekRests_36 (by decide) ?_
              exact J57 y2_19 vM_19 H locs ls hP hD hS (lv_sub hl [0, 1, 2, 3, 4] rfl) hok
      unfold fX9_seekRests_B10 at hok
      try dsimp only at hok
      refine lv_iload_n hx hb dX9_seekRests_10 rfl (lv_at hl 3 rfl) ?_
      refine lv_bipush (v := 6) hx hb dX9_seekRests_11 (by decide) ?_
      refine lv_icmp_gt (tgt := 69) hx hb dX9_seekRests_13 (by decide) (fun c13 => ?_) (fun c13 => ?_)
      · have hok := k_pos c13 hok
        obtain ⟨e10, hok, he10⟩ := ex_some hok
        have hok := hok.trans (congrArg some (hL10 _ he10))
        refine lv_iload_n hx hb dX9_seekRests_69 rfl (lv_at hl 2 rfl) ?_
        cases hok
        subst hQe; exact W.iret hx hb hr (fun t ht hW => ⟨⟨_, (), rfl, rfl, by rw [ht]; exact hP, va_K.moved hW.alike hK, hD⟩, hS.F ht⟩) hS.2.2 dX9_seekRests_70
      · have hok := k_neg c13 hok
        refine lv_iconst (v := 0) hx hb dX9_seekRests_16 (by decide) ?_
        refine lv_istore (lv' := [(4, .int 0), (0, .ref aM), (1, .int x1), (2, .int y2_10), (3, .int y3_10)]) hx hb dX9_seekRests_17 hl (by decide) rfl (fun ls hl => ?_)
        exact L19 5000 y2_10 (0 : Int32) vM_10 H locs ls hP hD hS (lv_sub hl [1, 2, 3, 4, 0] rfl) hok
  unfold fX9_seekRests at hok
  obtain ⟨H, hH⟩ : ∃ H, H = s.heap := ⟨_, rfl⟩
  obtain ⟨locs, hlc⟩ : ∃ x : List Loc, x = [] := ⟨_, rfl⟩
  have hP : va_P D vwCl (wX9_seekRests cy aM qM vM) H := by rw [hH]; exact hP
  have hS : va_S A s.heap H locs := by rw [hH, hlc]; exact hS
  rw [show W p l e _ s m _ below meth c s.heap [] = W p l e _ s m _ below meth c H locs from by rw [hH, hlc]]
  refine lv_iconst (v := 0) hx hb dX9_seekRests_0 (by decide) ?_
  refine lv_istore_n (lv' := [(2, .int 0), (0, .ref aM), (1, .int x1)]) hx hb dX9_seekRests_1 rfl hl (by decide) rfl (fun ls hl => ?_)
  refine lv_aload_n hx hb dX9_seekRests_2 rfl (lv_at hl 1 rfl) ?_
  refine lv_bipush (v := -2) hx hb dX9_seekRests_3 (by decide) ?_
  refine va_put (D := D) (ci := 8) (v := .int (-2)) (ty := .int) (C := RX9) (T := TX9) (N := 29) hx hb ht0 niX9 tyX9 tyX9_ok nmX9 hown hK hP hD hS 0 rfl rfl 26 (by decide) (ht0 _ wd1006) (fun _ h9 => h9) rfl (by decide +kernel) rfl rfl (Nat.le_of_ble_eq_true rfl) dX9_seekRests_5 (fun H locs hP hD hS => ?_)
  have hP : va_P D vwCl (wX9_seekRests cy aM qM (upd vM 26 (-2 : Int32))) H := hP
  have hD : va_D A (wX9_seekRests cy aM qM (upd vM 26 (-2 : Int32))) := hD
  refine lv_iconst (v := 0) hx hb dX9_seekRests_8 (by decide) ?_
  refine lv_istore_n (lv' := [(3, .int 0), (2, .int 0), (0, .ref aM), (1, .int x1)]) hx hb dX9_seekRests_9 rfl hl (by decide) rfl (fun ls hl => ?_)
  exact L10 5000 (0 : Int32) (0 : Int32) (upd vM 26 (-2 : Int32)) H locs ls hP hD hS (lv_sub hl [2, 3, 1, 0] rfl) hok
def wsX9_rests : List Cond := .code yX9_rests cX9_rests 3 (some .int) :: W0
abbrev wX9_rests (cy : Nat → ClassId) (aM : Nat) (qM : Nat → Nat) (vM : Nat → Int32) : va_W := [(aM, oX9 vM qM)]
set_option maxHeartbeats 4000000 in
set_option maxRecDepth 100000 in
theorem kX9_rests (l : Launch) (D : va_G) (cy : Nat → ClassId) (sz : Nat) (aM : Nat) (qM : Nat → Nat) (vM : Nat → Int32) (x1 : Int32) (zr : Int32) (z_vM : Nat → Int32) (hok : fX9_rests vM x1 = some (zr, z_vM)) (A : Nat → Prop) (hAe : va_A (wX9_rests cy aM qM vM) sz = A) : Met l yX9_rests wsX9_rests ({ frames := 3, cells := 0, slots := 0, locals := 70 } : Room) (kPre D cy [.ref aM, .int x1] (wX9_rests cy aM qM vM) sz) (kQi D cy zr A (wX9_rests cy aM qM z_vM)) 0 0 A := by
  refine Met.ofW (cc := cX9_rests) (maxL := 3) (ret := (some .int)) (by decide) rfl ?_
  intro p e s m args below meth c s₁ B hml hv
  obtain ⟨rfl, hsz, hP, hK, hD0, hN⟩ := hv
  have hx := B.exec
  have hb := B.bytes
  have hr := B.returns
  have ht0 : ∀ w ∈ W0, w.before _ s = true := fun w h => atoms_spec (ws := wsX9_rests) B.pre w (List.mem_cons_of_mem _ h)
  have hown : s.vm.findClass RX9 = some m.cls := findClass_of_methodNamed B.named
  have hlocks := B.notSynchronized
  subst hsz
  have hD : va_D A (wX9_rests cy aM qM vM) := by rw [← hAe]; exact hD0.self
  have hA : ∀ q : Nat, s.heap.size ≤ q → A q := fun q h => by rw [← hAe]; exact Or.inr h
  have hS : va_S A s.heap s.heap [] := va_S.rf
  have hl := lv_entry ([.ref aM, .int x1]) (n := 3) (Nat.le_of_ble_eq_true rfl)
  rw [lg_entry_eq]
  generalize (lg_sl ([.ref aM, .int x1]) ++ List.replicate (3 - (lg_sl ([.ref aM, .int x1])).length) Slot.unset).toArray = ls at hl ⊢
  have hl : lv_has ls 3 [(0, .ref aM), (1, .int x1)] := hl
  generalize hQe : MQ below (kQi D cy zr A (wX9_rests cy aM qM z_vM)) ([.ref aM, .int x1] : List Value).toArray s 0 0 A = Q
  have J33 : ∀ (t0_33 : Int32) (vM_33 : Nat → Int32), ∀ (H : Heap) (locs : List Loc) (ls : Array Slot), va_P D vwCl (wX9_rests cy aM qM vM_33) H → va_D A (wX9_rests cy aM qM vM_33) → va_S A s.heap H locs → lv_has ls 3 [] → fX9_rests_J33 t0_33 vM_33 = some (zr, z_vM) → W p l e ({ frames := 3, cells := 0, slots := 0, locals := 70 } : Room) s m ([.ref aM, .int x1] : List Value).toArray below meth c H locs 0 0 Q (F0 m 33 ls [.int t0_33]) := by
    intro t0_33 vM_33 H locs ls hP hD hS hl hok
    unfold fX9_rests_J33 at hok
    cases hok
    subst hQe; exact W.iret hx hb hr (fun t ht hW => ⟨⟨_, (), rfl, rfl, by rw [ht]; exact hP, va_K.moved hW.alike hK, hD⟩, hS.F ht⟩) hS.2.2 dX9_rests_33
  unfold fX9_rests at hok
  obtain ⟨H, hH⟩ : ∃ H, H = s.heap := ⟨_, rfl⟩
  obtain ⟨locs, hlc⟩ : ∃ x : List Loc, x = [] := ⟨_, rfl⟩
  have hP : va_P D vwCl (wX9_rests cy aM qM vM) H := by rw [hH]; exact hP
  have hS : va_S A s.heap H locs := by rw [hH, hlc]; exact hS
  rw [show W p l e _ s m _ below meth c s.heap [] = W p l e _ s m _ below meth c H locs from by rw [hH, hlc]]
  refine lv_aload_n hx hb dX9_rests_0 rfl (lv_at hl 0 rfl) ?_
  obtain ⟨vM_1, hc1, hok⟩ := k_bind hok
  refine kCv (wc := (wX9_good cy aM qM vM)) (wc2 := (wX9_good cy aM qM vM_1)) (wr := []) (ws2 := (wX9_rests cy aM qM vM_1)) (kRunV (As := []) (rest := []) ⟨hx, hb, hml, hown, ht0⟩ (kX9_good l D cy _ aM qM vM vM_1 hc1 _ rfl) (cwV 0 ht0 (gV wd870 wd871 wd872 wd744 wd873) rfl rfl rfl (by decide +kernel) ⟨Nat.le_of_ble_eq_true rfl, Nat.le_of_ble_eq_true rfl⟩) hK hN hP hD [0] rfl (by decide) 0 8 rfl rfl rfl hl.1 rfl (Nat.le_of_ble_eq_true rfl) dX9_rests_1 ⟨Nat.zero_le _, Nat.zero_le _⟩) hP hD hS hA [0] [] rfl rfl (by decide) (by decide) [0] (by decide) rfl rfl (fun H locs hP hD hS => ?_)
  refine lv_aload_n hx hb dX9_rests_4 rfl (lv_at hl 0 rfl) ?_
  refine lv_aload_n hx hb dX9_rests_5 rfl (lv_at hl 0 rfl) ?_
  refine va_get (D := D) (ci := 8) (v := .int (vM_1 14)) (C := RX9) (T := TX9) (N := 29) hx hb ht0 niX9 hown hK hP 0 rfl rfl 14 (by decide) (ht0 _ wd855) (fun _ h9 => h9) rfl dX9_rests_6 ?_
  refine lv_iload_n hx hb dX9_rests_9 rfl (lv_at hl 1 rfl) ?_
  refine lv_bipush (v := 99) hx hb dX9_rests_10 (by decide) ?_
  obtain ⟨r12, hc12, hok⟩ := k_bind hok
  refine kCi (wc := (wX9_why cy aM)) (wc2 := (wX9_why cy aM)) (wr := [(aM, oX9 vM_1 qM)]) (ws2 := (wX9_rests cy aM qM vM_1)) (kRunV (As := [.int (vM_1 14), .int x1, .int 99]) (rest := []) ⟨hx, hb, hml, hown, ht0⟩ (kX9_why l D cy _ aM (vM_1 14) x1 (99 : Int32) r12 hc12 _ rfl) (cwV 3 ht0 (gV wd944 wd945 wd946 wd744 wd947) rfl rfl rfl (by decide +kernel) ⟨Nat.le_of_ble_eq_true rfl, Nat.le_of_ble_eq_true rfl⟩) hK hN hP hD [] rfl (by decide) 0 8 rfl rfl rfl hl.1 rfl (Nat.le_of_ble_eq_true rfl) dX9_rests_12 ⟨Nat.zero_le _, Nat.zero_le _⟩) hP hD hS hA [] [0] rfl rfl (by decide) (by decide) [0] (by decide) rfl rfl (fun H locs hP hD hS => ?_)
  refine lv_istore_n (lv' := [(2, .int r12), (0, .ref aM), (1, .int x1)]) hx hb dX9_rests_15 rfl hl (by decide) rfl (fun ls hl => ?_)
  refine lv_iload_n hx hb dX9_rests_16 rfl (lv_at hl 0 rfl) ?_
  refine lv_if_eq (tgt := 28) hx hb dX9_rests_17 (by decide) (fun c17 => ?_) (fun c17 => ?_)
  · have hok := k_pos c17 hok
    refine lv_aload_n hx hb dX9_rests_28 rfl (lv_at hl 1 rfl) ?_
    refine lv_iload_n hx hb dX9_rests_29 rfl (lv_at hl 2 rfl) ?_
    obtain ⟨⟨r30, vM_30⟩, hc30, hok⟩ := k_bind hok
    try dsimp only at hok
    refine kCi (wc := (wX9_seekRests cy aM qM vM_1)) (wc2 := (wX9_seekRests cy aM qM vM_30)) (wr := []) (ws2 := (wX9_rests cy aM qM vM_30)) (kRunV (As := [.int x1]) (rest := []) ⟨hx, hb, hml, hown, ht0⟩ (kX9_seekRests l D cy _ aM qM vM_1 x1 r30 vM_30 hc30 _ rfl) (cwV 1 ht0 (gV wd1007 wd1008 wd1009 wd744 wd1010) rfl rfl rfl (by decide +kernel) ⟨Nat.le_of_ble_eq_true rfl, Nat.le_of_ble_eq_true rfl⟩) hK hN hP hD [0] rfl (by decide) 0 8 rfl rfl rfl hl.1 rfl (Nat.le_of_ble_eq_true rfl) dX9_rests_30 ⟨Nat.zero_le _, Nat.zero_le _⟩) hP hD hS hA [0] [] rfl rfl (by decide) (by decide) [0] (by decide) rfl rfl (fun H locs hP hD hS => ?_)
    exact J33 r30 vM_30 H locs ls hP hD hS (lv_sub hl [] rfl) hok
  · have hok := k_neg c17 hok
    refine lv_aload_n hx hb dX9_rests_20 rfl (lv_at hl 1 rfl) ?_
    refine lv_iload_n hx hb dX9_rests_21 rfl (lv_at hl 0 rfl) ?_
    obtain ⟨⟨r22, vM_22⟩, hc22, hok⟩ := k_bind hok
    try dsimp only at hok
    refine kCi (wc := (wX9_no cy aM qM vM_1)) (wc2 := (wX9_no cy aM qM vM_22)) (wr := []) (ws2 := (wX9_rests cy aM qM vM_22)) (kRunV (As := [.int r12]) (rest := []) ⟨hx, hb, hml, hown, ht0⟩ (kX9_no l D cy _ aM qM vM_1 r12 r22 vM_22 hc22 _ rfl) (cwV 1 ht0 (gV wd862 wd863 wd864 wd744 wd865) rfl rfl rfl (by decide +kernel) ⟨Nat.le_of_ble_eq_true rfl, Nat.le_of_ble_eq_true rfl⟩) hK hN hP hD [0] rfl (by decide) 0 8 rfl rfl rfl hl.1 rfl (Nat.le_of_ble_eq_true rfl) dX9_rests_22 ⟨Nat.zero_le _, Nat.zero_le _⟩) hP hD hS hA [0] [] rfl rfl (by decide) (by decide) [0] (by decide) rfl rfl (fun H locs hP hD hS => ?_)
    refine lv_goto (tgt := 33) hx hb dX9_rests_25 (by decide) ?_
    exact J33 r22 vM_22 H locs ls hP hD hS (lv_sub hl [] rfl) hok
def wsX9_rest : List Cond := .code yX9_rest cX9_rest 3 (some .int) :: W0
abbrev wX9_rest (cy : Nat → ClassId) (aM : Nat) (qM : Nat → Nat) (vM : Nat → Int32) : va_W := [(aM, oX9 vM qM)]
set_option maxHeartbeats 4000000 in
set_option maxRecDepth 100000 in
theorem kX9_rest (l : Launch) (D : va_G) (cy : Nat → ClassId) (sz : Nat) (aM : Nat) (qM : Nat → Nat) (vM : Nat → Int32) (x1 : Int32) (zr : Int32) (z_vM : Nat → Int32) (hok : fX9_rest vM x1 = some (zr, z_vM)) (A : Nat → Prop) (hAe : va_A (wX9_rest cy aM qM vM) sz = A) : Met l yX9_rest wsX9_rest ({ frames := 3, cells := 0, slots := 0, locals := 70 } : Room) (kPre D cy [.ref aM, .int x1] (wX9_rest cy aM qM vM) sz) (kQi D cy zr A (wX9_rest cy aM qM z_vM)) 0 0 A := by
  refine Met.ofW (cc := cX9_rest) (maxL := 3) (ret := (some .int)) (by decide) rfl ?_
  intro p e s m args below meth c s₁ B hml hv
  obtain ⟨rfl, hsz, hP, hK, hD0, hN⟩ := hv
  have hx := B.exec
  have hb := B.bytes
  have hr := B.returns
  have ht0 : ∀ w ∈ W0, w.before _ s = true := fun w h => atoms_spec (ws := wsX9_rest) B.pre w (List.mem_cons_of_mem _ h)
  have hown : s.vm.findClass RX9 = some m.cls := findClass_of_methodNamed B.named
  have hlocks := B.notSynchronized
  subst hsz
  have hD : va_D A (wX9_rest cy aM qM vM) := by rw [← hAe]; exact hD0.self
  have hA : ∀ q : Nat, s.heap.size ≤ q → A q := fun q h => by rw [← hAe]; exact Or.inr h
  have hS : va_S A s.heap s.heap [] := va_S.rf
  have hl := lv_entry ([.ref aM, .int x1]) (n := 3) (Nat.le_of_ble_eq_true rfl)
  rw [lg_entry_eq]
  generalize (lg_sl ([.ref aM, .int x1]) ++ List.replicate (3 - (lg_sl ([.ref aM, .int x1])).length) Slot.unset).toArray = ls at hl ⊢
  have hl : lv_has ls 3 [(0, .ref aM), (1, .int x1)] := hl
  unfold fX9_rest at hok
  obtain ⟨H, hH⟩ : ∃ H, H = s.heap := ⟨_, rfl⟩
  obtain ⟨locs, hlc⟩ : ∃ x : List Loc, x = [] := ⟨_, rfl⟩
  have hP : va_P D vwCl (wX9_rest cy aM qM vM) H := by rw [hH]; exact hP
  have hS : va_S A s.heap H locs := by rw [hH, hlc]; exact hS
  rw [show W p l e _ s m _ below meth c s.heap [] = W p l e _ s m _ below meth c H locs from by rw [hH, hlc]]
  refine lv_aload_n hx hb dX9_rest_0 rfl (lv_at hl 0 rfl) ?_
  obtain ⟨vM_1, hc1, hok⟩ := k_bind hok
  refine kCv (wc := (wX9_good cy aM qM vM)) (wc2 := (wX9_good cy aM qM vM_1)) (wr := []) (ws2 := (wX9_rest cy aM qM vM_1)) (kRunV (As := []) (rest := []) ⟨hx, hb, hml, hown, ht0⟩ (kX9_good l D cy _ aM qM vM vM_1 hc1 _ rfl) (cwV 0 ht0 (gV wd870 wd871 wd872 wd744 wd873) rfl rfl rfl (by decide +kernel) ⟨Nat.le_of_ble_eq_true rfl, Nat.le_of_ble_eq_true rfl⟩) hK hN hP hD [0] rfl (by decide) 0 8 rfl rfl rfl hl.1 rfl (Nat.le_of_ble_eq_true rfl) dX9_rest_1 ⟨Nat.zero_le _, Nat.zero_le _⟩) hP hD hS hA [0] [] rfl rfl (by decide) (by decide) [0] (by decide) rfl rfl (fun H locs hP hD hS => ?_)
  refine lv_aload_n hx hb dX9_rest_4 rfl (lv_at hl 0 rfl) ?_
  refine lv_aload_n hx hb dX9_rest_5 rfl (lv_at hl 0 rfl) ?_
  refine va_get (D := D) (ci := 8) (v := .int (vM_1 14)) (C := RX9) (T := TX9) (N := 29) hx hb ht0 niX9 hown hK hP 0 rfl rfl 14 (by decide) (ht0 _ wd855) (fun _ h9 => h9) rfl dX9_rest_6 ?_
  refine lv_iload_n hx hb dX9_rest_9 rfl (lv_at hl 1 rfl) ?_
  refine lv_bipush (v := 99) hx hb dX9_rest_10 (by decide) ?_
  obtain ⟨r12, hc12, hok⟩ := k_bind hok
  refine kCi (wc := (wX9_why cy aM)) (wc2 := (wX9_why cy aM)) (wr := [(aM, oX9 vM_1 qM)]) (ws2 := (wX9_rest cy aM qM vM_1)) (kRunV (As := [.int (vM_1 14), .int x1, .int 99]) (rest := []) ⟨hx, hb, hml, hown, ht0⟩ (kX9_why l D cy _ aM (vM_1 14) x1 (99 : Int32) r12 hc12 _ rfl) (cwV 3 ht0 (gV wd944 wd945 wd946 wd744 wd947) rfl rfl rfl (by decide +kernel) ⟨Nat.le_of_ble_eq_true rfl, Nat.le_of_ble_eq_true rfl⟩) hK hN hP hD [] rfl (by decide) 0 8 rfl rfl rfl hl.1 rfl (Nat.le_of_ble_eq_true rfl) dX9_rest_12 ⟨Nat.zero_le _, Nat.zero_le _⟩) hP hD hS hA [] [0] rfl rfl (by decide) (by decide) [0] (by decide) rfl rfl (fun H locs hP hD hS => ?_)
  refine lv_istore_n (lv' := [(2, .int r12), (0, .ref aM), (1, .int x1)]) hx hb dX9_rest_15 rfl hl (by decide) rfl (fun ls hl => ?_)
  refine lv_iload_n hx hb dX9_rest_16 rfl (lv_at hl 0 rfl) ?_
  refine lv_if_eq (tgt := 26) hx hb dX9_rest_17 (by decide) (fun c17 => ?_) (fun c17 => ?_)
  · have hok := k_pos c17 hok
    refine lv_aload_n hx hb dX9_rest_26 rfl (lv_at hl 1 rfl) ?_
    refine lv_iload_n hx hb dX9_rest_27 rfl (lv_at hl 2 rfl) ?_
    obtain ⟨⟨r28, vM_28⟩, hc28, hok⟩ := k_bind hok
    try dsimp only at hok
    refine kCi (wc := (wX9_seekRests cy aM qM vM_1)) (wc2 := (wX9_seekRests cy aM qM vM_28)) (wr := []) (ws2 := (wX9_rest cy aM qM vM_28)) (kRunV (As := [.int x1]) (rest := []) ⟨hx, hb, hml, hown, ht0⟩ (kX9_seekRests l D cy _ aM qM vM_1 x1 r28 vM_28 hc28 _ rfl) (cwV 1 ht0 (gV wd1007 wd1008 wd1009 wd744 wd1010) rfl rfl rfl (by decide +kernel) ⟨Nat.le_of_ble_eq_true rfl, Nat.le_of_ble_eq_true rfl⟩) hK hN hP hD [0] rfl (by decide) 0 8 rfl rfl rfl hl.1 rfl (Nat.le_of_ble_eq_true rfl) dX9_rest_28 ⟨Nat.zero_le _, Nat.zero_le _⟩) hP hD hS hA [0] [] rfl rfl (by decide) (by decide) [0] (by decide) rfl rfl (fun H locs hP hD hS => ?_)
    refine lv_pop hx hb dX9_rest_31 rfl ?_
    refine lv_aload_n hx hb dX9_rest_32 rfl (lv_at hl 1 rfl) ?_
    refine va_get (D := D) (ci := 8) (v := .int (vM_28 26)) (C := RX9) (T := TX9) (N := 29) hx hb ht0 niX9 hown hK hP 0 rfl rfl 26 (by decide) (ht0 _ wd1006) (fun _ h9 => h9) rfl dX9_rest_33 ?_
    cases hok
    exact W.iret hx hb hr (fun t ht hW => ⟨⟨_, (), rfl, rfl, by rw [ht]; exact hP, va_K.moved hW.alike hK, hD⟩, hS.F ht⟩) hS.2.2 dX9_rest_36
  · have hok := k_neg c17 hok
    refine lv_aload_n hx hb dX9_rest_20 rfl (lv_at hl 1 rfl) ?_
    refine lv_iload_n hx hb dX9_rest_21 rfl (lv_at hl 0 rfl) ?_
    obtain ⟨⟨r22, vM_22⟩, hc22, hok⟩ := k_bind hok
    try dsimp only at hok
    refine kCi (wc := (wX9_no cy aM qM vM_1)) (wc2 := (wX9_no cy aM qM vM_22)) (wr := []) (ws2 := (wX9_rest cy aM qM vM_22)) (kRunV (As := [.int r12]) (rest := []) ⟨hx, hb, hml, hown, ht0⟩ (kX9_no l D cy _ aM qM vM_1 r12 r22 vM_22 hc22 _ rfl) (cwV 1 ht0 (gV wd862 wd863 wd864 wd744 wd865) rfl rfl rfl (by decide +kernel) ⟨Nat.le_of_ble_eq_true rfl, Nat.le_of_ble_eq_true rfl⟩) hK hN hP hD [0] rfl (by decide) 0 8 rfl rfl rfl hl.1 rfl (Nat.le_of_ble_eq_true rfl) dX9_rest_22 ⟨Nat.zero_le _, Nat.zero_le _⟩) hP hD hS hA [0] [] rfl rfl (by decide) (by decide) [0] (by decide) rfl rfl (fun H locs hP hD hS => ?_)
    cases hok
    exact W.iret hx hb hr (fun t ht hW => ⟨⟨_, (), rfl, rfl, by rw [ht]; exact hP, va_K.moved hW.alike hK, hD⟩, hS.F ht⟩) hS.2.2 dX9_rest_25
def wsX9_dampWhy : List Cond := .code yX9_dampWhy cX9_dampWhy 10 (some .int) :: W0
abbrev wX9_dampWhy (cy : Nat → ClassId) (aM : Nat) (qM : Nat → Nat) (vM : Nat → Int32) (vM_st : Nat → Int32) (vM_trial : Nat → Int32) (vM_r : Nat → Int32) : va_W := [(aM, oX9 vM qM), (qM 17, rI cy 9 vM_st), (qM 22, rI cy 9 vM_trial), (qM 15, rI cy 224 vM_r)]
set_option maxHeartbeats 4000000 in
set_option maxRecDepth 100000 in
theorem kX9_dampWhy (l : Launch) (D : va_G) (cy : Nat → ClassId) (sz : Nat) (aM : Nat) (qM : Nat → Nat) (vM : Nat → Int32) (vM_st : Nat → Int32) (vM_trial : Nat → Int32) (vM_r : Nat → Int32) (x1 : Int32) (x2 : Int32) (x3 : Int32) (x4 : Int32) (x5 : Int32) (zr : Int32) (z_vM : Nat → Int32) (z_vM_trial : Nat → Int32) (hok : fX9_dampWhy vM vM_st vM_trial vM_r x1 x2 x3 x4 x5 = some (zr, z_vM, z_vM_trial)) (A : Nat → Prop) (hAe : va_A (wX9_dampWhy cy aM qM vM vM_st vM_trial vM_r) sz = A) : Met l yX9_dampWhy wsX9_dampWhy ({ frames := 3, cells := 0, slots := 0, locals := 71 } : Room) (kPre D cy [.ref aM, .int x1, .int x2, .int x3, .int x4, .int x5] (wX9_dampWhy cy aM qM vM vM_st vM_trial vM_r) sz) (kQi D cy zr A (wX9_dampWhy cy aM qM z_vM vM_st z_vM_trial vM_r)) 0 0 A := by
  refine Met.ofW (cc := cX9_dampWhy) (maxL := 10) (ret := (some .int)) (by decide) rfl ?_
  intro p e s m args below meth c s₁ B hml hv
  obtain ⟨rfl, hsz, hP, hK, hD0, hN⟩ := hv
  have hx := B.exec
  have hb := B.bytes
  have hr := B.returns
  have ht0 : ∀ w ∈ W0, w.before _ s = true := fun w h => atoms_spec (ws := wsX9_dampWhy) B.pre w (List.mem_cons_of_mem _ h)
  have hown : s.vm.findClass RX9 = some m.cls := findClass_of_methodNamed B.named
  have hlocks := B.notSynchronized
  subst hsz
  have hD : va_D A (wX9_dampWhy cy aM qM vM vM_st vM_trial vM_r) := by rw [← hAe]; exact hD0.self
  have hA : ∀ q : Nat, s.heap.size ≤ q → A q := fun q h => by rw [← hAe]; exact Or.inr h
  have hS : va_S A s.heap s.heap [] := va_S.rf
  have hl := lv_entry ([.ref aM, .int x1, .int x2, .int x3, .int x4, .int x5]) (n := 10) (Nat.le_of_ble_eq_true rfl)
  rw [lg_entry_eq]
  generalize (lg_sl ([.ref aM, .int x1, .int x2, .int x3, .int x4, .int x5]) ++ List.replicate (10 - (lg_sl ([.ref aM, .int x1, .int x2, .int x3, .int x4, .int x5])).length) Slot.unset).toArray = ls at hl ⊢
  have hl : lv_has ls 10 [(0, .ref aM), (1, .int x1), (2, .int x2), (3, .int x3), (4, .int x4), (5, .int x5)] := hl
  generalize hQe : MQ below (kQi D cy zr A (wX9_dampWhy cy aM qM z_vM vM_st z_vM_trial vM_r)) ([.ref aM, .int x1, .int x2, .int x3, .int x4, .int x5] : List Value).toArray s 0 0 A = Q
  have L49 : ∀ (fuel : Nat) (y6_49 : Int32) (y7_49 : Int32) (vM_trial_49 : Nat → Int32) (vM_49 : Nat → Int32), ∀ (H : Heap) (locs : List Loc) (ls : Array Slot), va_P D vwCl (wX9_dampWhy cy aM qM vM_49 vM_st vM_trial_49 vM_r) H → va_D A (wX9_dampWhy cy aM qM vM_49 vM_st vM_trial_49 vM_r) → va_S A s.heap H locs → lv_has ls 10 [(0, .ref aM), (3, .int x3), (4, .int x4), (5, .int x5), (6, .int y6_49), (7, .int y7_49)] → lp (fX9_dampWhy_B49 vM_r x3 x4 x5) fuel (y6_49, y7_49, vM_trial_49, vM_49) = some (zr, z_vM, z_vM_trial) → W p l e ({ frames := 3, cells := 0, slots := 0, locals := 71 } : Room) s m ([.ref aM, .int x1, .int x2, .int x3, .int x4, .int x5] : List Value).toArray below meth c H locs 0 0 Q (F0 m 49 ls []) := by
    intro fuel
    induction fuel with
    | zero => intro y6_49 y7_49 vM_trial_49 vM_49 H locs ls hP hD hS hl hok; exact (lp_0 hok).elim
    | succ fuel ih49 =>
      intro y6_49 y7_49 vM_trial_49 vM_49 H locs ls hP hD hS hl hok
      obtain ⟨y49, hok, hL49, hR49⟩ := lp_step hok
      have J192 : ∀ (y6_192 : Int32) (vM_trial_192 : Nat → Int32) (vM_192 : Nat → Int32), ∀ (H : Heap) (locs : List Loc) (ls : Array Slot), va_P D vwCl (wX9_dampWhy cy aM qM vM_192 vM_st vM_trial_192 vM_r) H → va_D A (wX9_dampWhy cy aM qM vM_192 vM_st vM_trial_192 vM_r) → va_S A s.heap H locs → lv_has ls 10 [(0, .ref aM), (3, .int x3), (4, .int x4), (5, .int x5), (6, .int y6_192), (7, .int y7_49)] → fX9_dampWhy_J192 y7_49 y6_192 vM_trial_192 vM_192 = some y49 → W p l e ({ frames := 3, cells := 0, slots := 0, locals := 71 } : Room) s m ([.ref aM, .int x1, .int x2, .int x3, .int x4, .int x5] : List Value).toArray below meth c H locs 0 0 Q (F0 m 192 ls []) := by
        intro y6_192 vM_trial_192 vM_192 H locs ls hP hD hS hl hok
        unfold fX9_dampWhy_J192 at hok
        refine lv_iinc (v := (y7_49 + 1)) (lv' := [(7, .int (y7_49 + 1)), (0, .ref aM), (3, .int x3), (4, .int x4), (5, .int x5), (6, .int y6_192)]) hx hb dX9_dampWhy_192 hl (k := 5) rfl (by first | rfl | decide) (by decide) rfl (fun ls hl => ?_)
        refine lv_goto (tgt := 49) hx hb dX9_dampWhy_195 (by decide) ?_
        exact ih49 y6_192 (y7_49 + 1) vM_trial_192 vM_192 H locs ls hP hD hS (lv_sub hl [1, 2, 3, 4, 5, 0] rfl) (hR49 _ (Option.some.inj hok).symm)
      have L68 : ∀ (fuel : Nat) (y6_68 : Int32) (y8_68 : Int32) (y9_68 : Int32), ∀ (H : Heap) (locs : List Loc) (ls : Array Slot), va_P D vwCl (wX9_dampWhy cy aM qM vM_49 vM_st vM_trial_49 vM_r) H → va_D A (wX9_dampWhy cy aM qM vM_49 vM_st vM_trial_49 vM_r) → va_S A s.heap H locs → lv_has ls 10 [(0, .ref aM), (3, .int x3), (4, .int x4), (5, .int x5), (6, .int y6_68), (7, .int y7_49), (8, .int y8_68), (9, .int y9_68)] → lp (fX9_dampWhy_B68 vM_r x4 x5 y7_49 vM_trial_49 vM_49) fuel (y6_68, y8_68, y9_68) = some y49 → W p l e ({ frames := 3, cells := 0, slots := 0, locals := 71 } : Room) s m ([.ref aM, .int x1, .int x2, .int x3, .int x4, .int x5] : List Value).toArray below meth c H locs 0 0 Q (F0 m 68 ls []) := by
        intro fuel
        induction fuel with
        | zero => intro y6_68 y8_68 y9_68 H locs ls hP hD hS hl hok; exact (lp_0 hok).elim
        | succ fuel ih68 =>
          intro y6_68 y8_68 y9_68 H locs ls hP hD hS hl hok
          obtain ⟨y68, hok, hL68, hR68⟩ := lp_step hok
          have J117 : ∀ (t0_117 : Int32), ∀ (H : Heap) (locs : List Loc) (ls : Array Slot), va_P D vwCl (wX9_dampWhy cy aM qM vM_49 vM_st vM_trial_49 vM_r) H → va_D A (wX9_dampWhy cy aM qM vM_49 vM_st vM_trial_49 vM_r) → va_S A s.heap H locs → lv_has ls 10 [(0, .ref aM), (3, .int x3), (4, .int x4), (5, .int x5), (6, .int (irm (((75 : Int32) * y6_68) + (74 : Int32)) (65537 : Int32))), (7, .int y7_49), (9, .int y9_68)] → fX9_dampWhy_J117 y6_68 y8_68 y9_68 t0_117 = some y68 → W p l e ({ frames := 3, cells := 0, slots := 0, locals := 71 } : Room) s m ([.ref aM, .int x1, .int x2, .int x3, .int x4, .int x5] : List Value).toArray below meth c H locs 0 0 Q (F0 m 117 ls [.int t0_117, .int y8_68]) := by
            intro t0_117 H locs ls hP hD hS hl hok
            unfold fX9_dampWhy_J117 at hok
            refine lv_ior hx hb dX9_dampWhy_117 ?_
            refine lv_istore (lv' := [(8, .int (y8_68 ||| t0_117)), (0, .ref aM), (3, .int x3), (4, .int x4), (5, .int x5), (6, .int (irm (((75 : Int32) * y6_68) + (74 : Int32)) (65537 : Int32))), (7, .int y7_49), (9, .int y9_68)]) hx hb dX9_dampWhy_118 hl (by decide) rfl (fun ls hl => ?_)
            refine lv_iinc (v := (y9_68 + 1)) (lv' := [(9, .int (y9_68 + 1)), (8, .int (y8_68 ||| t0_117)), (0, .ref aM), (3, .int x3), (4, .int x4), (5, .int x5), (6, .int (irm (((75 : Int32) * y6_68) + (74 : Int32)) (65537 : Int32))), (7, .int y7_49)]) hx hb dX9_dampWhy_120 hl (k := 7) rfl (by first | rfl | decide) (by decide) rfl (fun ls hl => ?_)
            refine lv_goto (tgt := 68) hx hb dX9_dampWhy_123 (by decide) ?_
            exact ih68 (irm (((75 : Int32) * y6_68) + (74 : Int32)) (65537 : Int32)) (y8_68 ||| t0_117) (y9_68 + 1) H locs ls hP hD hS (lv_sub hl [2, 3, 4, 5, 6, 7, 1, 0] rfl) (hR68 _ (Option.some.inj hok).symm)
          unfold fX9_dampWhy_B68 at hok
          try dsimp only at hok
          refine lv_iload hx hb dX9_dampWhy_68 (lv_at hl 7 rfl) ?_
          refine lv_aload_n hx hb dX9_dampWhy_70 rfl (lv_at hl 0 rfl) ?_
          refine va_get (D := D) (ci := 8) (v := .ref (qM 15)) (C := RX9) (T := TX9) (N := 29) hx hb ht0 niX9 hown hK hP 0 rfl rfl 15 (by decide) (ht0 _ wd854) (fun _ h9 => h9) rfl dX9_dampWhy_71 ?_
          refine lv_iconst (v := 3) hx hb dX9_dampWhy_74 (by decide) ?_
          obtain ⟨g75, hok⟩ := gd_some hok
          refine va_iald hx hb hK hP 3 0 rfl rfl (okI_in g75) dX9_dampWhy_75 ?_
          refine lv_icmp_ge (tgt := 126) hx hb dX9_dampWhy_76 (by decide) (fun c76 => ?_) (fun c76 => ?_)
          · have hok := k_pos c76 hok
            obtain ⟨e68, hok, he68⟩ := ex_some hok
            have hok := hok.trans (congrArg some (hL68 _ he68))
            refine lv_aload_n hx hb dX9_dampWhy_126 rfl (lv_at hl 0 rfl) ?_
            refine lv_aload_n hx hb dX9_dampWhy_127 rfl (lv_at hl 0 rfl) ?_
            refine va_get (D := D) (ci := 8) (v := .ref (qM 22)) (C := RX9) (T := TX9) (N := 29) hx hb ht0 niX9 hown hK hP 0 rfl rfl 22 (by decide) (ht0 _ wd921) (fun _ h9 => h9) rfl dX9_dampWhy_128 ?_
            refine lv_iload hx hb dX9_dampWhy_131 (lv_at hl 6 rfl) ?_
            obtain ⟨r133, hc133, hok⟩ := k_bind hok
            refine kCi (wc := (wX9_goingBy cy aM (qM 22) qM vM_49 vM_r 9 vM_trial_49)) (wc2 := (wX9_goingBy cy aM (qM 22) qM vM_49 vM_r 9 vM_trial_49)) (wr := [(qM 17, rI cy 9 vM_st)]) (ws2 := (wX9_dampWhy cy aM qM vM_49 vM_st vM_trial_49 vM_r)) (kRunV (As := [.ref (qM 22), .int y8_68]) (rest := []) ⟨hx, hb, hml, hown, ht0⟩ (kX9_goingBy l D cy _ aM (qM 22) qM vM_49 vM_r 9 vM_trial_49 y8_68 r133 hc133 _ rfl) (cwV 2 ht0 (gV wd909 wd910 wd911 wd744 wd912) rfl rfl rfl (by decide +kernel) ⟨Nat.le_of_ble_eq_true rfl, Nat.le_of_ble_eq_true rfl⟩) hK hN hP hD [0, 3, 2] rfl (by decide) 0 8 rfl rfl rfl hl.1 rfl (Nat.le_of_ble_eq_true rfl) dX9_dampWhy_133 ⟨Nat.zero_le _, Nat.zero_le _⟩) hP hD hS hA [0, 3, 2] [1] rfl rfl (by decide) (by decide) [1, 0, 3, 2] (by decide) rfl rfl (fun H locs hP hD hS => ?_)
            refine lv_istore (lv' := [(9, .int r133), (0, .ref aM), (3, .int x3), (4, .int x4), (5, .int x5), (6, .int y6_68), (7, .int y7_49), (8, .int y8_68)]) hx hb dX9_dampWhy_136 hl (by decide) rfl (fun ls hl => ?_)
            refine lv_aload_n hx hb dX9_dampWhy_138 rfl (lv_at hl 1 rfl) ?_
            refine lv_aload_n hx hb dX9_dampWhy_139 rfl (lv_at hl 1 rfl) ?_
            refine va_get (D := D) (ci := 8) (v := .ref (qM 22)) (C := RX9) (T := TX9) (N := 29) hx hb ht0 niX9 hown hK hP 0 rfl rfl 22 (by decide) (ht0 _ wd921) (fun _ h9 => h9) rfl dX9_dampWhy_140 ?_
            refine lv_iload hx hb dX9_dampWhy_143 (lv_at hl 0 rfl) ?_
            obtain ⟨p1_145, hc145, hok⟩ := k_bind hok
            refine kCv (wc := (wX9_goOver cy aM (qM 22) qM vM_49 vM_r 9 vM_trial_49)) (wc2 := (wX9_goOver cy aM (qM 22) qM vM_49 vM_r 9 p1_145)) (wr := [(qM 17, rI cy 9 vM_st)]) (ws2 := (wX9_dampWhy cy aM qM vM_49 vM_st p1_145 vM_r)) (kRunV (As := [.ref (qM 22), .int r133]) (rest := []) ⟨hx, hb, hml, hown, ht0⟩ (kX9_goOver l D cy _ aM (qM 22) qM vM_49 vM_r 9 vM_trial_49 r133 p1_145 hc145 _ rfl) (cwV 2 ht0 (gV wd917 wd918 wd919 wd744 wd920) rfl rfl rfl (by decide +kernel) ⟨Nat.le_of_ble_eq_true rfl, Nat.le_of_ble_eq_true rfl⟩) hK hN hP hD [0, 3, 2] rfl (by decide) 0 8 rfl rfl rfl hl.1 rfl (Nat.le_of_ble_eq_true rfl) dX9_dampWhy_145 ⟨Nat.zero_le _, Nat.zero_le _⟩) hP hD hS hA [0, 3, 2] [1] rfl rfl (by decide) (by decide) [1, 0, 3, 2] (by decide) rfl rfl (fun H locs hP hD hS => ?_)
            refine lv_aload_n hx hb dX9_dampWhy_148 rfl (lv_at hl 1 rfl) ?_
            refine lv_dup hx hb dX9_dampWhy_149 rfl ?_
            refine va_get (D := D) (ci := 8) (v := .int (vM_49 27)) (C := RX9) (T := TX9) (N := 29) hx hb ht0 niX9 hown hK hP 0 rfl rfl 27 (by decide) (ht0 _ wd1013) (fun _ h9 => h9) rfl dX9_dampWhy_150 ?_
            refine lv_iload hx hb dX9_dampWhy_153 (lv_at hl 0 rfl) ?_
            obtain ⟨r155, hc155, hok⟩ := k_bind hok
            refine kCi (wc := (wX9_ones cy )) (wc2 := (wX9_ones cy )) (wr := [(aM, oX9 vM_49 qM), (qM 17, rI cy 9 vM_st), (qM 22, rI cy 9 p1_145), (qM 15, rI cy 224 vM_r)]) (ws2 := (wX9_dampWhy cy aM qM vM_49 vM_st p1_145 vM_r)) (kRunS (As := [.int r133]) (rest := [.int (vM_49 27), .ref aM]) ⟨hx, hb, hml, hown, ht0⟩ (kX9_ones l D cy _ r133 r155 hc155 _ rfl) (va_cwS 1 ht0 (gS wd922 wd923 wd744 wd924) rfl rfl rfl (by decide +kernel) ⟨Nat.le_of_ble_eq_true rfl, Nat.le_of_ble_eq_true rfl⟩) hK hN hP hD [] rfl (by decide) rfl hl.1 rfl (Nat.le_of_ble_eq_true rfl) dX9_dampWhy_155 ⟨Nat.zero_le _, Nat.zero_le _⟩) hP hD hS hA [] [0, 1, 2, 3] rfl rfl (by decide) (by decide) [0, 1, 2, 3] (by decide) rfl rfl (fun H locs hP hD hS => ?_)
            refine lv_iadd hx hb dX9_dampWhy_158 ?_
            refine va_put (D := D) (ci := 8) (v := .int ((vM_49 27) + r155)) (ty := .int) (C := RX9) (T := TX9) (N := 29) hx hb ht0 niX9 tyX9 tyX9_ok nmX9 hown hK hP hD hS 0 rfl rfl 27 (by decide) (ht0 _ wd1013) (fun _ h9 => h9) rfl (by decide +kernel) rfl rfl (Nat.le_of_ble_eq_true rfl) dX9_dampWhy_159 (fun H locs hP hD hS => ?_)
            have hP : va_P D vwCl (wX9_dampWhy cy aM qM (upd vM_49 27 ((vM_49 27) + r155)) vM_st p1_145 vM_r) H := hP
            have hD : va_D A (wX9_dampWhy cy aM qM (upd vM_49 27 ((vM_49 27) + r155)) vM_st p1_145 vM_r) := hD
            refine lv_iload hx hb dX9_dampWhy_162 (lv_at hl 3 rfl) ?_
            refine lv_if_lt (tgt := 192) hx hb dX9_dampWhy_164 (by decide) (fun c164 => ?_) (fun c164 => ?_)
            · have hok := k_pos c164 hok
              exact J192 y6_68 p1_145 (upd vM_49 27 ((vM_49 27) + r155)) H locs ls hP hD hS (lv_sub hl [1, 2, 3, 4, 5, 6] rfl) hok
            · have hok := k_neg c164 hok
              refine lv_aload_n hx hb dX9_dampWhy_167 rfl (lv_at hl 1 rfl) ?_
              refine va_get (D := D) (ci := 8) (v := .int (vM_49 28)) (C := RX9) (T := TX9) (N := 29) hx hb ht0 niX9 hown hK hP 0 rfl rfl 28 (by decide) (ht0 _ wd1014) (fun _ h9 => h9) rfl dX9_dampWhy_168 ?_
              refine lv_if_ne (tgt := 192) hx hb dX9_dampWhy_171 (by decide) (fun c171 => ?_) (fun c171 => ?_)
              · have hok := k_neg c171 hok
                exact J192 y6_68 p1_145 (upd vM_49 27 ((vM_49 27) + r155)) H locs ls hP hD hS (lv_sub hl [1, 2, 3, 4, 5, 6] rfl) hok
              · have hok := k_pos c171 hok
                refine lv_aload_n hx hb dX9_dampWhy_174 rfl (lv_at hl 1 rfl) ?_
                refine va_get (D := D) (ci := 8) (v := .ref (qM 22)) (C := RX9) (T := TX9) (N := 29) hx hb ht0 niX9 hown hK hP 0 rfl rfl 22 (by decide) (ht0 _ wd921) (fun _ h9 => h9) rfl dX9_dampWhy_175 ?_
                refine lv_iload hx hb dX9_dampWhy_178 (lv_at hl 3 rfl) ?_
                obtain ⟨g180, hok⟩ := gd_some hok
                refine va_iald hx hb hK hP 2 0 rfl rfl (okI_in g180) dX9_dampWhy_180 ?_
                refine lv_iload hx hb dX9_dampWhy_181 (lv_at hl 4 rfl) ?_
                refine lv_icmp_ne (tgt := 192) hx hb dX9_dampWhy_183 (by decide) (fun c183 => ?_) (fun c183 => ?_)
                · have hok := k_neg c183 hok
                  exact J192 y6_68 p1_145 (upd vM_49 27 ((vM_49 27) + r155)) H locs ls hP hD hS (lv_sub hl [1, 2, 3, 4, 5, 6] rfl) hok
                · have hok := k_pos c183 hok
                  refine lv_aload_n hx hb dX9_dampWhy_186 rfl (lv_at hl 1 rfl) ?_
                  refine lv_iload hx hb dX9_dampWhy_187 (lv_at hl 6 rfl) ?_
                  refine va_put (D := D) (ci := 8) (v := .int y7_49) (ty := .int) (C := RX9) (T := TX9) (N := 29) hx hb ht0 niX9 tyX9 tyX9_ok nmX9 hown hK hP hD hS 0 rfl rfl 28 (by decide) (ht0 _ wd1014) (fun _ h9 => h9) rfl (by decide +kernel) rfl rfl (Nat.le_of_ble_eq_true rfl) dX9_dampWhy_189 (fun H locs hP hD hS => ?_)
                  have hP : va_P D vwCl (wX9_dampWhy cy aM qM (upd (upd vM_49 27 ((vM_49 27) + r155)) 28 y7_49) vM_st p1_145 vM_r) H := hP
                  have hD : va_D A (wX9_dampWhy cy aM qM (upd (upd vM_49 27 ((vM_49 27) + r155)) 28 y7_49) vM_st p1_145 vM_r) := hD
                  exact J192 y6_68 p1_145 (upd (upd vM_49 27 ((vM_49 27) + r155)) 28 y7_49) H locs ls hP hD hS (lv_sub hl [1, 2, 3, 4, 5, 6] rfl) hok
          · have hok := k_neg c76 hok
            refine lv_bipush (v := 75) hx hb dX9_dampWhy_79 (by decide) ?_
            refine lv_iload hx hb dX9_dampWhy_81 (lv_at hl 4 rfl) ?_
            refine lv_imul hx hb dX9_dampWhy_83 ?_
            refine lv_bipush (v := 74) hx hb dX9_dampWhy_84 (by decide) ?_
            refine lv_iadd hx hb dX9_dampWhy_86 ?_
            refine lv_ldcw (v := 65537) hx hb hown (ht0 _ wd1012) dX9_dampWhy_87 ?_
            refine lv_irem hx hb dX9_dampWhy_90 (by decide) ?_
            refine lv_istore (lv' := [(6, .int (irm (((75 : Int32) * y6_68) + (74 : Int32)) (65537 : Int32))), (0, .ref aM), (3, .int x3), (4, .int x4), (5, .int x5), (7, .int y7_49), (8, .int y8_68), (9, .int y9_68)]) hx hb dX9_dampWhy_91 hl (by decide) rfl (fun ls hl => ?_)
            refine lv_iload hx hb dX9_dampWhy_93 (lv_at hl 6 rfl) ?_
            refine lv_iload hx hb dX9_dampWhy_95 (lv_at hl 0 rfl) ?_
            refine lv_bipush (v := 100) hx hb dX9_dampWhy_97 (by decide) ?_
            refine lv_irem hx hb dX9_dampWhy_99 (by decide) ?_
            refine lv_aload_n hx hb dX9_dampWhy_100 rfl (lv_at hl 1 rfl) ?_
            refine va_get (D := D) (ci := 8) (v := .ref (qM 15)) (C := RX9) (T := TX9) (N := 29) hx hb ht0 niX9 hown hK hP 0 rfl rfl 15 (by decide) (ht0 _ wd854) (fun _ h9 => h9) rfl dX9_dampWhy_101 ?_
            refine lv_iconst (v := 1) hx hb dX9_dampWhy_104 (by decide) ?_
            obtain ⟨g105, hok⟩ := gd_some hok
            refine va_iald hx hb hK hP 3 0 rfl rfl (okI_in g105) dX9_dampWhy_105 ?_
            refine lv_icmp_ge (tgt := 116) hx hb dX9_dampWhy_106 (by decide) (fun c106 => ?_) (fun c106 => ?_)
            · have hok := k_pos c106 hok
              refine lv_iconst (v := 0) hx hb dX9_dampWhy_116 (by decide) ?_
              exact J117 (0 : Int32) H locs ls hP hD hS (lv_sub hl [1, 2, 3, 4, 0, 5, 7] rfl) hok
            · have hok := k_neg c106 hok
              refine lv_iconst (v := 1) hx hb dX9_dampWhy_109 (by decide) ?_
              refine lv_iload hx hb dX9_dampWhy_110 (lv_at hl 7 rfl) ?_
              refine lv_ishl hx hb dX9_dampWhy_112 ?_
              refine lv_goto (tgt := 117) hx hb dX9_dampWhy_113 (by decide) ?_
              exact J117 (isl (1 : Int32) y9_68) H locs ls hP hD hS (lv_sub hl [1, 2, 3, 4, 0, 5, 7] rfl) hok
      unfold fX9_dampWhy_B49 at hok
      try dsimp only at hok
      refine lv_iload hx hb dX9_dampWhy_49 (lv_at hl 5 rfl) ?_
      refine lv_iload_n hx hb dX9_dampWhy_51 rfl (lv_at hl 1 rfl) ?_
      refine lv_icmp_gt (tgt := 198) hx hb dX9_dampWhy_52 (by decide) (fun c52 => ?_) (fun c52 => ?_)
      · have hok := k_pos c52 hok
        obtain ⟨e49, hok, he49⟩ := ex_some hok
        have hok := hok.trans (congrArg some (hL49 _ he49))
        refine lv_iconst (v := 0) hx hb dX9_dampWhy_198 (by decide) ?_
        cases hok
        subst hQe; exact W.iret hx hb hr (fun t ht hW => ⟨⟨_, (), rfl, rfl, by rw [ht]; exact hP, va_K.moved hW.alike hK, hD⟩, hS.F ht⟩) hS.2.2 dX9_dampWhy_199
      · have hok := k_neg c52 hok
        refine lv_aload_n hx hb dX9_dampWhy_55 rfl (lv_at hl 0 rfl) ?_
        refine lv_aload_n hx hb dX9_dampWhy_56 rfl (lv_at hl 0 rfl) ?_
        refine va_get (D := D) (ci := 8) (v := .ref (qM 22)) (C := RX9) (T := TX9) (N := 29) hx hb ht0 niX9 hown hK hP 0 rfl rfl 22 (by decide) (ht0 _ wd921) (fun _ h9 => h9) rfl dX9_dampWhy_57 ?_
        obtain ⟨r60, hc60, hok⟩ := k_bind hok
        refine kCi (wc := (wX9_fixed cy aM (qM 22) qM vM_49 vM_r 9 vM_trial_49)) (wc2 := (wX9_fixed cy aM (qM 22) qM vM_49 vM_r 9 vM_trial_49)) (wr := [(qM 17, rI cy 9 vM_st)]) (ws2 := (wX9_dampWhy cy aM qM vM_49 vM_st vM_trial_49 vM_r)) (kRunV (As := [.ref (qM 22)]) (rest := []) ⟨hx, hb, hml, hown, ht0⟩ (kX9_fixed l D cy _ aM (qM 22) qM vM_49 vM_r 9 vM_trial_49 r60 hc60 _ rfl) (cwV 1 ht0 (gV wd905 wd906 wd907 wd744 wd908) rfl rfl rfl (by decide +kernel) ⟨Nat.le_of_ble_eq_true rfl, Nat.le_of_ble_eq_true rfl⟩) hK hN hP hD [0, 3, 2] rfl (by decide) 0 8 rfl rfl rfl hl.1 rfl (Nat.le_of_ble_eq_true rfl) dX9_dampWhy_60 ⟨Nat.zero_le _, Nat.zero_le _⟩) hP hD hS hA [0, 3, 2] [1] rfl rfl (by decide) (by decide) [1, 0, 3, 2] (by decide) rfl rfl (fun H locs hP hD hS => ?_)
        refine lv_istore (lv' := [(8, .int r60), (0, .ref aM), (3, .int x3), (4, .int x4), (5, .int x5), (6, .int y6_49), (7, .int y7_49)]) hx hb dX9_dampWhy_63 hl (by decide) rfl (fun ls hl => ?_)
        refine lv_iconst (v := 0) hx hb dX9_dampWhy_65 (by decide) ?_
        refine lv_istore (lv' := [(9, .int 0), (8, .int r60), (0, .ref aM), (3, .int x3), (4, .int x4), (5, .int x5), (6, .int y6_49), (7, .int y7_49)]) hx hb dX9_dampWhy_66 hl (by decide) rfl (fun ls hl => ?_)
        exact L68 5000 y6_49 r60 (0 : Int32) H locs ls hP hD hS (lv_sub hl [2, 3, 4, 5, 6, 7, 1, 0] rfl) hok
  have J27 : ∀ (H : Heap) (locs : List Loc) (ls : Array Slot), va_P D vwCl (wX9_dampWhy cy aM qM vM vM_st vM_trial vM_r) H → va_D A (wX9_dampWhy cy aM qM vM vM_st vM_trial vM_r) → va_S A s.heap H locs → lv_has ls 10 [] → fX9_dampWhy_J27 vM vM_trial = some (zr, z_vM, z_vM_trial) → W p l e ({ frames := 3, cells := 0, slots := 0, locals := 71 } : Room) s m ([.ref aM, .int x1, .int x2, .int x3, .int x4, .int x5] : List Value).toArray below meth c H locs 0 0 Q (F0 m 27 ls []) := by
    intro  H locs ls hP hD hS hl hok
    unfold fX9_dampWhy_J27 at hok
    refine lv_iconst (v := 2) hx hb dX9_dampWhy_27 (by decide) ?_
    cases hok
    subst hQe; exact W.iret hx hb hr (fun t ht hW => ⟨⟨_, (), rfl, rfl, by rw [ht]; exact hP, va_K.moved hW.alike hK, hD⟩, hS.F ht⟩) hS.2.2 dX9_dampWhy_28
  unfold fX9_dampWhy at hok
  obtain ⟨H, hH⟩ : ∃ H, H = s.heap := ⟨_, rfl⟩
  obtain ⟨locs, hlc⟩ : ∃ x : List Loc, x = [] := ⟨_, rfl⟩
  have hP : va_P D vwCl (wX9_dampWhy cy aM qM vM vM_st vM_trial vM_r) H := by rw [hH]; exact hP
  have hS : va_S A s.heap H locs := by rw [hH, hlc]; exact hS
  rw [show W p l e _ s m _ below meth c s.heap [] = W p l e _ s m _ below meth c H locs from by rw [hH, hlc]]
  refine lv_iload_n hx hb dX9_dampWhy_0 rfl (lv_at hl 1 rfl) ?_
  refine lv_if_ne (tgt := 6) hx hb dX9_dampWhy_1 (by decide) (fun c1 => ?_) (fun c1 => ?_)
  · have hok := k_neg c1 hok
    refine lv_iload_n hx hb dX9_dampWhy_6 rfl (lv_at hl 2 rfl) ?_
    refine lv_iconst (v := 0) hx hb dX9_dampWhy_7 (by decide) ?_
    refine lv_ldcw (v := 65536) hx hb hown (ht0 _ wd1011) dX9_dampWhy_8 ?_
    obtain ⟨r11, hc11, hok⟩ := k_bind hok
    refine kCi (wc := (wX9_in cy )) (wc2 := (wX9_in cy )) (wr := [(aM, oX9 vM qM), (qM 17, rI cy 9 vM_st), (qM 22, rI cy 9 vM_trial), (qM 15, rI cy 224 vM_r)]) (ws2 := (wX9_dampWhy cy aM qM vM vM_st vM_trial vM_r)) (kRunS (As := [.int x2, .int 0, .int 65536]) (rest := []) ⟨hx, hb, hml, hown, ht0⟩ (kX9_in l D cy _ x2 (0 : Int32) (65536 : Int32) r11 hc11 _ rfl) (va_cwS 3 ht0 (gS wd787 wd788 wd744 wd789) rfl rfl rfl (by decide +kernel) ⟨Nat.le_of_ble_eq_true rfl, Nat.le_of_ble_eq_true rfl⟩) hK hN hP hD [] rfl (by decide) rfl hl.1 rfl (Nat.le_of_ble_eq_true rfl) dX9_dampWhy_11 ⟨Nat.zero_le _, Nat.zero_le _⟩) hP hD hS hA [] [0, 1, 2, 3] rfl rfl (by decide) (by decide) [0, 1, 2, 3] (by decide) rfl rfl (fun H locs hP hD hS => ?_)
    refine lv_if_eq (tgt := 27) hx hb dX9_dampWhy_14 (by decide) (fun c14 => ?_) (fun c14 => ?_)
    · have hok := k_pos c14 hok
      exact J27  H locs ls hP hD hS (lv_sub hl [] rfl) hok
    · have hok := k_neg c14 hok
      refine lv_iload_n hx hb dX9_dampWhy_17 rfl (lv_at hl 3 rfl) ?_
      refine lv_iconst (v := 0) hx hb dX9_dampWhy_18 (by decide) ?_
      refine lv_bipush (v := 60) hx hb dX9_dampWhy_19 (by decide) ?_
      obtain ⟨r21, hc21, hok⟩ := k_bind hok
      refine kCi (wc := (wX9_in cy )) (wc2 := (wX9_in cy )) (wr := [(aM, oX9 vM qM), (qM 17, rI cy 9 vM_st), (qM 22, rI cy 9 vM_trial), (qM 15, rI cy 224 vM_r)]) (ws2 := (wX9_dampWhy cy aM qM vM vM_st vM_trial vM_r)) (kRunS (As := [.int x3, .int 0, .int 60]) (rest := []) ⟨hx, hb, hml, hown, ht0⟩ (kX9_in l D cy _ x3 (0 : Int32) (60 : Int32) r21 hc21 _ rfl) (va_cwS 3 ht0 (gS wd787 wd788 wd744 wd789) rfl rfl rfl (by decide +kernel) ⟨Nat.le_of_ble_eq_true rfl, Nat.le_of_ble_eq_true rfl⟩) hK hN hP hD [] rfl (by decide) rfl hl.1 rfl (Nat.le_of_ble_eq_true rfl) dX9_dampWhy_21 ⟨Nat.zero_le _, Nat.zero_le _⟩) hP hD hS hA [] [0, 1, 2, 3] rfl rfl (by decide) (by decide) [0, 1, 2, 3] (by decide) rfl rfl (fun H locs hP hD hS => ?_)
      refine lv_if_ne (tgt := 29) hx hb dX9_dampWhy_24 (by decide) (fun c24 => ?_) (fun c24 => ?_)
      · have hok := k_neg c24 hok
        refine lv_aload_n hx hb dX9_dampWhy_29 rfl (lv_at hl 0 rfl) ?_
        obtain ⟨vM_trial_30, hc30, hok⟩ := k_bind hok
        refine kCv (wc := (wX9_begin cy aM qM vM vM_st vM_trial)) (wc2 := (wX9_begin cy aM qM vM vM_st vM_trial_30)) (wr := [(qM 15, rI cy 224 vM_r)]) (ws2 := (wX9_dampWhy cy aM qM vM vM_st vM_trial_30 vM_r)) (kRunV (As := []) (rest := []) ⟨hx, hb, hml, hown, ht0⟩ (kX9_begin l D cy _ aM qM vM vM_st vM_trial vM_trial_30 hc30 _ rfl) (cwV 0 ht0 (gV wd948 wd949 wd950 wd744 wd951) rfl rfl rfl (by decide +kernel) ⟨Nat.le_of_ble_eq_true rfl, Nat.le_of_ble_eq_true rfl⟩) hK hN hP hD [0, 1, 2] rfl (by decide) 0 8 rfl rfl rfl hl.1 rfl (Nat.le_of_ble_eq_true rfl) dX9_dampWhy_30 ⟨Nat.zero_le _, Nat.zero_le _⟩) hP hD hS hA [0, 1, 2] [3] rfl rfl (by decide) (by decide) [1, 2, 3, 0] (by decide) rfl rfl (fun H locs hP hD hS => ?_)
        refine lv_aload_n hx hb dX9_dampWhy_33 rfl (lv_at hl 0 rfl) ?_
        refine lv_iconst (v := 0) hx hb dX9_dampWhy_34 (by decide) ?_
        refine va_put (D := D) (ci := 8) (v := .int 0) (ty := .int) (C := RX9) (T := TX9) (N := 29) hx hb ht0 niX9 tyX9 tyX9_ok nmX9 hown hK hP hD hS 0 rfl rfl 27 (by decide) (ht0 _ wd1013) (fun _ h9 => h9) rfl (by decide +kernel) rfl rfl (Nat.le_of_ble_eq_true rfl) dX9_dampWhy_35 (fun H locs hP hD hS => ?_)
        have hP : va_P D vwCl (wX9_dampWhy cy aM qM (upd vM 27 (0 : Int32)) vM_st vM_trial_30 vM_r) H := hP
        have hD : va_D A (wX9_dampWhy cy aM qM (upd vM 27 (0 : Int32)) vM_st vM_trial_30 vM_r) := hD
        refine lv_aload_n hx hb dX9_dampWhy_38 rfl (lv_at hl 0 rfl) ?_
        refine lv_iconst (v := 0) hx hb dX9_dampWhy_39 (by decide) ?_
        refine va_put (D := D) (ci := 8) (v := .int 0) (ty := .int) (C := RX9) (T := TX9) (N := 29) hx hb ht0 niX9 tyX9 tyX9_ok nmX9 hown hK hP hD hS 0 rfl rfl 28 (by decide) (ht0 _ wd1014) (fun _ h9 => h9) rfl (by decide +kernel) rfl rfl (Nat.le_of_ble_eq_true rfl) dX9_dampWhy_40 (fun H locs hP hD hS => ?_)
        have hP : va_P D vwCl (wX9_dampWhy cy aM qM (upd (upd vM 27 (0 : Int32)) 28 (0 : Int32)) vM_st vM_trial_30 vM_r) H := hP
        have hD : va_D A (wX9_dampWhy cy aM qM (upd (upd vM 27 (0 : Int32)) 28 (0 : Int32)) vM_st vM_trial_30 vM_r) := hD
        refine lv_iload_n hx hb dX9_dampWhy_43 rfl (lv_at hl 2 rfl) ?_
        refine lv_istore (lv' := [(6, .int x2), (0, .ref aM), (1, .int x1), (2, .int x2), (3, .int x3), (4, .int x4), (5, .int x5)]) hx hb dX9_dampWhy_44 hl (by decide) rfl (fun ls hl => ?_)
        refine lv_iconst (v := 1) hx hb dX9_dampWhy_46 (by decide) ?_
        refine lv_istore (lv' := [(7, .int 1), (6, .int x2), (0, .ref aM), (1, .int x1), (2, .int x2), (3, .int x3), (4, .int x4), (5, .int x5)]) hx hb dX9_dampWhy_47 hl (by decide) rfl (fun ls hl => ?_)
        exact L49 5000 x2 (1 : Int32) vM_trial_30 (upd (upd vM 27 (0 : Int32)) 28 (0 : Int32)) H locs ls hP hD hS (lv_sub hl [2, 5, 6, 7, 1, 0] rfl) hok
      · have hok := k_pos c24 hok
        exact J27  H locs ls hP hD hS (lv_sub hl [] rfl) hok
  · have hok := k_pos c1 hok
    refine lv_iconst (v := 1) hx hb dX9_dampWhy_4 (by decide) ?_
    cases hok
    subst hQe; exact W.iret hx hb hr (fun t ht hW => ⟨⟨_, (), rfl, rfl, by rw [ht]; exact hP, va_K.moved hW.alike hK, hD⟩, hS.F ht⟩) hS.2.2 dX9_dampWhy_5
def wsX9_damp : List Cond := .code yX9_damp cX9_damp 5 (some .int) :: W0
abbrev wX9_damp (cy : Nat → ClassId) (aM : Nat) (qM : Nat → Nat) (vM : Nat → Int32) (vM_r : Nat → Int32) (vM_st : Nat → Int32) (vM_trial : Nat → Int32) : va_W := [(aM, oX9 vM qM), (qM 15, rI cy 224 vM_r), (qM 17, rI cy 9 vM_st), (qM 22, rI cy 9 vM_trial)]
set_option maxHeartbeats 4000000 in
set_option maxRecDepth 100000 in
theorem kX9_damp (l : Launch) (D : va_G) (cy : Nat → ClassId) (sz : Nat) (aM : Nat) (qM : Nat → Nat) (vM : Nat → Int32) (vM_r : Nat → Int32) (vM_st : Nat → Int32) (vM_trial : Nat → Int32) (x1 : Int32) (x2 : Int32) (x3 : Int32) (zr : Int32) (z_vM : Nat → Int32) (z_vM_trial : Nat → Int32) (hok : fX9_damp vM vM_r vM_st vM_trial x1 x2 x3 = some (zr, z_vM, z_vM_trial)) (A : Nat → Prop) (hAe : va_A (wX9_damp cy aM qM vM vM_r vM_st vM_trial) sz = A) : Met l yX9_damp wsX9_damp ({ frames := 4, cells := 0, slots := 0, locals := 100 } : Room) (kPre D cy [.ref aM, .int x1, .int x2, .int x3] (wX9_damp cy aM qM vM vM_r vM_st vM_trial) sz) (kQi D cy zr A (wX9_damp cy aM qM z_vM vM_r vM_st z_vM_trial)) 0 0 A := by
  refine Met.ofW (cc := cX9_damp) (maxL := 5) (ret := (some .int)) (by decide) rfl ?_
  intro p e s m args below meth c s₁ B hml hv
  obtain ⟨rfl, hsz, hP, hK, hD0, hN⟩ := hv
  have hx := B.exec
  have hb := B.bytes
  have hr := B.returns
  have ht0 : ∀ w ∈ W0, w.before _ s = true := fun w h => atoms_spec (ws := wsX9_damp) B.pre w (List.mem_cons_of_mem _ h)
  have hown : s.vm.findClass RX9 = some m.cls := findClass_of_methodNamed B.named
  have hlocks := B.notSynchronized
  subst hsz
  have hD : va_D A (wX9_damp cy aM qM vM vM_r vM_st vM_trial) := by rw [← hAe]; exact hD0.self
  have hA : ∀ q : Nat, s.heap.size ≤ q → A q := fun q h => by rw [← hAe]; exact Or.inr h
  have hS : va_S A s.heap s.heap [] := va_S.rf
  have hl := lv_entry ([.ref aM, .int x1, .int x2, .int x3]) (n := 5) (Nat.le_of_ble_eq_true rfl)
  rw [lg_entry_eq]
  generalize (lg_sl ([.ref aM, .int x1, .int x2, .int x3]) ++ List.replicate (5 - (lg_sl ([.ref aM, .int x1, .int x2, .int x3])).length) Slot.unset).toArray = ls at hl ⊢
  have hl : lv_has ls 5 [(0, .ref aM), (1, .int x1), (2, .int x2), (3, .int x3)] := hl
  generalize hQe : MQ below (kQi D cy zr A (wX9_damp cy aM qM z_vM vM_r vM_st z_vM_trial)) ([.ref aM, .int x1, .int x2, .int x3] : List Value).toArray s 0 0 A = Q
  have J42 : ∀ (t0_42 : Int32) (vM_trial_42 : Nat → Int32) (vM_42 : Nat → Int32), ∀ (H : Heap) (locs : List Loc) (ls : Array Slot), va_P D vwCl (wX9_damp cy aM qM vM_42 vM_r vM_st vM_trial_42) H → va_D A (wX9_damp cy aM qM vM_42 vM_r vM_st vM_trial_42) → va_S A s.heap H locs → lv_has ls 5 [] → fX9_damp_J42 t0_42 vM_trial_42 vM_42 = some (zr, z_vM, z_vM_trial) → W p l e ({ frames := 4, cells := 0, slots := 0, locals := 100 } : Room) s m ([.ref aM, .int x1, .int x2, .int x3] : List Value).toArray below meth c H locs 0 0 Q (F0 m 42 ls [.int t0_42]) := by
    intro t0_42 vM_trial_42 vM_42 H locs ls hP hD hS hl hok
    unfold fX9_damp_J42 at hok
    cases hok
    subst hQe; exact W.iret hx hb hr (fun t ht hW => ⟨⟨_, (), rfl, rfl, by rw [ht]; exact hP, va_K.moved hW.alike hK, hD⟩, hS.F ht⟩) hS.2.2 dX9_damp_42
  unfold fX9_damp at hok
  obtain ⟨H, hH⟩ : ∃ H, H = s.heap := ⟨_, rfl⟩
  obtain ⟨locs, hlc⟩ : ∃ x : List Loc, x = [] := ⟨_, rfl⟩
  have hP : va_P D vwCl (wX9_damp cy aM qM vM vM_r vM_st vM_trial) H := by rw [hH]; exact hP
  have hS : va_S A s.heap H locs := by rw [hH, hlc]; exact hS
  rw [show W p l e _ s m _ below meth c s.heap [] = W p l e _ s m _ below meth c H locs from by rw [hH, hlc]]
  refine lv_aload_n hx hb dX9_damp_0 rfl (lv_at hl 0 rfl) ?_
  obtain ⟨vM_1, hc1, hok⟩ := k_bind hok
  refine kCv (wc := (wX9_good cy aM qM vM)) (wc2 := (wX9_good cy aM qM vM_1)) (wr := [(qM 15, rI cy 224 vM_r), (qM 17, rI cy 9 vM_st), (qM 22, rI cy 9 vM_trial)]) (ws2 := (wX9_damp cy aM qM vM_1 vM_r vM_st vM_trial)) (kRunV (As := []) (rest := []) ⟨hx, hb, hml, hown, ht0⟩ (kX9_good l D cy _ aM qM vM vM_1 hc1 _ rfl) (cwV 0 ht0 (gV wd870 wd871 wd872 wd744 wd873) rfl rfl rfl (by decide +kernel) ⟨Nat.le_of_ble_eq_true rfl, Nat.le_of_ble_eq_true rfl⟩) hK hN hP hD [0] rfl (by decide) 0 8 rfl rfl rfl hl.1 rfl (Nat.le_of_ble_eq_true rfl) dX9_damp_1 ⟨Nat.zero_le _, Nat.zero_le _⟩) hP hD hS hA [0] [1, 2, 3] rfl rfl (by decide) (by decide) [3, 0, 1, 2] (by decide) rfl rfl (fun H locs hP hD hS => ?_)
  refine lv_aload_n hx hb dX9_damp_4 rfl (lv_at hl 0 rfl) ?_
  refine lv_aload_n hx hb dX9_damp_5 rfl (lv_at hl 0 rfl) ?_
  refine lv_iload_n hx hb dX9_damp_6 rfl (lv_at hl 1 rfl) ?_
  obtain ⟨r7, hc7, hok⟩ := k_bind hok
  refine kCi (wc := (wX9_isThing cy aM qM vM_1 vM_r)) (wc2 := (wX9_isThing cy aM qM vM_1 vM_r)) (wr := [(qM 17, rI cy 9 vM_st), (qM 22, rI cy 9 vM_trial)]) (ws2 := (wX9_damp cy aM qM vM_1 vM_r vM_st vM_trial)) (kRunV (As := [.int x1]) (rest := [.ref aM]) ⟨hx, hb, hml, hown, ht0⟩ (kX9_isThing l D cy _ aM qM vM_1 vM_r x1 r7 hc7 _ rfl) (cwV 1 ht0 (gV wd925 wd926 wd927 wd744 wd928) rfl rfl rfl (by decide +kernel) ⟨Nat.le_of_ble_eq_true rfl, Nat.le_of_ble_eq_true rfl⟩) hK hN hP hD [0, 1] rfl (by decide) 0 8 rfl rfl rfl hl.1 rfl (Nat.le_of_ble_eq_true rfl) dX9_damp_7 ⟨Nat.zero_le _, Nat.zero_le _⟩) hP hD hS hA [0, 1] [2, 3] rfl rfl (by decide) (by decide) [2, 3, 0, 1] (by decide) rfl rfl (fun H locs hP hD hS => ?_)
  refine lv_iload_n hx hb dX9_damp_10 rfl (lv_at hl 2 rfl) ?_
  refine lv_iload_n hx hb dX9_damp_11 rfl (lv_at hl 3 rfl) ?_
  refine lv_iconst (v := -1) hx hb dX9_damp_12 (by decide) ?_
  refine lv_iconst (v := 0) hx hb dX9_damp_13 (by decide) ?_
  obtain ⟨⟨r14, vM_14, vM_trial_14⟩, hc14, hok⟩ := k_bind hok
  try dsimp only at hok
  refine kCi (wc := (wX9_dampWhy cy aM qM vM_1 vM_st vM_trial vM_r)) (wc2 := (wX9_dampWhy cy aM qM vM_14 vM_st vM_trial_14 vM_r)) (wr := []) (ws2 := (wX9_damp cy aM qM vM_14 vM_r vM_st vM_trial_14)) (kRunV (As := [.int r7, .int x2, .int x3, .int (-1), .int 0]) (rest := []) ⟨hx, hb, hml, hown, ht0⟩ (kX9_dampWhy l D cy _ aM qM vM_1 vM_st vM_trial vM_r r7 x2 x3 (-1 : Int32) (0 : Int32) r14 vM_14 vM_trial_14 hc14 _ rfl) (cwV 5 ht0 (gV wd1015 wd1016 wd1017 wd744 wd1018) rfl rfl rfl (by decide +kernel) ⟨Nat.le_of_ble_eq_true rfl, Nat.le_of_ble_eq_true rfl⟩) hK hN hP hD [0, 2, 3, 1] rfl (by decide) 0 8 rfl rfl rfl hl.1 rfl (Nat.le_of_ble_eq_true rfl) dX9_damp_14 ⟨Nat.zero_le _, Nat.zero_le _⟩) hP hD hS hA [0, 2, 3, 1] [] rfl rfl (by decide) (by decide) [0, 3, 1, 2] (by decide) rfl rfl (fun H locs hP hD hS => ?_)
  refine lv_istore (lv' := [(4, .int r14), (0, .ref aM), (1, .int x1), (2, .int x2), (3, .int x3)]) hx hb dX9_damp_17 hl (by decide) rfl (fun ls hl => ?_)
  refine lv_iload hx hb dX9_damp_19 (lv_at hl 0 rfl) ?_
  refine lv_if_eq (tgt := 33) hx hb dX9_damp_21 (by decide) (fun c21 => ?_) (fun c21 => ?_)
  · have hok := k_pos c21 hok
    refine lv_aload_n hx hb dX9_damp_33 rfl (lv_at hl 1 rfl) ?_
    refine va_get (D := D) (ci := 8) (v := .ref (qM 22)) (C := RX9) (T := TX9) (N := 29) hx hb ht0 niX9 hown hK hP 0 rfl rfl 22 (by decide) (ht0 _ wd921) (fun _ h9 => h9) rfl dX9_damp_34 ?_
    refine lv_iload_n hx hb dX9_damp_37 rfl (lv_at hl 2 rfl) ?_
    obtain ⟨g38, hok⟩ := gd_some hok
    refine va_iald hx hb hK hP 3 0 rfl rfl (okI_in g38) dX9_damp_38 ?_
    obtain ⟨r39, hc39, hok⟩ := k_bind hok
    refine kCi (wc := (wX9_coded cy )) (wc2 := (wX9_coded cy )) (wr := [(aM, oX9 vM_14 qM), (qM 15, rI cy 224 vM_r), (qM 17, rI cy 9 vM_st), (qM 22, rI cy 9 vM_trial_14)]) (ws2 := (wX9_damp cy aM qM vM_14 vM_r vM_st vM_trial_14)) (kRunS (As := [.int (vM_trial_14 x1.toNatClampNeg)]) (rest := []) ⟨hx, hb, hml, hown, ht0⟩ (kX9_coded l D cy _ (vM_trial_14 x1.toNatClampNeg) r39 hc39 _ rfl) (va_cwS 1 ht0 (gS wd937 wd938 wd744 wd939) rfl rfl rfl (by decide +kernel) ⟨Nat.le_of_ble_eq_true rfl, Nat.le_of_ble_eq_true rfl⟩) hK hN hP hD [] rfl (by decide) rfl hl.1 rfl (Nat.le_of_ble_eq_true rfl) dX9_damp_39 ⟨Nat.zero_le _, Nat.zero_le _⟩) hP hD hS hA [] [0, 1, 2, 3] rfl rfl (by decide) (by decide) [0, 1, 2, 3] (by decide) rfl rfl (fun H locs hP hD hS => ?_)
    exact J42 r39 vM_trial_14 vM_14 H locs ls hP hD hS (lv_sub hl [] rfl) hok
  · have hok := k_neg c21 hok
    refine lv_aload_n hx hb dX9_damp_24 rfl (lv_at hl 1 rfl) ?_
    refine lv_iload hx hb dX9_damp_25 (lv_at hl 0 rfl) ?_
    obtain ⟨⟨r27, vM_27⟩, hc27, hok⟩ := k_bind hok
    try dsimp only at hok
    refine kCi (wc := (wX9_no cy aM qM vM_14)) (wc2 := (wX9_no cy aM qM vM_27)) (wr := [(qM 15, rI cy 224 vM_r), (qM 17, rI cy 9 vM_st), (qM 22, rI cy 9 vM_trial_14)]) (ws2 := (wX9_damp cy aM qM vM_27 vM_r vM_st vM_trial_14)) (kRunV (As := [.int r14]) (rest := []) ⟨hx, hb, hml, hown, ht0⟩ (kX9_no l D cy _ aM qM vM_14 r14 r27 vM_27 hc27 _ rfl) (cwV 1 ht0 (gV wd862 wd863 wd864 wd744 wd865) rfl rfl rfl (by decide +kernel) ⟨Nat.le_of_ble_eq_true rfl, Nat.le_of_ble_eq_true rfl⟩) hK hN hP hD [0] rfl (by decide) 0 8 rfl rfl rfl hl.1 rfl (Nat.le_of_ble_eq_true rfl) dX9_damp_27 ⟨Nat.zero_le _, Nat.zero_le _⟩) hP hD hS hA [0] [1, 2, 3] rfl rfl (by decide) (by decide) [3, 0, 1, 2] (by decide) rfl rfl (fun H locs hP hD hS => ?_)
    refine lv_goto (tgt := 42) hx hb dX9_damp_30 (by decide) ?_
    exact J42 r27 vM_trial_14 vM_27 H locs ls hP hD hS (lv_sub hl [] rfl) hok
def wsX9_dampSteps : List Cond := .code yX9_dampSteps cX9_dampSteps 4 (some .int) :: W0
abbrev wX9_dampSteps (cy : Nat → ClassId) (aM : Nat) (qM : Nat → Nat) (vM : Nat → Int32) (vM_st : Nat → Int32) (vM_trial : Nat → Int32) (vM_r : Nat → Int32) : va_W := [(aM, oX9 vM qM), (qM 17, rI cy 9 vM_st), (qM 22, rI cy 9 vM_trial), (qM 15, rI cy 224 vM_r)]
set_option maxHeartbeats 4000000 in
set_option maxRecDepth 100000 in
theorem kX9_dampSteps (l : Launch) (D : va_G) (cy : Nat → ClassId) (sz : Nat) (aM : Nat) (qM : Nat → Nat) (vM : Nat → Int32) (vM_st : Nat → Int32) (vM_trial : Nat → Int32) (vM_r : Nat → Int32) (x1 : Int32) (x2 : Int32) (zr : Int32) (z_vM : Nat → Int32) (z_vM_trial : Nat → Int32) (hok : fX9_dampSteps vM vM_st vM_trial vM_r x1 x2 = some (zr, z_vM, z_vM_trial)) (A : Nat → Prop) (hAe : va_A (wX9_dampSteps cy aM qM vM vM_st vM_trial vM_r) sz = A) : Met l yX9_dampSteps wsX9_dampSteps ({ frames := 4, cells := 0, slots := 0, locals := 100 } : Room) (kPre D cy [.ref aM, .int x1, .int x2] (wX9_dampSteps cy aM qM vM vM_st vM_trial vM_r) sz) (kQi D cy zr A (wX9_dampSteps cy aM qM z_vM vM_st z_vM_trial vM_r)) 0 0 A := by
  refine Met.ofW (cc := cX9_dampSteps) (maxL := 4) (ret := (some .int)) (by decide) rfl ?_
  intro p e s m args below meth c s₁ B hml hv
  obtain ⟨rfl, hsz, hP, hK, hD0, hN⟩ := hv
  have hx := B.exec
  have hb := B.bytes
  have hr := B.returns
  have ht0 : ∀ w ∈ W0, w.before _ s = true := fun w h => atoms_spec (ws := wsX9_dampSteps) B.pre w (List.mem_cons_of_mem _ h)
  have hown : s.vm.findClass RX9 = some m.cls := findClass_of_methodNamed B.named
  have hlocks := B.notSynchronized
  subst hsz
  have hD : va_D A (wX9_dampSteps cy aM qM vM vM_st vM_trial vM_r) := by rw [← hAe]; exact hD0.self
  have hA : ∀ q : Nat, s.heap.size ≤ q → A q := fun q h => by rw [← hAe]; exact Or.inr h
  have hS : va_S A s.heap s.heap [] := va_S.rf
  have hl := lv_entry ([.ref aM, .int x1, .int x2]) (n := 4) (Nat.le_of_ble_eq_true rfl)
  rw [lg_entry_eq]
  generalize (lg_sl ([.ref aM, .int x1, .int x2]) ++ List.replicate (4 - (lg_sl ([.ref aM, .int x1, .int x2])).length) Slot.unset).toArray = ls at hl ⊢
  have hl : lv_has ls 4 [(0, .ref aM), (1, .int x1), (2, .int x2)] := hl
  generalize hQe : MQ below (kQi D cy zr A (wX9_dampSteps cy aM qM z_vM vM_st z_vM_trial vM_r)) ([.ref aM, .int x1, .int x2] : List Value).toArray s 0 0 A = Q
  have J33 : ∀ (t0_33 : Int32) (vM_trial_33 : Nat → Int32) (vM_33 : Nat → Int32), ∀ (H : Heap) (locs : List Loc) (ls : Array Slot), va_P D vwCl (wX9_dampSteps cy aM qM vM_33 vM_st vM_trial_33 vM_r) H → va_D A (wX9_dampSteps cy aM qM vM_33 vM_st vM_trial_33 vM_r) → va_S A s.heap H locs → lv_has ls 4 [] → fX9_dampSteps_J33 t0_33 vM_trial_33 vM_33 = some (zr, z_vM, z_vM_trial) → W p l e ({ frames := 4, cells := 0, slots := 0, locals := 100 } : Room) s m ([.ref aM, .int x1, .int x2] : List Value).toArray below meth c H locs 0 0 Q (F0 m 33 ls [.int t0_33]) := by
    intro t0_33 vM_trial_33 vM_33 H locs ls hP hD hS hl hok
    unfold fX9_dampSteps_J33 at hok
    cases hok
    subst hQe; exact W.iret hx hb hr (fun t ht hW => ⟨⟨_, (), rfl, rfl, by rw [ht]; exact hP, va_K.moved hW.alike hK, hD⟩, hS.F ht⟩) hS.2.2 dX9_dampSteps_33
  unfold fX9_dampSteps at hok
  obtain ⟨H, hH⟩ : ∃ H, H = s.heap := ⟨_, rfl⟩
  obtain ⟨locs, hlc⟩ : ∃ x : List Loc, x = [] := ⟨_, rfl⟩
  have hP : va_P D vwCl (wX9_dampSteps cy aM qM vM vM_st vM_trial vM_r) H := by rw [hH]; exact hP
  have hS : va_S A s.heap H locs := by rw [hH, hlc]; exact hS
  rw [show W p l e _ s m _ below meth c s.heap [] = W p l e _ s m _ below meth c H locs from by rw [hH, hlc]]
  refine lv_aload_n hx hb dX9_dampSteps_0 rfl (lv_at hl 0 rfl) ?_
  obtain ⟨vM_1, hc1, hok⟩ := k_bind hok
  refine kCv (wc := (wX9_good cy aM qM vM)) (wc2 := (wX9_good cy aM qM vM_1)) (wr := [(qM 17, rI cy 9 vM_st), (qM 22, rI cy 9 vM_trial), (qM 15, rI cy 224 vM_r)]) (ws2 := (wX9_dampSteps cy aM qM vM_1 vM_st vM_trial vM_r)) (kRunV (As := []) (rest := []) ⟨hx, hb, hml, hown, ht0⟩ (kX9_good l D cy _ aM qM vM vM_1 hc1 _ rfl) (cwV 0 ht0 (gV wd870 wd871 wd872 wd744 wd873) rfl rfl rfl (by decide +kernel) ⟨Nat.le_of_ble_eq_true rfl, Nat.le_of_ble_eq_true rfl⟩) hK hN hP hD [0] rfl (by decide) 0 8 rfl rfl rfl hl.1 rfl (Nat.le_of_ble_eq_true rfl) dX9_dampSteps_1 ⟨Nat.zero_le _, Nat.zero_le _⟩) hP hD hS hA [0] [1, 2, 3] rfl rfl (by decide) (by decide) [3, 0, 1, 2] (by decide) rfl rfl (fun H locs hP hD hS => ?_)
  refine lv_aload_n hx hb dX9_dampSteps_4 rfl (lv_at hl 0 rfl) ?_
  refine lv_aload_n hx hb dX9_dampSteps_5 rfl (lv_at hl 0 rfl) ?_
  refine va_get (D := D) (ci := 8) (v := .int (vM_1 14)) (C := RX9) (T := TX9) (N := 29) hx hb ht0 niX9 hown hK hP 0 rfl rfl 14 (by decide) (ht0 _ wd855) (fun _ h9 => h9) rfl dX9_dampSteps_6 ?_
  refine lv_iload_n hx hb dX9_dampSteps_9 rfl (lv_at hl 1 rfl) ?_
  refine lv_iload_n hx hb dX9_dampSteps_10 rfl (lv_at hl 2 rfl) ?_
  refine lv_iconst (v := -1) hx hb dX9_dampSteps_11 (by decide) ?_
  refine lv_iconst (v := 0) hx hb dX9_dampSteps_12 (by decide) ?_
  obtain ⟨⟨r13, vM_13, vM_trial_13⟩, hc13, hok⟩ := k_bind hok
  try dsimp only at hok
  refine kCi (wc := (wX9_dampWhy cy aM qM vM_1 vM_st vM_trial vM_r)) (wc2 := (wX9_dampWhy cy aM qM vM_13 vM_st vM_trial_13 vM_r)) (wr := []) (ws2 := (wX9_dampSteps cy aM qM vM_13 vM_st vM_trial_13 vM_r)) (kRunV (As := [.int (vM_1 14), .int x1, .int x2, .int (-1), .int 0]) (rest := []) ⟨hx, hb, hml, hown, ht0⟩ (kX9_dampWhy l D cy _ aM qM vM_1 vM_st vM_trial vM_r (vM_1 14) x1 x2 (-1 : Int32) (0 : Int32) r13 vM_13 vM_trial_13 hc13 _ rfl) (cwV 5 ht0 (gV wd1015 wd1016 wd1017 wd744 wd1018) rfl rfl rfl (by decide +kernel) ⟨Nat.le_of_ble_eq_true rfl, Nat.le_of_ble_eq_true rfl⟩) hK hN hP hD [0, 1, 2, 3] rfl (by decide) 0 8 rfl rfl rfl hl.1 rfl (Nat.le_of_ble_eq_true rfl) dX9_dampSteps_13 ⟨Nat.zero_le _, Nat.zero_le _⟩) hP hD hS hA [0, 1, 2, 3] [] rfl rfl (by decide) (by decide) [0, 1, 2, 3] (by decide) rfl rfl (fun H locs hP hD hS => ?_)
  refine lv_istore_n (lv' := [(3, .int r13), (0, .ref aM), (1, .int x1), (2, .int x2)]) hx hb dX9_dampSteps_16 rfl hl (by decide) rfl (fun ls hl => ?_)
  refine lv_iload_n hx hb dX9_dampSteps_17 rfl (lv_at hl 0 rfl) ?_
  refine lv_if_eq (tgt := 29) hx hb dX9_dampSteps_18 (by decide) (fun c18 => ?_) (fun c18 => ?_)
  · have hok := k_pos c18 hok
    refine lv_aload_n hx hb dX9_dampSteps_29 rfl (lv_at hl 1 rfl) ?_
    refine va_get (D := D) (ci := 8) (v := .int (vM_13 27)) (C := RX9) (T := TX9) (N := 29) hx hb ht0 niX9 hown hK hP 0 rfl rfl 27 (by decide) (ht0 _ wd1013) (fun _ h9 => h9) rfl dX9_dampSteps_30 ?_
    exact J33 (vM_13 27) vM_trial_13 vM_13 H locs ls hP hD hS (lv_sub hl [] rfl) hok
  · have hok := k_neg c18 hok
    refine lv_aload_n hx hb dX9_dampSteps_21 rfl (lv_at hl 1 rfl) ?_
    refine lv_iload_n hx hb dX9_dampSteps_22 rfl (lv_at hl 0 rfl) ?_
    obtain ⟨⟨r23, vM_23⟩, hc23, hok⟩ := k_bind hok
    try dsimp only at hok
    refine kCi (wc := (wX9_no cy aM qM vM_13)) (wc2 := (wX9_no cy aM qM vM_23)) (wr := [(qM 17, rI cy 9 vM_st), (qM 22, rI cy 9 vM_trial_13), (qM 15, rI cy 224 vM_r)]) (ws2 := (wX9_dampSteps cy aM qM vM_23 vM_st vM_trial_13 vM_r)) (kRunV (As := [.int r13]) (rest := []) ⟨hx, hb, hml, hown, ht0⟩ (kX9_no l D cy _ aM qM vM_13 r13 r23 vM_23 hc23 _ rfl) (cwV 1 ht0 (gV wd862 wd863 wd864 wd744 wd865) rfl rfl rfl (by decide +kernel) ⟨Nat.le_of_ble_eq_true rfl, Nat.le_of_ble_eq_true rfl⟩) hK hN hP hD [0] rfl (by decide) 0 8 rfl rfl rfl hl.1 rfl (Nat.le_of_ble_eq_true rfl) dX9_dampSteps_23 ⟨Nat.zero_le _, Nat.zero_le _⟩) hP hD hS hA [0] [1, 2, 3] rfl rfl (by decide) (by decide) [3, 0, 1, 2] (by decide) rfl rfl (fun H locs hP hD hS => ?_)
    refine lv_goto (tgt := 33) hx hb dX9_dampSteps_26 (by decide) ?_
    exact J33 r23 vM_trial_13 vM_23 H locs ls hP hD hS (lv_sub hl [] rfl) hok
def wsX9_dampWhen : List Cond := .code yX9_dampWhen cX9_dampWhen 6 (some .int) :: W0
abbrev wX9_dampWhen (cy : Nat → ClassId) (aM : Nat) (qM : Nat → Nat) (vM : Nat → Int32) (vM_r : Nat → Int32) (vM_st : Nat → Int32) (vM_trial : Nat → Int32) : va_W := [(aM, oX9 vM qM), (qM 15, rI cy 224 vM_r), (qM 17, rI cy 9 vM_st), (qM 22, rI cy 9 vM_trial)]
set_option maxHeartbeats 4000000 in
set_option maxRecDepth 100000 in
theorem kX9_dampWhen (l : Launch) (D : va_G) (cy : Nat → ClassId) (sz : Nat) (aM : Nat) (qM : Nat → Nat) (vM : Nat → Int32) (vM_r : Nat → Int32) (vM_st : Nat → Int32) (vM_trial : Nat → Int32) (x1 : Int32) (x2 : Int32) (x3 : Int32) (x4 : Int32) (zr : Int32) (z_vM : Nat → Int32) (z_vM_trial : Nat → Int32) (hok : fX9_dampWhen vM vM_r vM_st vM_trial x1 x2 x3 x4 = some (zr, z_vM, z_vM_trial)) (A : Nat → Prop) (hAe : va_A (wX9_dampWhen cy aM qM vM vM_r vM_st vM_trial) sz = A) : Met l yX9_dampWhen wsX9_dampWhen ({ frames := 4, cells := 0, slots := 0, locals := 100 } : Room) (kPre D cy [.ref aM, .int x1, .int x2, .int x3, .int x4] (wX9_dampWhen cy aM qM vM vM_r vM_st vM_trial) sz) (kQi D cy zr A (wX9_dampWhen cy aM qM z_vM vM_r vM_st z_vM_trial)) 0 0 A := by
  refine Met.ofW (cc := cX9_dampWhen) (maxL := 6) (ret := (some .int)) (by decide) rfl ?_
  intro p e s m args below meth c s₁ B hml hv
  obtain ⟨rfl, hsz, hP, hK, hD0, hN⟩ := hv
  have hx := B.exec
  have hb := B.bytes
  have hr := B.returns
  have ht0 : ∀ w ∈ W0, w.before _ s = true := fun w h => atoms_spec (ws := wsX9_dampWhen) B.pre w (List.mem_cons_of_mem _ h)
  have hown : s.vm.findClass RX9 = some m.cls := findClass_of_methodNamed B.named
  have hlocks := B.notSynchronized
  subst hsz
  have hD : va_D A (wX9_dampWhen cy aM qM vM vM_r vM_st vM_trial) := by rw [← hAe]; exact hD0.self
  have hA : ∀ q : Nat, s.heap.size ≤ q → A q := fun q h => by rw [← hAe]; exact Or.inr h
  have hS : va_S A s.heap s.heap [] := va_S.rf
  have hl := lv_entry ([.ref aM, .int x1, .int x2, .int x3, .int x4]) (n := 6) (Nat.le_of_ble_eq_true rfl)
  rw [lg_entry_eq]
  generalize (lg_sl ([.ref aM, .int x1, .int x2, .int x3, .int x4]) ++ List.replicate (6 - (lg_sl ([.ref aM, .int x1, .int x2, .int x3, .int x4])).length) Slot.unset).toArray = ls at hl ⊢
  have hl : lv_has ls 6 [(0, .ref aM), (1, .int x1), (2, .int x2), (3, .int x3), (4, .int x4)] := hl
  generalize hQe : MQ below (kQi D cy zr A (wX9_dampWhen cy aM qM z_vM vM_r vM_st z_vM_trial)) ([.ref aM, .int x1, .int x2, .int x3, .int x4] : List Value).toArray s 0 0 A = Q
  have J78 : ∀ (t0_78 : Int32) (vM_trial_78 : Nat → Int32) (vM_78 : Nat → Int32), ∀ (H : Heap) (locs : List Loc) (ls : Array Slot), va_P D vwCl (wX9_dampWhen cy aM qM vM_78 vM_r vM_st vM_trial_78) H → va_D A (wX9_dampWhen cy aM qM vM_78 vM_r vM_st vM_trial_78) → va_S A s.heap H locs → lv_has ls 6 [] → fX9_dampWhen_J78 t0_78 vM_trial_78 vM_78 = some (zr, z_vM, z_vM_trial) → W p l e ({ frames := 4, cells := 0, slots := 0, locals := 100 } : Room) s m ([.ref aM, .int x1, .int x2, .int x3, .int x4] : List Value).toArray below meth c H locs 0 0 Q (F0 m 78 ls [.int t0_78]) := by
    intro t0_78 vM_trial_78 vM_78 H locs ls hP hD hS hl hok
    unfold fX9_dampWhen_J78 at hok
    cases hok
    subst hQe; exact W.iret hx hb hr (fun t ht hW => ⟨⟨_, (), rfl, rfl, by rw [ht]; exact hP, va_K.moved hW.alike hK, hD⟩, hS.F ht⟩) hS.2.2 dX9_dampWhen_78
  have J29 : ∀ (vM_29 : Nat → Int32), ∀ (H : Heap) (locs : List Loc) (ls : Array Slot), va_P D vwCl (wX9_dampWhen cy aM qM vM_29 vM_r vM_st vM_trial) H → va_D A (wX9_dampWhen cy aM qM vM_29 vM_r vM_st vM_trial) → va_S A s.heap H locs → lv_has ls 6 [(0, .ref aM)] → fX9_dampWhen_J29 vM_trial vM_29 = some (zr, z_vM, z_vM_trial) → W p l e ({ frames := 4, cells := 0, slots := 0, locals := 100 } : Room) s m ([.ref aM, .int x1, .int x2, .int x3, .int x4] : List Value).toArray below meth c H locs 0 0 Q (F0 m 29 ls []) := by
    intro vM_29 H locs ls hP hD hS hl hok
    unfold fX9_dampWhen_J29 at hok
    refine lv_aload_n hx hb dX9_dampWhen_29 rfl (lv_at hl 0 rfl) ?_
    refine lv_iconst (v := 1) hx hb dX9_dampWhen_30 (by decide) ?_
    obtain ⟨⟨r31, vM_31⟩, hc31, hok⟩ := k_bind hok
    try dsimp only at hok
    refine kCi (wc := (wX9_no cy aM qM vM_29)) (wc2 := (wX9_no cy aM qM vM_31)) (wr := [(qM 15, rI cy 224 vM_r), (qM 17, rI cy 9 vM_st), (qM 22, rI cy 9 vM_trial)]) (ws2 := (wX9_dampWhen cy aM qM vM_31 vM_r vM_st vM_trial)) (kRunV (As := [.int 1]) (rest := []) ⟨hx, hb, hml, hown, ht0⟩ (kX9_no l D cy _ aM qM vM_29 (1 : Int32) r31 vM_31 hc31 _ rfl) (cwV 1 ht0 (gV wd862 wd863 wd864 wd744 wd865) rfl rfl rfl (by decide +kernel) ⟨Nat.le_of_ble_eq_true rfl, Nat.le_of_ble_eq_true rfl⟩) hK hN hP hD [0] rfl (by decide) 0 8 rfl rfl rfl hl.1 rfl (Nat.le_of_ble_eq_true rfl) dX9_dampWhen_31 ⟨Nat.zero_le _, Nat.zero_le _⟩) hP hD hS hA [0] [1, 2, 3] rfl rfl (by decide) (by decide) [3, 0, 1, 2] (by decide) rfl rfl (fun H locs hP hD hS => ?_)
    cases hok
    subst hQe; exact W.iret hx hb hr (fun t ht hW => ⟨⟨_, (), rfl, rfl, by rw [ht]; exact hP, va_K.moved hW.alike hK, hD⟩, hS.F ht⟩) hS.2.2 dX9_dampWhen_34
  unfold fX9_dampWhen at hok
  obtain ⟨H, hH⟩ : ∃ H, H = s.heap := ⟨_, rfl⟩
  obtain ⟨locs, hlc⟩ : ∃ x : List Loc, x = [] := ⟨_, rfl⟩
  have hP : va_P D vwCl (wX9_dampWhen cy aM qM vM vM_r vM_st vM_trial) H := by rw [hH]; exact hP
  have hS : va_S A s.heap H locs := by rw [hH, hlc]; exact hS
  rw [show W p l e _ s m _ below meth c s.heap [] = W p l e _ s m _ below meth c H locs from by rw [hH, hlc]]
  refine lv_aload_n hx hb dX9_dampWhen_0 rfl (lv_at hl 0 rfl) ?_
  obtain ⟨vM_1, hc1, hok⟩ := k_bind hok
  refine kCv (wc := (wX9_good cy aM qM vM)) (wc2 := (wX9_good cy aM qM vM_1)) (wr := [(qM 15, rI cy 224 vM_r), (qM 17, rI cy 9 vM_st), (qM 22, rI cy 9 vM_trial)]) (ws2 := (wX9_dampWhen cy aM qM vM_1 vM_r vM_st vM_trial)) (kRunV (As := []) (rest := []) ⟨hx, hb, hml, hown, ht0⟩ (kX9_good l D cy _ aM qM vM vM_1 hc1 _ rfl) (cwV 0 ht0 (gV wd870 wd871 wd872 wd744 wd873) rfl rfl rfl (by decide +kernel) ⟨Nat.le_of_ble_eq_true rfl, Nat.le_of_ble_eq_true rfl⟩) hK hN hP hD [0] rfl (by decide) 0 8 rfl rfl rfl hl.1 rfl (Nat.le_of_ble_eq_true rfl) dX9_dampWhen_1 ⟨Nat.zero_le _, Nat.zero_le _⟩) hP hD hS hA [0] [1, 2, 3] rfl rfl (by decide) (by decide) [3, 0, 1, 2] (by decide) rfl rfl (fun H locs hP hD hS => ?_)
  refine lv_aload_n hx hb dX9_dampWhen_4 rfl (lv_at hl 0 rfl) ?_
  refine lv_iload_n hx hb dX9_dampWhen_5 rfl (lv_at hl 1 rfl) ?_
  obtain ⟨r6, hc6, hok⟩ := k_bind hok
  refine kCi (wc := (wX9_isThing cy aM qM vM_1 vM_r)) (wc2 := (wX9_isThing cy aM qM vM_1 vM_r)) (wr := [(qM 17, rI cy 9 vM_st), (qM 22, rI cy 9 vM_trial)]) (ws2 := (wX9_dampWhen cy aM qM vM_1 vM_r vM_st vM_trial)) (kRunV (As := [.int x1]) (rest := []) ⟨hx, hb, hml, hown, ht0⟩ (kX9_isThing l D cy _ aM qM vM_1 vM_r x1 r6 hc6 _ rfl) (cwV 1 ht0 (gV wd925 wd926 wd927 wd744 wd928) rfl rfl rfl (by decide +kernel) ⟨Nat.le_of_ble_eq_true rfl, Nat.le_of_ble_eq_true rfl⟩) hK hN hP hD [0, 1] rfl (by decide) 0 8 rfl rfl rfl hl.1 rfl (Nat.le_of_ble_eq_true rfl) dX9_dampWhen_6 ⟨Nat.zero_le _, Nat.zero_le _⟩) hP hD hS hA [0, 1] [2, 3] rfl rfl (by decide) (by decide) [2, 3, 0, 1] (by decide) rfl rfl (fun H locs hP hD hS => ?_)
  refine lv_if_eq (tgt := 29) hx hb dX9_dampWhen_9 (by decide) (fun c9 => ?_) (fun c9 => ?_)
  · have hok := k_pos c9 hok
    exact J29 vM_1 H locs ls hP hD hS (lv_sub hl [0] rfl) hok
  · have hok := k_neg c9 hok
    refine lv_aload_n hx hb dX9_dampWhen_12 rfl (lv_at hl 0 rfl) ?_
    refine lv_aload_n hx hb dX9_dampWhen_13 rfl (lv_at hl 0 rfl) ?_
    refine va_get (D := D) (ci := 8) (v := .ref (qM 17)) (C := RX9) (T := TX9) (N := 29) hx hb ht0 niX9 hown hK hP 0 rfl rfl 17 (by decide) (ht0 _ wd858) (fun _ h9 => h9) rfl dX9_dampWhen_14 ?_
    refine lv_iload_n hx hb dX9_dampWhen_17 rfl (lv_at hl 1 rfl) ?_
    obtain ⟨g18, hok⟩ := gd_some hok
    refine va_iald hx hb hK hP 2 0 rfl rfl (okI_in g18) dX9_dampWhen_18 ?_
    refine lv_bipush (v := 9) hx hb dX9_dampWhen_19 (by decide) ?_
    refine lv_idiv hx hb dX9_dampWhen_21 (by decide) ?_
    refine lv_iload_n hx hb dX9_dampWhen_22 rfl (lv_at hl 2 rfl) ?_
    obtain ⟨r23, hc23, hok⟩ := k_bind hok
    refine kCi (wc := (wX9_isPlace cy aM qM vM_1 vM_r)) (wc2 := (wX9_isPlace cy aM qM vM_1 vM_r)) (wr := [(qM 17, rI cy 9 vM_st), (qM 22, rI cy 9 vM_trial)]) (ws2 := (wX9_dampWhen cy aM qM vM_1 vM_r vM_st vM_trial)) (kRunV (As := [.int ((vM_st x1.toNatClampNeg) / (9 : Int32)), .int x2]) (rest := []) ⟨hx, hb, hml, hown, ht0⟩ (kX9_isPlace l D cy _ aM qM vM_1 vM_r ((vM_st x1.toNatClampNeg) / (9 : Int32)) x2 r23 hc23 _ rfl) (cwV 2 ht0 (gV wd929 wd930 wd931 wd744 wd932) rfl rfl rfl (by decide +kernel) ⟨Nat.le_of_ble_eq_true rfl, Nat.le_of_ble_eq_true rfl⟩) hK hN hP hD [0, 1] rfl (by decide) 0 8 rfl rfl rfl hl.1 rfl (Nat.le_of_ble_eq_true rfl) dX9_dampWhen_23 ⟨Nat.zero_le _, Nat.zero_le _⟩) hP hD hS hA [0, 1] [2, 3] rfl rfl (by decide) (by decide) [2, 3, 0, 1] (by decide) rfl rfl (fun H locs hP hD hS => ?_)
    refine lv_if_ne (tgt := 35) hx hb dX9_dampWhen_26 (by decide) (fun c26 => ?_) (fun c26 => ?_)
    · have hok := k_neg c26 hok
      refine lv_aload_n hx hb dX9_dampWhen_35 rfl (lv_at hl 0 rfl) ?_
      refine lv_iconst (v := 1) hx hb dX9_dampWhen_36 (by decide) ?_
      refine lv_iload_n hx hb dX9_dampWhen_37 rfl (lv_at hl 3 rfl) ?_
      refine lv_iload hx hb dX9_dampWhen_38 (lv_at hl 4 rfl) ?_
      refine lv_iload_n hx hb dX9_dampWhen_40 rfl (lv_at hl 1 rfl) ?_
      refine lv_bipush (v := 9) hx hb dX9_dampWhen_41 (by decide) ?_
      refine lv_aload_n hx hb dX9_dampWhen_43 rfl (lv_at hl 0 rfl) ?_
      refine va_get (D := D) (ci := 8) (v := .ref (qM 17)) (C := RX9) (T := TX9) (N := 29) hx hb ht0 niX9 hown hK hP 0 rfl rfl 17 (by decide) (ht0 _ wd858) (fun _ h9 => h9) rfl dX9_dampWhen_44 ?_
      refine lv_iload_n hx hb dX9_dampWhen_47 rfl (lv_at hl 1 rfl) ?_
      obtain ⟨g48, hok⟩ := gd_some hok
      refine va_iald hx hb hK hP 2 0 rfl rfl (okI_in g48) dX9_dampWhen_48 ?_
      refine lv_bipush (v := 9) hx hb dX9_dampWhen_49 (by decide) ?_
      refine lv_idiv hx hb dX9_dampWhen_51 (by decide) ?_
      refine lv_imul hx hb dX9_dampWhen_52 ?_
      refine lv_iload_n hx hb dX9_dampWhen_53 rfl (lv_at hl 2 rfl) ?_
      refine lv_iadd hx hb dX9_dampWhen_54 ?_
      obtain ⟨⟨r55, vM_55, vM_trial_55⟩, hc55, hok⟩ := k_bind hok
      try dsimp only at hok
      refine kCi (wc := (wX9_dampWhy cy aM qM vM_1 vM_st vM_trial vM_r)) (wc2 := (wX9_dampWhy cy aM qM vM_55 vM_st vM_trial_55 vM_r)) (wr := []) (ws2 := (wX9_dampWhen cy aM qM vM_55 vM_r vM_st vM_trial_55)) (kRunV (As := [.int 1, .int x3, .int x4, .int x1, .int (((9 : Int32) * ((vM_st x1.toNatClampNeg) / (9 : Int32))) + x2)]) (rest := []) ⟨hx, hb, hml, hown, ht0⟩ (kX9_dampWhy l D cy _ aM qM vM_1 vM_st vM_trial vM_r (1 : Int32) x3 x4 x1 (((9 : Int32) * ((vM_st x1.toNatClampNeg) / (9 : Int32))) + x2) r55 vM_55 vM_trial_55 hc55 _ rfl) (cwV 5 ht0 (gV wd1015 wd1016 wd1017 wd744 wd1018) rfl rfl rfl (by decide +kernel) ⟨Nat.le_of_ble_eq_true rfl, Nat.le_of_ble_eq_true rfl⟩) hK hN hP hD [0, 2, 3, 1] rfl (by decide) 0 8 rfl rfl rfl hl.1 rfl (Nat.le_of_ble_eq_true rfl) dX9_dampWhen_55 ⟨Nat.zero_le _, Nat.zero_le _⟩) hP hD hS hA [0, 2, 3, 1] [] rfl rfl (by decide) (by decide) [0, 3, 1, 2] (by decide) rfl rfl (fun H locs hP hD hS => ?_)
      refine lv_istore (lv' := [(5, .int r55), (0, .ref aM), (1, .int x1), (2, .int x2), (3, .int x3), (4, .int x4)]) hx hb dX9_dampWhen_58 hl (by decide) rfl (fun ls hl => ?_)
      refine lv_iload hx hb dX9_dampWhen_60 (lv_at hl 0 rfl) ?_
      refine lv_if_eq (tgt := 74) hx hb dX9_dampWhen_62 (by decide) (fun c62 => ?_) (fun c62 => ?_)
      · have hok := k_pos c62 hok
        refine lv_aload_n hx hb dX9_dampWhen_74 rfl (lv_at hl 1 rfl) ?_
        refine va_get (D := D) (ci := 8) (v := .int (vM_55 28)) (C := RX9) (T := TX9) (N := 29) hx hb ht0 niX9 hown hK hP 0 rfl rfl 28 (by decide) (ht0 _ wd1014) (fun _ h9 => h9) rfl dX9_dampWhen_75 ?_
        exact J78 (vM_55 28) vM_trial_55 vM_55 H locs ls hP hD hS (lv_sub hl [] rfl) hok
      · have hok := k_neg c62 hok
        refine lv_aload_n hx hb dX9_dampWhen_65 rfl (lv_at hl 1 rfl) ?_
        refine lv_iload hx hb dX9_dampWhen_66 (lv_at hl 0 rfl) ?_
        obtain ⟨⟨r68, vM_68⟩, hc68, hok⟩ := k_bind hok
        try dsimp only at hok
        refine kCi (wc := (wX9_no cy aM qM vM_55)) (wc2 := (wX9_no cy aM qM vM_68)) (wr := [(qM 15, rI cy 224 vM_r), (qM 17, rI cy 9 vM_st), (qM 22, rI cy 9 vM_trial_55)]) (ws2 := (wX9_dampWhen cy aM qM vM_68 vM_r vM_st vM_trial_55)) (kRunV (As := [.int r55]) (rest := []) ⟨hx, hb, hml, hown, ht0⟩ (kX9_no l D cy _ aM qM vM_55 r55 r68 vM_68 hc68 _ rfl) (cwV 1 ht0 (gV wd862 wd863 wd864 wd744 wd865) rfl rfl rfl (by decide +kernel) ⟨Nat.le_of_ble_eq_true rfl, Nat.le_of_ble_eq_true rfl⟩) hK hN hP hD [0] rfl (by decide) 0 8 rfl rfl rfl hl.1 rfl (Nat.le_of_ble_eq_true rfl) dX9_dampWhen_68 ⟨Nat.zero_le _, Nat.zero_le _⟩) hP hD hS hA [0] [1, 2, 3] rfl rfl (by decide) (by decide) [3, 0, 1, 2] (by decide) rfl rfl (fun H locs hP hD hS => ?_)
        refine lv_goto (tgt := 78) hx hb dX9_dampWhen_71 (by decide) ?_
        exact J78 r68 vM_trial_55 vM_68 H locs ls hP hD hS (lv_sub hl [] rfl) hok
    · have hok := k_pos c26 hok
      exact J29 vM_1 H locs ls hP hD hS (lv_sub hl [0] rfl) hok
