def wsX9_doorLine : List Cond := .code yX9_doorLine cX9_doorLine 10 none :: W0
abbrev wX9_doorLine (cy : Nat → ClassId) (aM : Nat) (qM : Nat → Nat) (vM : Nat → Int32) (vM_fresh : Nat → Int32) (vM_letters : Nat → Int32) (vM_tape : Nat → Int32) : va_W := [(aM, oX9 vM qM), (qM 16, rI cy 224 vM_fresh), (qM 12, rI cy 8 vM_letters), (qM 1, rI cy 900 vM_tape)]
set_option maxHeartbeats 4000000 in
set_option maxRecDepth 100000 in
theorem kX9_doorLine (l : Launch) (D : va_G) (cy : Nat → ClassId) (ad : (Nat → Nat) × (Nat → Nat)) (sz : Nat) (aM : Nat) (qM : Nat → Nat) (vM : Nat → Int32) (vM_fresh : Nat → Int32) (vM_letters : Nat → Int32) (vM_tape : Nat → Int32) (z_vM : Nat → Int32) (z_vM_fresh : Nat → Int32) (z_vM_letters : Nat → Int32) (hok : fX9_doorLine vM vM_fresh vM_letters vM_tape = some (z_vM, z_vM_fresh, z_vM_letters)) (A : Nat → Prop) (hAe : va_A (wX9_doorLine cy aM qM vM vM_fresh vM_letters vM_tape) sz = A) : Met l yX9_doorLine wsX9_doorLine ({ frames := 8, cells := 0, slots := 0, locals := 171 } : Room) (kPreS D cy ad [.ref aM] (wX9_doorLine cy aM qM vM vM_fresh vM_letters vM_tape) sz A) (kQv D cy A (wX9_doorLine cy aM qM z_vM z_vM_fresh z_vM_letters vM_tape)) 0 0 A := by
  refine Met.ofW (cc := cX9_doorLine) (maxL := 10) (ret := none) (by decide) rfl ?_
  intro p e s m args below meth c s₁ B hml hv
  obtain ⟨rfl, ⟨hsz, hP, hK, hD0, hN⟩, hSt⟩ := hv
  have hx := B.exec
  have hb := B.bytes
  have hr := B.returns
  have ht0 : ∀ w ∈ W0, w.before _ s = true := fun w h => atoms_spec (ws := wsX9_doorLine) B.pre w (List.mem_cons_of_mem _ h)
  have hown : s.vm.findClass RX9 = some m.cls := findClass_of_methodNamed B.named
  have hlocks := B.notSynchronized
  subst hsz
  have hD : va_D A (wX9_doorLine cy aM qM vM vM_fresh vM_letters vM_tape) := by rw [← hAe]; exact hD0.self
  have hA : ∀ q : Nat, s.heap.size ≤ q → A q := fun q h => by rw [← hAe]; exact Or.inr h
  have hS : va_S A s.heap s.heap [] := va_S.rf
  have hl := lv_entry ([.ref aM]) (n := 10) (Nat.le_of_ble_eq_true rfl)
  rw [lg_entry_eq]
  generalize (lg_sl ([.ref aM]) ++ List.replicate (10 - (lg_sl ([.ref aM])).length) Slot.unset).toArray = ls at hl ⊢
  have hl : lv_has ls 10 [(0, .ref aM)] := hl
  generalize hQe : MQ below (kQv D cy A (wX9_doorLine cy aM qM z_vM z_vM_fresh z_vM_letters vM_tape)) ([.ref aM] : List Value).toArray s 0 0 A = Q
  have J195 : ∀ (y3_195 : Int32) (y5_195 : Int32) (vM_letters_195 : Nat → Int32) (vM_195 : Nat → Int32), ∀ (H : Heap) (locs : List Loc) (ls : Array Slot), va_P D vwCl (wX9_doorLine cy aM qM vM_195 vM_fresh vM_letters_195 vM_tape) H → va_D A (wX9_doorLine cy aM qM vM_195 vM_fresh vM_letters_195 vM_tape) → va_S A s.heap H locs → lv_has ls 10 [(0, .ref aM), (1, .int ((52 : Int32) + ((2 : Int32) * (vM_fresh (5 : Int32).toNatClampNeg)))), (3, .int y3_195), (5, .int y5_195)] → fX9_doorLine_J195 vM_fresh vM_tape y3_195 y5_195 vM_letters_195 vM_195 = some (z_vM, z_vM_fresh, z_vM_letters) → W p l e ({ frames := 8, cells := 0, slots := 0, locals := 171 } : Room) s m ([.ref aM] : List Value).toArray below meth c H locs 0 0 Q (F0 m 195 ls []) := by
    intro y3_195 y5_195 vM_letters_195 vM_195 H locs ls hP hD hS hl hok
    unfold fX9_doorLine_J195 at hok
    refine lv_aload_n hx hb dX9_doorLine_195 rfl (lv_at hl 0 rfl) ?_
    refine va_get (D := D) (ci := 8) (v := .int (vM_195 13)) (C := RX9) (T := TX9) (N := 29) hx hb ht0 niX9 hown hK hP 0 rfl rfl 13 (by decide) (ht0 _ wd757) (fun _ h9 => h9) rfl dX9_doorLine_196 ?_
    refine lv_if_eq (tgt := 203) hx hb dX9_doorLine_199 (by decide) (fun c199 => ?_) (fun c199 => ?_)
    · have hok := k_pos c199 hok
      refine lv_aload_n hx hb dX9_doorLine_203 rfl (lv_at hl 0 rfl) ?_
      obtain ⟨⟨vM_204, vM_letters_204⟩, hc204, hok⟩ := k_bind hok
      try dsimp only at hok
      refine kCv (wc := (wX9_next cy aM qM vM_195 vM_tape vM_letters_195)) (wc2 := (wX9_next cy aM qM vM_204 vM_tape vM_letters_204)) (wr := [(qM 16, rI cy 224 vM_fresh)]) (ws2 := (wX9_doorLine cy aM qM vM_204 vM_fresh vM_letters_204 vM_tape)) (kRunV (As := []) (rest := []) ⟨hx, hb, hml, hown, ht0⟩ (kX9_next l D cy _ aM qM vM_195 vM_tape vM_letters_195 vM_204 vM_letters_204 hc204 _ rfl) (cwV 0 ht0 (gV wd766 wd767 wd768 wd744 wd769) rfl rfl rfl (by decide +kernel) ⟨Nat.le_of_ble_eq_true rfl, Nat.le_of_ble_eq_true rfl⟩) hK hN hP hD [0, 3, 2] rfl (by decide) 0 8 rfl rfl rfl hl.1 rfl (Nat.le_of_ble_eq_true rfl) dX9_doorLine_204 ⟨Nat.zero_le _, Nat.zero_le _⟩) hP hD hS hA [0, 3, 2] [1] rfl rfl (by decide) (by decide) [1, 0, 3, 2] (by decide) rfl rfl (fun H locs hP hD hS => ?_)
      refine lv_aload_n hx hb dX9_doorLine_207 rfl (lv_at hl 0 rfl) ?_
      refine va_get (D := D) (ci := 8) (v := .ref (qM 16)) (C := RX9) (T := TX9) (N := 29) hx hb ht0 niX9 hown hK hP 0 rfl rfl 16 (by decide) (ht0 _ wd778) (fun _ h9 => h9) rfl dX9_doorLine_208 ?_
      refine lv_iload_n hx hb dX9_doorLine_211 rfl (lv_at hl 1 rfl) ?_
      refine lv_iload_n hx hb dX9_doorLine_212 rfl (lv_at hl 2 rfl) ?_
      obtain ⟨g213, hok⟩ := gd_some hok
      refine va_iast hx hb hK hP hD hS 1 0 rfl rfl (okI_in g213) dX9_doorLine_213 (fun H locs hP hD hS => ?_)
      have hP : va_P D vwCl (wX9_doorLine cy aM qM vM_204 (upd vM_fresh ((52 : Int32) + ((2 : Int32) * (vM_fresh (5 : Int32).toNatClampNeg))).toNatClampNeg y3_195) vM_letters_204 vM_tape) H := hP
      have hD : va_D A (wX9_doorLine cy aM qM vM_204 (upd vM_fresh ((52 : Int32) + ((2 : Int32) * (vM_fresh (5 : Int32).toNatClampNeg))).toNatClampNeg y3_195) vM_letters_204 vM_tape) := hD
      refine lv_aload_n hx hb dX9_doorLine_214 rfl (lv_at hl 0 rfl) ?_
      refine va_get (D := D) (ci := 8) (v := .ref (qM 16)) (C := RX9) (T := TX9) (N := 29) hx hb ht0 niX9 hown hK hP 0 rfl rfl 16 (by decide) (ht0 _ wd778) (fun _ h9 => h9) rfl dX9_doorLine_215 ?_
      refine lv_iload_n hx hb dX9_doorLine_218 rfl (lv_at hl 1 rfl) ?_
      refine lv_iconst (v := 1) hx hb dX9_doorLine_219 (by decide) ?_
      refine lv_iadd hx hb dX9_doorLine_220 ?_
      refine lv_iload hx hb dX9_doorLine_221 (lv_at hl 3 rfl) ?_
      obtain ⟨g223, hok⟩ := gd_some hok
      refine va_iast hx hb hK hP hD hS 1 0 rfl rfl (okI_in g223) dX9_doorLine_223 (fun H locs hP hD hS => ?_)
      have hP : va_P D vwCl (wX9_doorLine cy aM qM vM_204 (upd (upd vM_fresh ((52 : Int32) + ((2 : Int32) * (vM_fresh (5 : Int32).toNatClampNeg))).toNatClampNeg y3_195) (((52 : Int32) + ((2 : Int32) * (vM_fresh (5 : Int32).toNatClampNeg))) + (1 : Int32)).toNatClampNeg y5_195) vM_letters_204 vM_tape) H := hP
      have hD : va_D A (wX9_doorLine cy aM qM vM_204 (upd (upd vM_fresh ((52 : Int32) + ((2 : Int32) * (vM_fresh (5 : Int32).toNatClampNeg))).toNatClampNeg y3_195) (((52 : Int32) + ((2 : Int32) * (vM_fresh (5 : Int32).toNatClampNeg))) + (1 : Int32)).toNatClampNeg y5_195) vM_letters_204 vM_tape) := hD
      refine lv_aload_n hx hb dX9_doorLine_224 rfl (lv_at hl 0 rfl) ?_
      refine va_get (D := D) (ci := 8) (v := .ref (qM 16)) (C := RX9) (T := TX9) (N := 29) hx hb ht0 niX9 hown hK hP 0 rfl rfl 16 (by decide) (ht0 _ wd778) (fun _ h9 => h9) rfl dX9_doorLine_225 ?_
      refine lv_iconst (v := 5) hx hb dX9_doorLine_228 (by decide) ?_
      refine lv_dup2_11 hx hb dX9_doorLine_229 rfl rfl ?_
      obtain ⟨g230, hok⟩ := gd_some hok
      refine va_iald hx hb hK hP 1 0 rfl rfl (okI_in g230) dX9_doorLine_230 ?_
      refine lv_iconst (v := 1) hx hb dX9_doorLine_231 (by decide) ?_
      refine lv_iadd hx hb dX9_doorLine_232 ?_
      obtain ⟨g233, hok⟩ := gd_some hok
      refine va_iast hx hb hK hP hD hS 1 0 rfl rfl (okI_in g233) dX9_doorLine_233 (fun H locs hP hD hS => ?_)
      have hP : va_P D vwCl (wX9_doorLine cy aM qM vM_204 (upd (upd (upd vM_fresh ((52 : Int32) + ((2 : Int32) * (vM_fresh (5 : Int32).toNatClampNeg))).toNatClampNeg y3_195) (((52 : Int32) + ((2 : Int32) * (vM_fresh (5 : Int32).toNatClampNeg))) + (1 : Int32)).toNatClampNeg y5_195) (5 : Int32).toNatClampNeg (((upd (upd vM_fresh ((52 : Int32) + ((2 : Int32) * (vM_fresh (5 : Int32).toNatClampNeg))).toNatClampNeg y3_195) (((52 : Int32) + ((2 : Int32) * (vM_fresh (5 : Int32).toNatClampNeg))) + (1 : Int32)).toNatClampNeg y5_195) (5 : Int32).toNatClampNeg) + (1 : Int32))) vM_letters_204 vM_tape) H := hP
      have hD : va_D A (wX9_doorLine cy aM qM vM_204 (upd (upd (upd vM_fresh ((52 : Int32) + ((2 : Int32) * (vM_fresh (5 : Int32).toNatClampNeg))).toNatClampNeg y3_195) (((52 : Int32) + ((2 : Int32) * (vM_fresh (5 : Int32).toNatClampNeg))) + (1 : Int32)).toNatClampNeg y5_195) (5 : Int32).toNatClampNeg (((upd (upd vM_fresh ((52 : Int32) + ((2 : Int32) * (vM_fresh (5 : Int32).toNatClampNeg))).toNatClampNeg y3_195) (((52 : Int32) + ((2 : Int32) * (vM_fresh (5 : Int32).toNatClampNeg))) + (1 : Int32)).toNatClampNeg y5_195) (5 : Int32).toNatClampNeg) + (1 : Int32))) vM_letters_204 vM_tape) := hD
      cases hok
      subst hQe; exact W.vret hx hb hr (fun t ht hW => ⟨⟨(), rfl, trivial, by rw [ht]; exact hP, va_K.moved hW.alike hK, hD⟩, hS.F ht⟩) hS.2.2 dX9_doorLine_234
    · have hok := k_neg c199 hok
      cases hok
      subst hQe; exact W.vret hx hb hr (fun t ht hW => ⟨⟨(), rfl, trivial, by rw [ht]; exact hP, va_K.moved hW.alike hK, hD⟩, hS.F ht⟩) hS.2.2 dX9_doorLine_202
  have L89 : ∀ (fuel : Nat) (y3_89 : Int32) (y5_89 : Int32) (y6_89 : Int32) (y7_89 : Int32) (vM_letters_89 : Nat → Int32) (vM_89 : Nat → Int32), ∀ (H : Heap) (locs : List Loc) (ls : Array Slot), va_P D vwCl (wX9_doorLine cy aM qM vM_89 vM_fresh vM_letters_89 vM_tape) H → va_D A (wX9_doorLine cy aM qM vM_89 vM_fresh vM_letters_89 vM_tape) → va_S A s.heap H locs → lv_has ls 10 [(0, .ref aM), (1, .int ((52 : Int32) + ((2 : Int32) * (vM_fresh (5 : Int32).toNatClampNeg)))), (3, .int y3_89), (5, .int y5_89), (6, .int y6_89), (7, .int y7_89)] → lp (fX9_doorLine_B89 vM_fresh vM_tape) fuel (y3_89, y5_89, y6_89, y7_89, vM_letters_89, vM_89) = some (z_vM, z_vM_fresh, z_vM_letters) → W p l e ({ frames := 8, cells := 0, slots := 0, locals := 171 } : Room) s m ([.ref aM] : List Value).toArray below meth c H locs 0 0 Q (F0 m 89 ls []) := by
    intro fuel
    induction fuel with
    | zero => intro y3_89 y5_89 y6_89 y7_89 vM_letters_89 vM_89 H locs ls hP hD hS hl hok; exact (lp_0 hok).elim
    | succ fuel ih89 =>
      intro y3_89 y5_89 y6_89 y7_89 vM_letters_89 vM_89 H locs ls hP hD hS hl hok
      obtain ⟨y89, hok, hL89, hR89⟩ := lp_step hok
      have J166 : ∀ (t0_166 : Int32), ∀ (H : Heap) (locs : List Loc) (ls : Array Slot), va_P D vwCl (wX9_doorLine cy aM qM vM_89 vM_fresh vM_letters_89 vM_tape) H → va_D A (wX9_doorLine cy aM qM vM_89 vM_fresh vM_letters_89 vM_tape) → va_S A s.heap H locs → lv_has ls 10 [(0, .ref aM), (1, .int ((52 : Int32) + ((2 : Int32) * (vM_fresh (5 : Int32).toNatClampNeg)))), (3, .int y3_89), (5, .int y5_89), (7, .int y7_89)] → fX9_doorLine_J166 y3_89 y5_89 y7_89 vM_letters_89 vM_89 t0_166 = some y89 → W p l e ({ frames := 8, cells := 0, slots := 0, locals := 171 } : Room) s m ([.ref aM] : List Value).toArray below meth c H locs 0 0 Q (F0 m 166 ls [.int t0_166]) := by
        intro t0_166 H locs ls hP hD hS hl hok
        unfold fX9_doorLine_J166 at hok
        refine lv_istore (lv' := [(6, .int t0_166), (0, .ref aM), (1, .int ((52 : Int32) + ((2 : Int32) * (vM_fresh (5 : Int32).toNatClampNeg)))), (3, .int y3_89), (5, .int y5_89), (7, .int y7_89)]) hx hb dX9_doorLine_166 hl (by decide) rfl (fun ls hl => ?_)
        refine lv_iinc (v := (y7_89 + 1)) (lv' := [(7, .int (y7_89 + 1)), (6, .int t0_166), (0, .ref aM), (1, .int ((52 : Int32) + ((2 : Int32) * (vM_fresh (5 : Int32).toNatClampNeg)))), (3, .int y3_89), (5, .int y5_89)]) hx hb dX9_doorLine_168 hl (k := 5) rfl (by first | rfl | decide) (by decide) rfl (fun ls hl => ?_)
        refine lv_goto (tgt := 89) hx hb dX9_doorLine_171 (by decide) ?_
        exact ih89 y3_89 y5_89 t0_166 (y7_89 + 1) vM_letters_89 vM_89 H locs ls hP hD hS (lv_sub hl [2, 3, 4, 5, 1, 0] rfl) (hR89 _ (Option.some.inj hok).symm)
      have J165 : ∀ (H : Heap) (locs : List Loc) (ls : Array Slot), va_P D vwCl (wX9_doorLine cy aM qM vM_89 vM_fresh vM_letters_89 vM_tape) H → va_D A (wX9_doorLine cy aM qM vM_89 vM_fresh vM_letters_89 vM_tape) → va_S A s.heap H locs → lv_has ls 10 [(0, .ref aM), (1, .int ((52 : Int32) + ((2 : Int32) * (vM_fresh (5 : Int32).toNatClampNeg)))), (3, .int y3_89), (5, .int y5_89), (7, .int y7_89)] → fX9_doorLine_J165 y3_89 y5_89 y7_89 vM_letters_89 vM_89 = some y89 → W p l e ({ frames := 8, cells := 0, slots := 0, locals := 171 } : Room) s m ([.ref aM] : List Value).toArray below meth c H locs 0 0 Q (F0 m 165 ls []) := by
        intro  H locs ls hP hD hS hl hok
        unfold fX9_doorLine_J165 at hok
        refine lv_iconst (v := 0) hx hb dX9_doorLine_165 (by decide) ?_
        exact J166 (0 : Int32) H locs ls hP hD hS (lv_sub hl [0, 1, 2, 3, 4] rfl) hok
      have J161 : ∀ (H : Heap) (locs : List Loc) (ls : Array Slot), va_P D vwCl (wX9_doorLine cy aM qM vM_89 vM_fresh vM_letters_89 vM_tape) H → va_D A (wX9_doorLine cy aM qM vM_89 vM_fresh vM_letters_89 vM_tape) → va_S A s.heap H locs → lv_has ls 10 [(0, .ref aM), (1, .int ((52 : Int32) + ((2 : Int32) * (vM_fresh (5 : Int32).toNatClampNeg)))), (3, .int y3_89), (5, .int y5_89), (7, .int y7_89)] → fX9_doorLine_J161 y3_89 y5_89 y7_89 vM_letters_89 vM_89 = some y89 → W p l e ({ frames := 8, cells := 0, slots := 0, locals := 171 } : Room) s m ([.ref aM] : List Value).toArray below meth c H locs 0 0 Q (F0 m 161 ls []) := by
        intro  H locs ls hP hD hS hl hok
        unfold fX9_doorLine_J161 at hok
        refine lv_iconst (v := 1) hx hb dX9_doorLine_161 (by decide) ?_
        refine lv_goto (tgt := 166) hx hb dX9_doorLine_162 (by decide) ?_
        exact J166 (1 : Int32) H locs ls hP hD hS (lv_sub hl [0, 1, 2, 3, 4] rfl) hok
      have J148 : ∀ (H : Heap) (locs : List Loc) (ls : Array Slot), va_P D vwCl (wX9_doorLine cy aM qM vM_89 vM_fresh vM_letters_89 vM_tape) H → va_D A (wX9_doorLine cy aM qM vM_89 vM_fresh vM_letters_89 vM_tape) → va_S A s.heap H locs → lv_has ls 10 [(0, .ref aM), (1, .int ((52 : Int32) + ((2 : Int32) * (vM_fresh (5 : Int32).toNatClampNeg)))), (3, .int y3_89), (5, .int y5_89), (7, .int y7_89), (8, .int (vM_fresh ((52 : Int32) + ((2 : Int32) * y7_89)).toNatClampNeg)), (9, .int (vM_fresh (((52 : Int32) + ((2 : Int32) * y7_89)) + (1 : Int32)).toNatClampNeg))] → fX9_doorLine_J148 vM_fresh y3_89 y5_89 y7_89 vM_letters_89 vM_89 = some y89 → W p l e ({ frames := 8, cells := 0, slots := 0, locals := 171 } : Room) s m ([.ref aM] : List Value).toArray below meth c H locs 0 0 Q (F0 m 148 ls []) := by
        intro  H locs ls hP hD hS hl hok
        unfold fX9_doorLine_J148 at hok
        refine lv_iload hx hb dX9_doorLine_148 (lv_at hl 5 rfl) ?_
        refine lv_iload hx hb dX9_doorLine_150 (lv_at hl 3 rfl) ?_
        refine lv_icmp_ne (tgt := 165) hx hb dX9_doorLine_152 (by decide) (fun c152 => ?_) (fun c152 => ?_)
        · have hok := k_neg c152 hok
          exact J165  H locs ls hP hD hS (lv_sub hl [0, 1, 2, 3, 4] rfl) hok
        · have hok := k_pos c152 hok
          refine lv_iload hx hb dX9_doorLine_155 (lv_at hl 6 rfl) ?_
          refine lv_iload_n hx hb dX9_doorLine_157 rfl (lv_at hl 2 rfl) ?_
          refine lv_icmp_ne (tgt := 165) hx hb dX9_doorLine_158 (by decide) (fun c158 => ?_) (fun c158 => ?_)
          · have hok := k_neg c158 hok
            exact J165  H locs ls hP hD hS (lv_sub hl [0, 1, 2, 3, 4] rfl) hok
          · have hok := k_pos c158 hok
            exact J161  H locs ls hP hD hS (lv_sub hl [0, 1, 2, 3, 4] rfl) hok
      unfold fX9_doorLine_B89 at hok
      try dsimp only at hok
      refine lv_iload hx hb dX9_doorLine_89 (lv_at hl 5 rfl) ?_
      refine lv_aload_n hx hb dX9_doorLine_91 rfl (lv_at hl 0 rfl) ?_
      refine va_get (D := D) (ci := 8) (v := .ref (qM 16)) (C := RX9) (T := TX9) (N := 29) hx hb ht0 niX9 hown hK hP 0 rfl rfl 16 (by decide) (ht0 _ wd778) (fun _ h9 => h9) rfl dX9_doorLine_92 ?_
      refine lv_iconst (v := 5) hx hb dX9_doorLine_95 (by decide) ?_
      obtain ⟨g96, hok⟩ := gd_some hok
      refine va_iald hx hb hK hP 1 0 rfl rfl (okI_in g96) dX9_doorLine_96 ?_
      refine lv_icmp_ge (tgt := 174) hx hb dX9_doorLine_97 (by decide) (fun c97 => ?_) (fun c97 => ?_)
      · have hok := k_pos c97 hok
        obtain ⟨e89, hok, he89⟩ := ex_some hok
        have hok := hok.trans (congrArg some (hL89 _ he89))
        refine lv_aload_n hx hb dX9_doorLine_174 rfl (lv_at hl 0 rfl) ?_
        refine va_get (D := D) (ci := 8) (v := .int (vM_89 13)) (C := RX9) (T := TX9) (N := 29) hx hb ht0 niX9 hown hK hP 0 rfl rfl 13 (by decide) (ht0 _ wd757) (fun _ h9 => h9) rfl dX9_doorLine_175 ?_
        refine lv_if_ne (tgt := 195) hx hb dX9_doorLine_178 (by decide) (fun c178 => ?_) (fun c178 => ?_)
        · have hok := k_neg c178 hok
          exact J195 y3_89 y5_89 vM_letters_89 vM_89 H locs ls hP hD hS (lv_sub hl [0, 1, 2, 3] rfl) hok
        · have hok := k_pos c178 hok
          refine lv_iload hx hb dX9_doorLine_181 (lv_at hl 4 rfl) ?_
          refine lv_if_eq (tgt := 195) hx hb dX9_doorLine_183 (by decide) (fun c183 => ?_) (fun c183 => ?_)
          · have hok := k_pos c183 hok
            exact J195 y3_89 y5_89 vM_letters_89 vM_89 H locs ls hP hD hS (lv_sub hl [0, 1, 2, 3] rfl) hok
          · have hok := k_neg c183 hok
            refine lv_aload_n hx hb dX9_doorLine_186 rfl (lv_at hl 0 rfl) ?_
            refine lv_iconst (v := 3) hx hb dX9_doorLine_187 (by decide) ?_
            refine lv_aload_n hx hb dX9_doorLine_188 rfl (lv_at hl 0 rfl) ?_
            refine va_get (D := D) (ci := 8) (v := .int (vM_89 4)) (C := RX9) (T := TX9) (N := 29) hx hb ht0 niX9 hown hK hP 0 rfl rfl 4 (by decide) (ht0 _ wd756) (fun _ h9 => h9) rfl dX9_doorLine_189 ?_
            obtain ⟨vM_192, hc192, hok⟩ := k_bind hok
            refine kCv (wc := (wX9_wrong cy aM qM vM_89)) (wc2 := (wX9_wrong cy aM qM vM_192)) (wr := [(qM 16, rI cy 224 vM_fresh), (qM 12, rI cy 8 vM_letters_89), (qM 1, rI cy 900 vM_tape)]) (ws2 := (wX9_doorLine cy aM qM vM_192 vM_fresh vM_letters_89 vM_tape)) (kRunV (As := [.int 3, .int (vM_89 4)]) (rest := []) ⟨hx, hb, hml, hown, ht0⟩ (kX9_wrong l D cy _ aM qM vM_89 (3 : Int32) (vM_89 4) vM_192 hc192 _ rfl) (cwV 2 ht0 (gV wd774 wd775 wd776 wd744 wd777) rfl rfl rfl (by decide +kernel) ⟨Nat.le_of_ble_eq_true rfl, Nat.le_of_ble_eq_true rfl⟩) hK hN hP hD [0] rfl (by decide) 0 8 rfl rfl rfl hl.1 rfl (Nat.le_of_ble_eq_true rfl) dX9_doorLine_192 ⟨Nat.zero_le _, Nat.zero_le _⟩) hP hD hS hA [0] [1, 2, 3] rfl rfl (by decide) (by decide) [3, 0, 1, 2] (by decide) rfl rfl (fun H locs hP hD hS => ?_)
            exact J195 y3_89 y5_89 vM_letters_89 vM_192 H locs ls hP hD hS (lv_sub hl [0, 1, 2, 3] rfl) hok
      · have hok := k_neg c97 hok
        refine lv_aload_n hx hb dX9_doorLine_100 rfl (lv_at hl 0 rfl) ?_
        refine va_get (D := D) (ci := 8) (v := .ref (qM 16)) (C := RX9) (T := TX9) (N := 29) hx hb ht0 niX9 hown hK hP 0 rfl rfl 16 (by decide) (ht0 _ wd778) (fun _ h9 => h9) rfl dX9_doorLine_101 ?_
        refine lv_bipush (v := 52) hx hb dX9_doorLine_104 (by decide) ?_
        refine lv_iconst (v := 2) hx hb dX9_doorLine_106 (by decide) ?_
        refine lv_iload hx hb dX9_doorLine_107 (lv_at hl 5 rfl) ?_
        refine lv_imul hx hb dX9_doorLine_109 ?_
        refine lv_iadd hx hb dX9_doorLine_110 ?_
        obtain ⟨g111, hok⟩ := gd_some hok
        refine va_iald hx hb hK hP 1 0 rfl rfl (okI_in g111) dX9_doorLine_111 ?_
        refine lv_istore (lv' := [(8, .int (vM_fresh ((52 : Int32) + ((2 : Int32) * y7_89)).toNatClampNeg)), (0, .ref aM), (1, .int ((52 : Int32) + ((2 : Int32) * (vM_fresh (5 : Int32).toNatClampNeg)))), (3, .int y3_89), (5, .int y5_89), (6, .int y6_89), (7, .int y7_89)]) hx hb dX9_doorLine_112 hl (by decide) rfl (fun ls hl => ?_)
        refine lv_aload_n hx hb dX9_doorLine_114 rfl (lv_at hl 1 rfl) ?_
        refine va_get (D := D) (ci := 8) (v := .ref (qM 16)) (C := RX9) (T := TX9) (N := 29) hx hb ht0 niX9 hown hK hP 0 rfl rfl 16 (by decide) (ht0 _ wd778) (fun _ h9 => h9) rfl dX9_doorLine_115 ?_
        refine lv_bipush (v := 52) hx hb dX9_doorLine_118 (by decide) ?_
        refine lv_iconst (v := 2) hx hb dX9_doorLine_120 (by decide) ?_
        refine lv_iload hx hb dX9_doorLine_121 (lv_at hl 6 rfl) ?_
        refine lv_imul hx hb dX9_doorLine_123 ?_
        refine lv_iadd hx hb dX9_doorLine_124 ?_
        refine lv_iconst (v := 1) hx hb dX9_doorLine_125 (by decide) ?_
        refine lv_iadd hx hb dX9_doorLine_126 ?_
        obtain ⟨g127, hok⟩ := gd_some hok
        refine va_iald hx hb hK hP 1 0 rfl rfl (okI_in g127) dX9_doorLine_127 ?_
        refine lv_istore (lv' := [(9, .int (vM_fresh (((52 : Int32) + ((2 : Int32) * y7_89)) + (1 : Int32)).toNatClampNeg)), (8, .int (vM_fresh ((52 : Int32) + ((2 : Int32) * y7_89)).toNatClampNeg)), (0, .ref aM), (1, .int ((52 : Int32) + ((2 : Int32) * (vM_fresh (5 : Int32).toNatClampNeg)))), (3, .int y3_89), (5, .int y5_89), (6, .int y6_89), (7, .int y7_89)]) hx hb dX9_doorLine_128 hl (by decide) rfl (fun ls hl => ?_)
        refine lv_iload hx hb dX9_doorLine_130 (lv_at hl 6 rfl) ?_
        refine lv_if_ne (tgt := 161) hx hb dX9_doorLine_132 (by decide) (fun c132 => ?_) (fun c132 => ?_)
        · have hok := k_neg c132 hok
          exact J161  H locs ls hP hD hS (lv_sub hl [2, 3, 4, 5, 7] rfl) hok
        · have hok := k_pos c132 hok
          refine lv_iload hx hb dX9_doorLine_135 (lv_at hl 1 rfl) ?_
          refine lv_iload_n hx hb dX9_doorLine_137 rfl (lv_at hl 4 rfl) ?_
          refine lv_icmp_ne (tgt := 148) hx hb dX9_doorLine_138 (by decide) (fun c138 => ?_) (fun c138 => ?_)
          · have hok := k_neg c138 hok
            exact J148  H locs ls hP hD hS (lv_sub hl [2, 3, 4, 5, 7, 1, 0] rfl) hok
          · have hok := k_pos c138 hok
            refine lv_iload hx hb dX9_doorLine_141 (lv_at hl 0 rfl) ?_
            refine lv_iload hx hb dX9_doorLine_143 (lv_at hl 5 rfl) ?_
            refine lv_icmp_eq (tgt := 161) hx hb dX9_doorLine_145 (by decide) (fun c145 => ?_) (fun c145 => ?_)
            · have hok := k_pos c145 hok
              exact J161  H locs ls hP hD hS (lv_sub hl [2, 3, 4, 5, 7] rfl) hok
            · have hok := k_neg c145 hok
              exact J148  H locs ls hP hD hS (lv_sub hl [2, 3, 4, 5, 7, 1, 0] rfl) hok
  have J84 : ∀ (y3_84 : Int32) (y5_84 : Int32) (t0_84 : Int32) (vM_letters_84 : Nat → Int32) (vM_84 : Nat → Int32), ∀ (H : Heap) (locs : List Loc) (ls : Array Slot), va_P D vwCl (wX9_doorLine cy aM qM vM_84 vM_fresh vM_letters_84 vM_tape) H → va_D A (wX9_doorLine cy aM qM vM_84 vM_fresh vM_letters_84 vM_tape) → va_S A s.heap H locs → lv_has ls 10 [(0, .ref aM), (1, .int ((52 : Int32) + ((2 : Int32) * (vM_fresh (5 : Int32).toNatClampNeg)))), (3, .int y3_84), (5, .int y5_84)] → fX9_doorLine_J84 vM_fresh vM_tape y3_84 y5_84 t0_84 vM_letters_84 vM_84 = some (z_vM, z_vM_fresh, z_vM_letters) → W p l e ({ frames := 8, cells := 0, slots := 0, locals := 171 } : Room) s m ([.ref aM] : List Value).toArray below meth c H locs 0 0 Q (F0 m 84 ls [.int t0_84]) := by
    intro y3_84 y5_84 t0_84 vM_letters_84 vM_84 H locs ls hP hD hS hl hok
    unfold fX9_doorLine_J84 at hok
    refine lv_istore (lv' := [(6, .int t0_84), (0, .ref aM), (1, .int ((52 : Int32) + ((2 : Int32) * (vM_fresh (5 : Int32).toNatClampNeg)))), (3, .int y3_84), (5, .int y5_84)]) hx hb dX9_doorLine_84 hl (by decide) rfl (fun ls hl => ?_)
    refine lv_iconst (v := 0) hx hb dX9_doorLine_86 (by decide) ?_
    refine lv_istore (lv' := [(7, .int 0), (6, .int t0_84), (0, .ref aM), (1, .int ((52 : Int32) + ((2 : Int32) * (vM_fresh (5 : Int32).toNatClampNeg)))), (3, .int y3_84), (5, .int y5_84)]) hx hb dX9_doorLine_87 hl (by decide) rfl (fun ls hl => ?_)
    exact L89 5000 y3_84 y5_84 t0_84 (0 : Int32) vM_letters_84 vM_84 H locs ls hP hD hS (lv_sub hl [2, 3, 4, 5, 1, 0] rfl) hok
  unfold fX9_doorLine at hok
  obtain ⟨H, hH⟩ : ∃ H, H = s.heap := ⟨_, rfl⟩
  obtain ⟨locs, hlc⟩ : ∃ x : List Loc, x = [] := ⟨_, rfl⟩
  have hP : va_P D vwCl (wX9_doorLine cy aM qM vM vM_fresh vM_letters vM_tape) H := by rw [hH]; exact hP
  have hS : va_S A s.heap H locs := by rw [hH, hlc]; exact hS
  rw [show W p l e _ s m _ below meth c s.heap [] = W p l e _ s m _ below meth c H locs from by rw [hH, hlc]]
  refine lv_aload_n hx hb dX9_doorLine_0 rfl (lv_at hl 0 rfl) ?_
  refine va_get (D := D) (ci := 8) (v := .int (vM 13)) (C := RX9) (T := TX9) (N := 29) hx hb ht0 niX9 hown hK hP 0 rfl rfl 13 (by decide) (ht0 _ wd757) (fun _ h9 => h9) rfl dX9_doorLine_1 ?_
  refine lv_if_eq (tgt := 8) hx hb dX9_doorLine_4 (by decide) (fun c4 => ?_) (fun c4 => ?_)
  · have hok := k_pos c4 hok
    refine lv_bipush (v := 52) hx hb dX9_doorLine_8 (by decide) ?_
    refine lv_iconst (v := 2) hx hb dX9_doorLine_10 (by decide) ?_
    refine lv_aload_n hx hb dX9_doorLine_11 rfl (lv_at hl 0 rfl) ?_
    refine va_get (D := D) (ci := 8) (v := .ref (qM 16)) (C := RX9) (T := TX9) (N := 29) hx hb ht0 niX9 hown hK hP 0 rfl rfl 16 (by decide) (ht0 _ wd778) (fun _ h9 => h9) rfl dX9_doorLine_12 ?_
    refine lv_iconst (v := 5) hx hb dX9_doorLine_15 (by decide) ?_
    obtain ⟨g16, hok⟩ := gd_some hok
    refine va_iald hx hb hK hP 1 0 rfl rfl (okI_in g16) dX9_doorLine_16 ?_
    refine lv_imul hx hb dX9_doorLine_17 ?_
    refine lv_iadd hx hb dX9_doorLine_18 ?_
    refine lv_istore_n (lv' := [(1, .int ((52 : Int32) + ((2 : Int32) * (vM_fresh (5 : Int32).toNatClampNeg)))), (0, .ref aM)]) hx hb dX9_doorLine_19 rfl hl (by decide) rfl (fun ls hl => ?_)
    refine lv_aload_n hx hb dX9_doorLine_20 rfl (lv_at hl 1 rfl) ?_
    obtain ⟨⟨r21, vM_21, vM_letters_21⟩, hc21, hok⟩ := k_bind hok
    try dsimp only at hok
    refine kCi (wc := (wX9_ringName cy aM qM vM vM_letters vM_fresh vM_tape)) (wc2 := (wX9_ringName cy aM qM vM_21 vM_letters_21 vM_fresh vM_tape)) (wr := []) (ws2 := (wX9_doorLine cy aM qM vM_21 vM_fresh vM_letters_21 vM_tape)) (kRunVS (As := []) (rest := []) ⟨hx, hb, hml, hown, ht0⟩ (kX9_ringName l D cy ad _ aM qM vM vM_letters vM_fresh vM_tape r21 vM_21 vM_letters_21 hc21 _ rfl) (cwV 0 ht0 (gV wd814 wd815 wd816 wd744 wd817) rfl rfl rfl (by decide +kernel) ⟨Nat.le_of_ble_eq_true rfl, Nat.le_of_ble_eq_true rfl⟩) hK hN hP hD hSt hS hA [0, 2, 1, 3] rfl (by decide) 0 8 rfl rfl rfl hl.1 rfl (Nat.le_of_ble_eq_true rfl) dX9_doorLine_21 ⟨Nat.zero_le _, Nat.zero_le _⟩) hP hD hS hA [0, 2, 1, 3] [] rfl rfl (by decide) (by decide) [0, 2, 1, 3] (by decide) rfl rfl (fun H locs hP hD hS => ?_)
    refine lv_istore_n (lv' := [(2, .int r21), (1, .int ((52 : Int32) + ((2 : Int32) * (vM_fresh (5 : Int32).toNatClampNeg)))), (0, .ref aM)]) hx hb dX9_doorLine_24 rfl hl (by decide) rfl (fun ls hl => ?_)
    refine lv_aload_n hx hb dX9_doorLine_25 rfl (lv_at hl 2 rfl) ?_
    refine va_get (D := D) (ci := 8) (v := .int (vM_21 13)) (C := RX9) (T := TX9) (N := 29) hx hb ht0 niX9 hown hK hP 0 rfl rfl 13 (by decide) (ht0 _ wd757) (fun _ h9 => h9) rfl dX9_doorLine_26 ?_
    refine lv_if_eq (tgt := 33) hx hb dX9_doorLine_29 (by decide) (fun c29 => ?_) (fun c29 => ?_)
    · have hok := k_pos c29 hok
      refine lv_aload_n hx hb dX9_doorLine_33 rfl (lv_at hl 2 rfl) ?_
      refine lv_iload_n hx hb dX9_doorLine_34 rfl (lv_at hl 0 rfl) ?_
      obtain ⟨⟨r35, vM_35⟩, hc35, hok⟩ := k_bind hok
      try dsimp only at hok
      refine kCi (wc := (wX9_placeHere cy aM qM vM_21 vM_fresh)) (wc2 := (wX9_placeHere cy aM qM vM_35 vM_fresh)) (wr := [(qM 12, rI cy 8 vM_letters_21), (qM 1, rI cy 900 vM_tape)]) (ws2 := (wX9_doorLine cy aM qM vM_35 vM_fresh vM_letters_21 vM_tape)) (kRunV (As := [.int r21]) (rest := []) ⟨hx, hb, hml, hown, ht0⟩ (kX9_placeHere l D cy _ aM qM vM_21 vM_fresh r21 r35 vM_35 hc35 _ rfl) (cwV 1 ht0 (gV wd818 wd819 wd820 wd744 wd821) rfl rfl rfl (by decide +kernel) ⟨Nat.le_of_ble_eq_true rfl, Nat.le_of_ble_eq_true rfl⟩) hK hN hP hD [0, 1] rfl (by decide) 0 8 rfl rfl rfl hl.1 rfl (Nat.le_of_ble_eq_true rfl) dX9_doorLine_35 ⟨Nat.zero_le _, Nat.zero_le _⟩) hP hD hS hA [0, 1] [2, 3] rfl rfl (by decide) (by decide) [2, 3, 0, 1] (by decide) rfl rfl (fun H locs hP hD hS => ?_)
      refine lv_istore_n (lv' := [(3, .int r35), (2, .int r21), (1, .int ((52 : Int32) + ((2 : Int32) * (vM_fresh (5 : Int32).toNatClampNeg)))), (0, .ref aM)]) hx hb dX9_doorLine_38 rfl hl (by decide) rfl (fun ls hl => ?_)
      refine lv_aload_n hx hb dX9_doorLine_39 rfl (lv_at hl 3 rfl) ?_
      refine va_get (D := D) (ci := 8) (v := .int (vM_35 13)) (C := RX9) (T := TX9) (N := 29) hx hb ht0 niX9 hown hK hP 0 rfl rfl 13 (by decide) (ht0 _ wd757) (fun _ h9 => h9) rfl dX9_doorLine_40 ?_
      refine lv_if_eq (tgt := 47) hx hb dX9_doorLine_43 (by decide) (fun c43 => ?_) (fun c43 => ?_)
      · have hok := k_pos c43 hok
        refine lv_aload_n hx hb dX9_doorLine_47 rfl (lv_at hl 3 rfl) ?_
        obtain ⟨⟨vM_48, vM_letters_48⟩, hc48, hok⟩ := k_bind hok
        try dsimp only at hok
        refine kCv (wc := (wX9_next cy aM qM vM_35 vM_tape vM_letters_21)) (wc2 := (wX9_next cy aM qM vM_48 vM_tape vM_letters_48)) (wr := [(qM 16, rI cy 224 vM_fresh)]) (ws2 := (wX9_doorLine cy aM qM vM_48 vM_fresh vM_letters_48 vM_tape)) (kRunV (As := []) (rest := []) ⟨hx, hb, hml, hown, ht0⟩ (kX9_next l D cy _ aM qM vM_35 vM_tape vM_letters_21 vM_48 vM_letters_48 hc48 _ rfl) (cwV 0 ht0 (gV wd766 wd767 wd768 wd744 wd769) rfl rfl rfl (by decide +kernel) ⟨Nat.le_of_ble_eq_true rfl, Nat.le_of_ble_eq_true rfl⟩) hK hN hP hD [0, 3, 2] rfl (by decide) 0 8 rfl rfl rfl hl.1 rfl (Nat.le_of_ble_eq_true rfl) dX9_doorLine_48 ⟨Nat.zero_le _, Nat.zero_le _⟩) hP hD hS hA [0, 3, 2] [1] rfl rfl (by decide) (by decide) [1, 0, 3, 2] (by decide) rfl rfl (fun H locs hP hD hS => ?_)
        refine lv_aload_n hx hb dX9_doorLine_51 rfl (lv_at hl 3 rfl) ?_
        obtain ⟨⟨r52, vM_52, vM_letters_52⟩, hc52, hok⟩ := k_bind hok
        try dsimp only at hok
        refine kCi (wc := (wX9_ringName cy aM qM vM_48 vM_letters_48 vM_fresh vM_tape)) (wc2 := (wX9_ringName cy aM qM vM_52 vM_letters_52 vM_fresh vM_tape)) (wr := []) (ws2 := (wX9_doorLine cy aM qM vM_52 vM_fresh vM_letters_52 vM_tape)) (kRunVS (As := []) (rest := []) ⟨hx, hb, hml, hown, ht0⟩ (kX9_ringName l D cy ad _ aM qM vM_48 vM_letters_48 vM_fresh vM_tape r52 vM_52 vM_letters_52 hc52 _ rfl) (cwV 0 ht0 (gV wd814 wd815 wd816 wd744 wd817) rfl rfl rfl (by decide +kernel) ⟨Nat.le_of_ble_eq_true rfl, Nat.le_of_ble_eq_true rfl⟩) hK hN hP hD hSt hS hA [0, 2, 1, 3] rfl (by decide) 0 8 rfl rfl rfl hl.1 rfl (Nat.le_of_ble_eq_true rfl) dX9_doorLine_52 ⟨Nat.zero_le _, Nat.zero_le _⟩) hP hD hS hA [0, 2, 1, 3] [] rfl rfl (by decide) (by decide) [0, 2, 1, 3] (by decide) rfl rfl (fun H locs hP hD hS => ?_)
        refine lv_istore (lv' := [(4, .int r52), (3, .int r35), (2, .int r21), (1, .int ((52 : Int32) + ((2 : Int32) * (vM_fresh (5 : Int32).toNatClampNeg)))), (0, .ref aM)]) hx hb dX9_doorLine_55 hl (by decide) rfl (fun ls hl => ?_)
        refine lv_aload_n hx hb dX9_doorLine_57 rfl (lv_at hl 4 rfl) ?_
        refine va_get (D := D) (ci := 8) (v := .int (vM_52 13)) (C := RX9) (T := TX9) (N := 29) hx hb ht0 niX9 hown hK hP 0 rfl rfl 13 (by decide) (ht0 _ wd757) (fun _ h9 => h9) rfl dX9_doorLine_58 ?_
        refine lv_if_eq (tgt := 65) hx hb dX9_doorLine_61 (by decide) (fun c61 => ?_) (fun c61 => ?_)
        · have hok := k_pos c61 hok
          refine lv_aload_n hx hb dX9_doorLine_65 rfl (lv_at hl 4 rfl) ?_
          refine lv_iload hx hb dX9_doorLine_66 (lv_at hl 0 rfl) ?_
          obtain ⟨⟨r68, vM_68⟩, hc68, hok⟩ := k_bind hok
          try dsimp only at hok
          refine kCi (wc := (wX9_placeHere cy aM qM vM_52 vM_fresh)) (wc2 := (wX9_placeHere cy aM qM vM_68 vM_fresh)) (wr := [(qM 12, rI cy 8 vM_letters_52), (qM 1, rI cy 900 vM_tape)]) (ws2 := (wX9_doorLine cy aM qM vM_68 vM_fresh vM_letters_52 vM_tape)) (kRunV (As := [.int r52]) (rest := []) ⟨hx, hb, hml, hown, ht0⟩ (kX9_placeHere l D cy _ aM qM vM_52 vM_fresh r52 r68 vM_68 hc68 _ rfl) (cwV 1 ht0 (gV wd818 wd819 wd820 wd744 wd821) rfl rfl rfl (by decide +kernel) ⟨Nat.le_of_ble_eq_true rfl, Nat.le_of_ble_eq_true rfl⟩) hK hN hP hD [0, 1] rfl (by decide) 0 8 rfl rfl rfl hl.1 rfl (Nat.le_of_ble_eq_true rfl) dX9_doorLine_68 ⟨Nat.zero_le _, Nat.zero_le _⟩) hP hD hS hA [0, 1] [2, 3] rfl rfl (by decide) (by decide) [2, 3, 0, 1] (by decide) rfl rfl (fun H locs hP hD hS => ?_)
          refine lv_istore (lv' := [(5, .int r68), (4, .int r52), (3, .int r35), (2, .int r21), (1, .int ((52 : Int32) + ((2 : Int32) * (vM_fresh (5 : Int32).toNatClampNeg)))), (0, .ref aM)]) hx hb dX9_doorLine_71 hl (by decide) rfl (fun ls hl => ?_)
          refine lv_iload_n hx hb dX9_doorLine_73 rfl (lv_at hl 2 rfl) ?_
          refine lv_iload hx hb dX9_doorLine_74 (lv_at hl 0 rfl) ?_
          refine lv_icmp_ne (tgt := 83) hx hb dX9_doorLine_76 (by decide) (fun c76 => ?_) (fun c76 => ?_)
          · have hok := k_neg c76 hok
            refine lv_iconst (v := 0) hx hb dX9_doorLine_83 (by decide) ?_
            exact J84 r35 r68 (0 : Int32) vM_letters_52 vM_68 H locs ls hP hD hS (lv_sub hl [5, 4, 2, 0] rfl) hok
          · have hok := k_pos c76 hok
            refine lv_iconst (v := 1) hx hb dX9_doorLine_79 (by decide) ?_
            refine lv_goto (tgt := 84) hx hb dX9_doorLine_80 (by decide) ?_
            exact J84 r35 r68 (1 : Int32) vM_letters_52 vM_68 H locs ls hP hD hS (lv_sub hl [5, 4, 2, 0] rfl) hok
        · have hok := k_neg c61 hok
          cases hok
          subst hQe; exact W.vret hx hb hr (fun t ht hW => ⟨⟨(), rfl, trivial, by rw [ht]; exact hP, va_K.moved hW.alike hK, hD⟩, hS.F ht⟩) hS.2.2 dX9_doorLine_64
      · have hok := k_neg c43 hok
        cases hok
        subst hQe; exact W.vret hx hb hr (fun t ht hW => ⟨⟨(), rfl, trivial, by rw [ht]; exact hP, va_K.moved hW.alike hK, hD⟩, hS.F ht⟩) hS.2.2 dX9_doorLine_46
    · have hok := k_neg c29 hok
      cases hok
      subst hQe; exact W.vret hx hb hr (fun t ht hW => ⟨⟨(), rfl, trivial, by rw [ht]; exact hP, va_K.moved hW.alike hK, hD⟩, hS.F ht⟩) hS.2.2 dX9_doorLine_32
  · have hok := k_neg c4 hok
    cases hok
    subst hQe; exact W.vret hx hb hr (fun t ht hW => ⟨⟨(), rfl, trivial, by rw [ht]; exact hP, va_K.moved hW.alike hK, hD⟩, hS.F ht⟩) hS.2.2 dX9_doorLine_7
def wsX9_thingLine : List Cond := .code yX9_thingLine cX9_thingLine 6 none :: W0
abbrev wX9_thingLine (cy : Nat → ClassId) (aM : Nat) (qM : Nat → Nat) (vM : Nat → Int32) (vM_fresh : Nat → Int32) (vM_letters : Nat → Int32) (vM_tape : Nat → Int32) : va_W := [(aM, oX9 vM qM), (qM 16, rI cy 224 vM_fresh), (qM 12, rI cy 8 vM_letters), (qM 1, rI cy 900 vM_tape)]
set_option maxHeartbeats 4000000 in
set_option maxRecDepth 100000 in
theorem kX9_thingLine (l : Launch) (D : va_G) (cy : Nat → ClassId) (ad : (Nat → Nat) × (Nat → Nat)) (sz : Nat) (aM : Nat) (qM : Nat → Nat) (vM : Nat → Int32) (vM_fresh : Nat → Int32) (vM_letters : Nat → Int32) (vM_tape : Nat → Int32) (z_vM : Nat → Int32) (z_vM_fresh : Nat → Int32) (z_vM_letters : Nat → Int32) (hok : fX9_thingLine vM vM_fresh vM_letters vM_tape = some (z_vM, z_vM_fresh, z_vM_letters)) (A : Nat → Prop) (hAe : va_A (wX9_thingLine cy aM qM vM vM_fresh vM_letters vM_tape) sz = A) : Met l yX9_thingLine wsX9_thingLine ({ frames := 8, cells := 0, slots := 0, locals := 173 } : Room) (kPreS D cy ad [.ref aM] (wX9_thingLine cy aM qM vM vM_fresh vM_letters vM_tape) sz A) (kQv D cy A (wX9_thingLine cy aM qM z_vM z_vM_fresh z_vM_letters vM_tape)) 0 0 A := by
  refine Met.ofW (cc := cX9_thingLine) (maxL := 6) (ret := none) (by decide) rfl ?_
  intro p e s m args below meth c s₁ B hml hv
  obtain ⟨rfl, ⟨hsz, hP, hK, hD0, hN⟩, hSt⟩ := hv
  have hx := B.exec
  have hb := B.bytes
  have hr := B.returns
  have ht0 : ∀ w ∈ W0, w.before _ s = true := fun w h => atoms_spec (ws := wsX9_thingLine) B.pre w (List.mem_cons_of_mem _ h)
  have hown : s.vm.findClass RX9 = some m.cls := findClass_of_methodNamed B.named
  have hlocks := B.notSynchronized
  subst hsz
  have hD : va_D A (wX9_thingLine cy aM qM vM vM_fresh vM_letters vM_tape) := by rw [← hAe]; exact hD0.self
  have hA : ∀ q : Nat, s.heap.size ≤ q → A q := fun q h => by rw [← hAe]; exact Or.inr h
  have hS : va_S A s.heap s.heap [] := va_S.rf
  have hl := lv_entry ([.ref aM]) (n := 6) (Nat.le_of_ble_eq_true rfl)
  rw [lg_entry_eq]
  generalize (lg_sl ([.ref aM]) ++ List.replicate (6 - (lg_sl ([.ref aM])).length) Slot.unset).toArray = ls at hl ⊢
  have hl : lv_has ls 6 [(0, .ref aM)] := hl
  generalize hQe : MQ below (kQv D cy A (wX9_thingLine cy aM qM z_vM z_vM_fresh z_vM_letters vM_tape)) ([.ref aM] : List Value).toArray s 0 0 A = Q
  have J261 : ∀ (vM_fresh_261 : Nat → Int32) (vM_letters_261 : Nat → Int32) (vM_261 : Nat → Int32), ∀ (H : Heap) (locs : List Loc) (ls : Array Slot), va_P D vwCl (wX9_thingLine cy aM qM vM_261 vM_fresh_261 vM_letters_261 vM_tape) H → va_D A (wX9_thingLine cy aM qM vM_261 vM_fresh_261 vM_letters_261 vM_tape) → va_S A s.heap H locs → lv_has ls 6 [] → fX9_thingLine_J261 vM_fresh_261 vM_letters_261 vM_261 = some (z_vM, z_vM_fresh, z_vM_letters) → W p l e ({ frames := 8, cells := 0, slots := 0, locals := 173 } : Room) s m ([.ref aM] : List Value).toArray below meth c H locs 0 0 Q (F0 m 261 ls []) := by
    intro vM_fresh_261 vM_letters_261 vM_261 H locs ls hP hD hS hl hok
    unfold fX9_thingLine_J261 at hok
    cases hok
    subst hQe; exact W.vret hx hb hr (fun t ht hW => ⟨⟨(), rfl, trivial, by rw [ht]; exact hP, va_K.moved hW.alike hK, hD⟩, hS.F ht⟩) hS.2.2 dX9_thingLine_261
  have L146 : ∀ (fuel : Nat) (y2_146 : Int32) (y4_146 : Int32) (y5_146 : Int32) (vM_fresh_146 : Nat → Int32) (vM_letters_146 : Nat → Int32) (vM_146 : Nat → Int32), ∀ (H : Heap) (locs : List Loc) (ls : Array Slot), va_P D vwCl (wX9_thingLine cy aM qM vM_146 vM_fresh_146 vM_letters_146 vM_tape) H → va_D A (wX9_thingLine cy aM qM vM_146 vM_fresh_146 vM_letters_146 vM_tape) → va_S A s.heap H locs → lv_has ls 6 [(0, .ref aM), (1, .int ((62 : Int32) + ((3 : Int32) * (vM_fresh (3 : Int32).toNatClampNeg)))), (2, .int y2_146), (4, .int y4_146), (5, .int y5_146)] → lp (fX9_thingLine_B146 vM_fresh vM_tape) fuel (y2_146, y4_146, y5_146, vM_fresh_146, vM_letters_146, vM_146) = some (z_vM, z_vM_fresh, z_vM_letters) → W p l e ({ frames := 8, cells := 0, slots := 0, locals := 173 } : Room) s m ([.ref aM] : List Value).toArray below meth c H locs 0 0 Q (F0 m 146 ls []) := by
    intro fuel
    induction fuel with
    | zero => intro y2_146 y4_146 y5_146 vM_fresh_146 vM_letters_146 vM_146 H locs ls hP hD hS hl hok; exact (lp_0 hok).elim
    | succ fuel ih146 =>
      intro y2_146 y4_146 y5_146 vM_fresh_146 vM_letters_146 vM_146 H locs ls hP hD hS hl hok
      obtain ⟨y146, hok, hL146, hR146⟩ := lp_step hok
      have J192 : ∀ (vM_192 : Nat → Int32), ∀ (H : Heap) (locs : List Loc) (ls : Array Slot), va_P D vwCl (wX9_thingLine cy aM qM vM_192 vM_fresh_146 vM_letters_146 vM_tape) H → va_D A (wX9_thingLine cy aM qM vM_192 vM_fresh_146 vM_letters_146 vM_tape) → va_S A s.heap H locs → lv_has ls 6 [(0, .ref aM), (1, .int ((62 : Int32) + ((3 : Int32) * (vM_fresh (3 : Int32).toNatClampNeg)))), (2, .int y2_146), (4, .int y4_146), (5, .int y5_146)] → fX9_thingLine_J192 y2_146 y4_146 y5_146 vM_fresh_146 vM_letters_146 vM_192 = some y146 → W p l e ({ frames := 8, cells := 0, slots := 0, locals := 173 } : Room) s m ([.ref aM] : List Value).toArray below meth c H locs 0 0 Q (F0 m 192 ls []) := by
        intro vM_192 H locs ls hP hD hS hl hok
        unfold fX9_thingLine_J192 at hok
        refine lv_iinc (v := (y5_146 + 1)) (lv' := [(5, .int (y5_146 + 1)), (0, .ref aM), (1, .int ((62 : Int32) + ((3 : Int32) * (vM_fresh (3 : Int32).toNatClampNeg)))), (2, .int y2_146), (4, .int y4_146)]) hx hb dX9_thingLine_192 hl (k := 4) rfl (by first | rfl | decide) (by decide) rfl (fun ls hl => ?_)
        refine lv_goto (tgt := 146) hx hb dX9_thingLine_195 (by decide) ?_
        exact ih146 y2_146 y4_146 (y5_146 + 1) vM_fresh_146 vM_letters_146 vM_192 H locs ls hP hD hS (lv_sub hl [1, 2, 3, 4, 0] rfl) (hR146 _ (Option.some.inj hok).symm)
      unfold fX9_thingLine_B146 at hok
      try dsimp only at hok
      refine lv_iload hx hb dX9_thingLine_146 (lv_at hl 4 rfl) ?_
      refine lv_aload_n hx hb dX9_thingLine_148 rfl (lv_at hl 0 rfl) ?_
      refine va_get (D := D) (ci := 8) (v := .ref (qM 16)) (C := RX9) (T := TX9) (N := 29) hx hb ht0 niX9 hown hK hP 0 rfl rfl 16 (by decide) (ht0 _ wd778) (fun _ h9 => h9) rfl dX9_thingLine_149 ?_
      refine lv_iconst (v := 3) hx hb dX9_thingLine_152 (by decide) ?_
      obtain ⟨g153, hok⟩ := gd_some hok
      refine va_iald hx hb hK hP 1 0 rfl rfl (okI_in g153) dX9_thingLine_153 ?_
      refine lv_icmp_ge (tgt := 198) hx hb dX9_thingLine_154 (by decide) (fun c154 => ?_) (fun c154 => ?_)
      · have hok := k_pos c154 hok
        obtain ⟨e146, hok, he146⟩ := ex_some hok
        have hok := hok.trans (congrArg some (hL146 _ he146))
        refine lv_aload_n hx hb dX9_thingLine_198 rfl (lv_at hl 0 rfl) ?_
        refine va_get (D := D) (ci := 8) (v := .int (vM_146 13)) (C := RX9) (T := TX9) (N := 29) hx hb ht0 niX9 hown hK hP 0 rfl rfl 13 (by decide) (ht0 _ wd757) (fun _ h9 => h9) rfl dX9_thingLine_199 ?_
        refine lv_if_eq (tgt := 206) hx hb dX9_thingLine_202 (by decide) (fun c202 => ?_) (fun c202 => ?_)
        · have hok := k_pos c202 hok
          refine lv_aload_n hx hb dX9_thingLine_206 rfl (lv_at hl 0 rfl) ?_
          obtain ⟨⟨vM_207, vM_letters_207⟩, hc207, hok⟩ := k_bind hok
          try dsimp only at hok
          refine kCv (wc := (wX9_next cy aM qM vM_146 vM_tape vM_letters_146)) (wc2 := (wX9_next cy aM qM vM_207 vM_tape vM_letters_207)) (wr := [(qM 16, rI cy 224 vM_fresh_146)]) (ws2 := (wX9_thingLine cy aM qM vM_207 vM_fresh_146 vM_letters_207 vM_tape)) (kRunV (As := []) (rest := []) ⟨hx, hb, hml, hown, ht0⟩ (kX9_next l D cy _ aM qM vM_146 vM_tape vM_letters_146 vM_207 vM_letters_207 hc207 _ rfl) (cwV 0 ht0 (gV wd766 wd767 wd768 wd744 wd769) rfl rfl rfl (by decide +kernel) ⟨Nat.le_of_ble_eq_true rfl, Nat.le_of_ble_eq_true rfl⟩) hK hN hP hD [0, 3, 2] rfl (by decide) 0 8 rfl rfl rfl hl.1 rfl (Nat.le_of_ble_eq_true rfl) dX9_thingLine_207 ⟨Nat.zero_le _, Nat.zero_le _⟩) hP hD hS hA [0, 3, 2] [1] rfl rfl (by decide) (by decide) [1, 0, 3, 2] (by decide) rfl rfl (fun H locs hP hD hS => ?_)
          refine lv_aload_n hx hb dX9_thingLine_210 rfl (lv_at hl 0 rfl) ?_
          refine va_get (D := D) (ci := 8) (v := .ref (qM 16)) (C := RX9) (T := TX9) (N := 29) hx hb ht0 niX9 hown hK hP 0 rfl rfl 16 (by decide) (ht0 _ wd778) (fun _ h9 => h9) rfl dX9_thingLine_211 ?_
          refine lv_iload_n hx hb dX9_thingLine_214 rfl (lv_at hl 1 rfl) ?_
          refine lv_iload_n hx hb dX9_thingLine_215 rfl (lv_at hl 2 rfl) ?_
          obtain ⟨g216, hok⟩ := gd_some hok
          refine va_iast hx hb hK hP hD hS 1 0 rfl rfl (okI_in g216) dX9_thingLine_216 (fun H locs hP hD hS => ?_)
          have hP : va_P D vwCl (wX9_thingLine cy aM qM vM_207 (upd vM_fresh_146 ((62 : Int32) + ((3 : Int32) * (vM_fresh (3 : Int32).toNatClampNeg))).toNatClampNeg y2_146) vM_letters_207 vM_tape) H := hP
          have hD : va_D A (wX9_thingLine cy aM qM vM_207 (upd vM_fresh_146 ((62 : Int32) + ((3 : Int32) * (vM_fresh (3 : Int32).toNatClampNeg))).toNatClampNeg y2_146) vM_letters_207 vM_tape) := hD
          refine lv_aload_n hx hb dX9_thingLine_217 rfl (lv_at hl 0 rfl) ?_
          refine va_get (D := D) (ci := 8) (v := .ref (qM 16)) (C := RX9) (T := TX9) (N := 29) hx hb ht0 niX9 hown hK hP 0 rfl rfl 16 (by decide) (ht0 _ wd778) (fun _ h9 => h9) rfl dX9_thingLine_218 ?_
          refine lv_iload_n hx hb dX9_thingLine_221 rfl (lv_at hl 1 rfl) ?_
          refine lv_iconst (v := 1) hx hb dX9_thingLine_222 (by decide) ?_
          refine lv_iadd hx hb dX9_thingLine_223 ?_
          refine lv_iload hx hb dX9_thingLine_224 (lv_at hl 3 rfl) ?_
          obtain ⟨g226, hok⟩ := gd_some hok
          refine va_iast hx hb hK hP hD hS 1 0 rfl rfl (okI_in g226) dX9_thingLine_226 (fun H locs hP hD hS => ?_)
          have hP : va_P D vwCl (wX9_thingLine cy aM qM vM_207 (upd (upd vM_fresh_146 ((62 : Int32) + ((3 : Int32) * (vM_fresh (3 : Int32).toNatClampNeg))).toNatClampNeg y2_146) (((62 : Int32) + ((3 : Int32) * (vM_fresh (3 : Int32).toNatClampNeg))) + (1 : Int32)).toNatClampNeg y4_146) vM_letters_207 vM_tape) H := hP
          have hD : va_D A (wX9_thingLine cy aM qM vM_207 (upd (upd vM_fresh_146 ((62 : Int32) + ((3 : Int32) * (vM_fresh (3 : Int32).toNatClampNeg))).toNatClampNeg y2_146) (((62 : Int32) + ((3 : Int32) * (vM_fresh (3 : Int32).toNatClampNeg))) + (1 : Int32)).toNatClampNeg y4_146) vM_letters_207 vM_tape) := hD
          refine lv_aload_n hx hb dX9_thingLine_227 rfl (lv_at hl 0 rfl) ?_
          refine va_get (D := D) (ci := 8) (v := .ref (qM 16)) (C := RX9) (T := TX9) (N := 29) hx hb ht0 niX9 hown hK hP 0 rfl rfl 16 (by decide) (ht0 _ wd778) (fun _ h9 => h9) rfl dX9_thingLine_228 ?_
          refine lv_iload_n hx hb dX9_thingLine_231 rfl (lv_at hl 1 rfl) ?_
          refine lv_iconst (v := 2) hx hb dX9_thingLine_232 (by decide) ?_
          refine lv_iadd hx hb dX9_thingLine_233 ?_
          refine lv_aload_n hx hb dX9_thingLine_234 rfl (lv_at hl 0 rfl) ?_
          refine va_ldcS (own := RX9) (tx := "size") (index := 234) (q := ad.1 19) hx hb hown (hSt.2.1 (RX9, 234, "size", 19) (List.mem_of_getElem? (i := 41) rfl)) dX9_thingLine_235 ?_
          refine lv_iconst (v := 1) hx hb dX9_thingLine_237 (by decide) ?_
          refine lv_bipush (v := 9) hx hb dX9_thingLine_238 (by decide) ?_
          obtain ⟨⟨r240, vM_240, vM_letters_240⟩, hc240, hok⟩ := k_bind hok
          try dsimp only at hok
          refine kCi (wc := (wX9_after cy aM qM vM_207 vM_letters_207 vM_tape)) (wc2 := (wX9_after cy aM qM vM_240 vM_letters_240 vM_tape)) (wr := [(qM 16, rI cy 224 (upd (upd vM_fresh_146 ((62 : Int32) + ((3 : Int32) * (vM_fresh (3 : Int32).toNatClampNeg))).toNatClampNeg y2_146) (((62 : Int32) + ((3 : Int32) * (vM_fresh (3 : Int32).toNatClampNeg))) + (1 : Int32)).toNatClampNeg y4_146))]) (ws2 := (wX9_thingLine cy aM qM vM_240 (upd (upd vM_fresh_146 ((62 : Int32) + ((3 : Int32) * (vM_fresh (3 : Int32).toNatClampNeg))).toNatClampNeg y2_146) (((62 : Int32) + ((3 : Int32) * (vM_fresh (3 : Int32).toNatClampNeg))) + (1 : Int32)).toNatClampNeg y4_146) vM_letters_240 vM_tape)) (kRunVS (As := [.ref (ad.1 19), .int 1, .int 9]) (rest := [.int (((62 : Int32) + ((3 : Int32) * (vM_fresh (3 : Int32).toNatClampNeg))) + (2 : Int32)), .ref (qM 16)]) ⟨hx, hb, hml, hown, ht0⟩ (kX9_after l D cy ad _ aM qM vM_207 vM_letters_207 vM_tape 19 (1 : Int32) (9 : Int32) r240 vM_240 vM_letters_240 hc240 _ rfl) (cwV 3 ht0 (gV wd806 wd807 wd808 wd744 wd809) rfl rfl rfl (by decide +kernel) ⟨Nat.le_of_ble_eq_true rfl, Nat.le_of_ble_eq_true rfl⟩) hK hN hP hD hSt hS hA [0, 2, 3] rfl (by decide) 0 8 rfl rfl rfl hl.1 rfl (Nat.le_of_ble_eq_true rfl) dX9_thingLine_240 ⟨Nat.zero_le _, Nat.zero_le _⟩) hP hD hS hA [0, 2, 3] [1] rfl rfl (by decide) (by decide) [1, 0, 2, 3] (by decide) rfl rfl (fun H locs hP hD hS => ?_)
          obtain ⟨g243, hok⟩ := gd_some hok
          refine va_iast hx hb hK hP hD hS 1 0 rfl rfl (okI_in g243) dX9_thingLine_243 (fun H locs hP hD hS => ?_)
          have hP : va_P D vwCl (wX9_thingLine cy aM qM vM_240 (upd (upd (upd vM_fresh_146 ((62 : Int32) + ((3 : Int32) * (vM_fresh (3 : Int32).toNatClampNeg))).toNatClampNeg y2_146) (((62 : Int32) + ((3 : Int32) * (vM_fresh (3 : Int32).toNatClampNeg))) + (1 : Int32)).toNatClampNeg y4_146) (((62 : Int32) + ((3 : Int32) * (vM_fresh (3 : Int32).toNatClampNeg))) + (2 : Int32)).toNatClampNeg r240) vM_letters_240 vM_tape) H := hP
          have hD : va_D A (wX9_thingLine cy aM qM vM_240 (upd (upd (upd vM_fresh_146 ((62 : Int32) + ((3 : Int32) * (vM_fresh (3 : Int32).toNatClampNeg))).toNatClampNeg y2_146) (((62 : Int32) + ((3 : Int32) * (vM_fresh (3 : Int32).toNatClampNeg))) + (1 : Int32)).toNatClampNeg y4_146) (((62 : Int32) + ((3 : Int32) * (vM_fresh (3 : Int32).toNatClampNeg))) + (2 : Int32)).toNatClampNeg r240) vM_letters_240 vM_tape) := hD
          refine lv_aload_n hx hb dX9_thingLine_244 rfl (lv_at hl 0 rfl) ?_
          refine va_get (D := D) (ci := 8) (v := .int (vM_240 13)) (C := RX9) (T := TX9) (N := 29) hx hb ht0 niX9 hown hK hP 0 rfl rfl 13 (by decide) (ht0 _ wd757) (fun _ h9 => h9) rfl dX9_thingLine_245 ?_
          refine lv_if_ne (tgt := 261) hx hb dX9_thingLine_248 (by decide) (fun c248 => ?_) (fun c248 => ?_)
          · have hok := k_neg c248 hok
            exact J261 (upd (upd (upd vM_fresh_146 ((62 : Int32) + ((3 : Int32) * (vM_fresh (3 : Int32).toNatClampNeg))).toNatClampNeg y2_146) (((62 : Int32) + ((3 : Int32) * (vM_fresh (3 : Int32).toNatClampNeg))) + (1 : Int32)).toNatClampNeg y4_146) (((62 : Int32) + ((3 : Int32) * (vM_fresh (3 : Int32).toNatClampNeg))) + (2 : Int32)).toNatClampNeg r240) vM_letters_240 vM_240 H locs ls hP hD hS (lv_sub hl [] rfl) hok
          · have hok := k_pos c248 hok
            refine lv_aload_n hx hb dX9_thingLine_251 rfl (lv_at hl 0 rfl) ?_
            refine va_get (D := D) (ci := 8) (v := .ref (qM 16)) (C := RX9) (T := TX9) (N := 29) hx hb ht0 niX9 hown hK hP 0 rfl rfl 16 (by decide) (ht0 _ wd778) (fun _ h9 => h9) rfl dX9_thingLine_252 ?_
            refine lv_iconst (v := 3) hx hb dX9_thingLine_255 (by decide) ?_
            refine lv_dup2_11 hx hb dX9_thingLine_256 rfl rfl ?_
            obtain ⟨g257, hok⟩ := gd_some hok
            refine va_iald hx hb hK hP 1 0 rfl rfl (okI_in g257) dX9_thingLine_257 ?_
            refine lv_iconst (v := 1) hx hb dX9_thingLine_258 (by decide) ?_
            refine lv_iadd hx hb dX9_thingLine_259 ?_
            obtain ⟨g260, hok⟩ := gd_some hok
            refine va_iast hx hb hK hP hD hS 1 0 rfl rfl (okI_in g260) dX9_thingLine_260 (fun H locs hP hD hS => ?_)
            have hP : va_P D vwCl (wX9_thingLine cy aM qM vM_240 (upd (upd (upd (upd vM_fresh_146 ((62 : Int32) + ((3 : Int32) * (vM_fresh (3 : Int32).toNatClampNeg))).toNatClampNeg y2_146) (((62 : Int32) + ((3 : Int32) * (vM_fresh (3 : Int32).toNatClampNeg))) + (1 : Int32)).toNatClampNeg y4_146) (((62 : Int32) + ((3 : Int32) * (vM_fresh (3 : Int32).toNatClampNeg))) + (2 : Int32)).toNatClampNeg r240) (3 : Int32).toNatClampNeg (((upd (upd (upd vM_fresh_146 ((62 : Int32) + ((3 : Int32) * (vM_fresh (3 : Int32).toNatClampNeg))).toNatClampNeg y2_146) (((62 : Int32) + ((3 : Int32) * (vM_fresh (3 : Int32).toNatClampNeg))) + (1 : Int32)).toNatClampNeg y4_146) (((62 : Int32) + ((3 : Int32) * (vM_fresh (3 : Int32).toNatClampNeg))) + (2 : Int32)).toNatClampNeg r240) (3 : Int32).toNatClampNeg) + (1 : Int32))) vM_letters_240 vM_tape) H := hP
            have hD : va_D A (wX9_thingLine cy aM qM vM_240 (upd (upd (upd (upd vM_fresh_146 ((62 : Int32) + ((3 : Int32) * (vM_fresh (3 : Int32).toNatClampNeg))).toNatClampNeg y2_146) (((62 : Int32) + ((3 : Int32) * (vM_fresh (3 : Int32).toNatClampNeg))) + (1 : Int32)).toNatClampNeg y4_146) (((62 : Int32) + ((3 : Int32) * (vM_fresh (3 : Int32).toNatClampNeg))) + (2 : Int32)).toNatClampNeg r240) (3 : Int32).toNatClampNeg (((upd (upd (upd vM_fresh_146 ((62 : Int32) + ((3 : Int32) * (vM_fresh (3 : Int32).toNatClampNeg))).toNatClampNeg y2_146) (((62 : Int32) + ((3 : Int32) * (vM_fresh (3 : Int32).toNatClampNeg))) + (1 : Int32)).toNatClampNeg y4_146) (((62 : Int32) + ((3 : Int32) * (vM_fresh (3 : Int32).toNatClampNeg))) + (2 : Int32)).toNatClampNeg r240) (3 : Int32).toNatClampNeg) + (1 : Int32))) vM_letters_240 vM_tape) := hD
            exact J261 (upd (upd (upd (upd vM_fresh_146 ((62 : Int32) + ((3 : Int32) * (vM_fresh (3 : Int32).toNatClampNeg))).toNatClampNeg y2_146) (((62 : Int32) + ((3 : Int32) * (vM_fresh (3 : Int32).toNatClampNeg))) + (1 : Int32)).toNatClampNeg y4_146) (((62 : Int32) + ((3 : Int32) * (vM_fresh (3 : Int32).toNatClampNeg))) + (2 : Int32)).toNatClampNeg r240) (3 : Int32).toNatClampNeg (((upd (upd (upd vM_fresh_146 ((62 : Int32) + ((3 : Int32) * (vM_fresh (3 : Int32).toNatClampNeg))).toNatClampNeg y2_146) (((62 : Int32) + ((3 : Int32) * (vM_fresh (3 : Int32).toNatClampNeg))) + (1 : Int32)).toNatClampNeg y4_146) (((62 : Int32) + ((3 : Int32) * (vM_fresh (3 : Int32).toNatClampNeg))) + (2 : Int32)).toNatClampNeg r240) (3 : Int32).toNatClampNeg) + (1 : Int32))) vM_letters_240 vM_240 H locs ls hP hD hS (lv_sub hl [] rfl) hok
        · have hok := k_neg c202 hok
          cases hok
          subst hQe; exact W.vret hx hb hr (fun t ht hW => ⟨⟨(), rfl, trivial, by rw [ht]; exact hP, va_K.moved hW.alike hK, hD⟩, hS.F ht⟩) hS.2.2 dX9_thingLine_205
      · have hok := k_neg c154 hok
        refine lv_aload_n hx hb dX9_thingLine_157 rfl (lv_at hl 0 rfl) ?_
        refine va_get (D := D) (ci := 8) (v := .int (vM_146 13)) (C := RX9) (T := TX9) (N := 29) hx hb ht0 niX9 hown hK hP 0 rfl rfl 13 (by decide) (ht0 _ wd757) (fun _ h9 => h9) rfl dX9_thingLine_158 ?_
        refine lv_if_ne (tgt := 192) hx hb dX9_thingLine_161 (by decide) (fun c161 => ?_) (fun c161 => ?_)
        · have hok := k_neg c161 hok
          exact J192 vM_146 H locs ls hP hD hS (lv_sub hl [0, 1, 2, 3, 4] rfl) hok
        · have hok := k_pos c161 hok
          refine lv_aload_n hx hb dX9_thingLine_164 rfl (lv_at hl 0 rfl) ?_
          refine va_get (D := D) (ci := 8) (v := .ref (qM 16)) (C := RX9) (T := TX9) (N := 29) hx hb ht0 niX9 hown hK hP 0 rfl rfl 16 (by decide) (ht0 _ wd778) (fun _ h9 => h9) rfl dX9_thingLine_165 ?_
          refine lv_bipush (v := 62) hx hb dX9_thingLine_168 (by decide) ?_
          refine lv_iconst (v := 3) hx hb dX9_thingLine_170 (by decide) ?_
          refine lv_iload hx hb dX9_thingLine_171 (lv_at hl 4 rfl) ?_
          refine lv_imul hx hb dX9_thingLine_173 ?_
          refine lv_iadd hx hb dX9_thingLine_174 ?_
          refine lv_iconst (v := 1) hx hb dX9_thingLine_175 (by decide) ?_
          refine lv_iadd hx hb dX9_thingLine_176 ?_
          obtain ⟨g177, hok⟩ := gd_some hok
          refine va_iald hx hb hK hP 1 0 rfl rfl (okI_in g177) dX9_thingLine_177 ?_
          refine lv_iload hx hb dX9_thingLine_178 (lv_at hl 3 rfl) ?_
          refine lv_icmp_ne (tgt := 192) hx hb dX9_thingLine_180 (by decide) (fun c180 => ?_) (fun c180 => ?_)
          · have hok := k_neg c180 hok
            exact J192 vM_146 H locs ls hP hD hS (lv_sub hl [0, 1, 2, 3, 4] rfl) hok
          · have hok := k_pos c180 hok
            refine lv_aload_n hx hb dX9_thingLine_183 rfl (lv_at hl 0 rfl) ?_
            refine lv_iconst (v := 3) hx hb dX9_thingLine_184 (by decide) ?_
            refine lv_aload_n hx hb dX9_thingLine_185 rfl (lv_at hl 0 rfl) ?_
            refine va_get (D := D) (ci := 8) (v := .int (vM_146 4)) (C := RX9) (T := TX9) (N := 29) hx hb ht0 niX9 hown hK hP 0 rfl rfl 4 (by decide) (ht0 _ wd756) (fun _ h9 => h9) rfl dX9_thingLine_186 ?_
            obtain ⟨vM_189, hc189, hok⟩ := k_bind hok
            refine kCv (wc := (wX9_wrong cy aM qM vM_146)) (wc2 := (wX9_wrong cy aM qM vM_189)) (wr := [(qM 16, rI cy 224 vM_fresh_146), (qM 12, rI cy 8 vM_letters_146), (qM 1, rI cy 900 vM_tape)]) (ws2 := (wX9_thingLine cy aM qM vM_189 vM_fresh_146 vM_letters_146 vM_tape)) (kRunV (As := [.int 3, .int (vM_146 4)]) (rest := []) ⟨hx, hb, hml, hown, ht0⟩ (kX9_wrong l D cy _ aM qM vM_146 (3 : Int32) (vM_146 4) vM_189 hc189 _ rfl) (cwV 2 ht0 (gV wd774 wd775 wd776 wd744 wd777) rfl rfl rfl (by decide +kernel) ⟨Nat.le_of_ble_eq_true rfl, Nat.le_of_ble_eq_true rfl⟩) hK hN hP hD [0] rfl (by decide) 0 8 rfl rfl rfl hl.1 rfl (Nat.le_of_ble_eq_true rfl) dX9_thingLine_189 ⟨Nat.zero_le _, Nat.zero_le _⟩) hP hD hS hA [0] [1, 2, 3] rfl rfl (by decide) (by decide) [3, 0, 1, 2] (by decide) rfl rfl (fun H locs hP hD hS => ?_)
            exact J192 vM_189 H locs ls hP hD hS (lv_sub hl [0, 1, 2, 3, 4] rfl) hok
  have J99 : ∀ (y2_99 : Int32) (vM_fresh_99 : Nat → Int32) (vM_letters_99 : Nat → Int32) (vM_99 : Nat → Int32), ∀ (H : Heap) (locs : List Loc) (ls : Array Slot), va_P D vwCl (wX9_thingLine cy aM qM vM_99 vM_fresh_99 vM_letters_99 vM_tape) H → va_D A (wX9_thingLine cy aM qM vM_99 vM_fresh_99 vM_letters_99 vM_tape) → va_S A s.heap H locs → lv_has ls 6 [(0, .ref aM), (1, .int ((62 : Int32) + ((3 : Int32) * (vM_fresh (3 : Int32).toNatClampNeg)))), (2, .int y2_99)] → fX9_thingLine_J99 vM_fresh vM_tape y2_99 vM_fresh_99 vM_letters_99 vM_99 = some (z_vM, z_vM_fresh, z_vM_letters) → W p l e ({ frames := 8, cells := 0, slots := 0, locals := 173 } : Room) s m ([.ref aM] : List Value).toArray below meth c H locs 0 0 Q (F0 m 99 ls []) := by
    intro y2_99 vM_fresh_99 vM_letters_99 vM_99 H locs ls hP hD hS hl hok
    unfold fX9_thingLine_J99 at hok
    refine lv_aload_n hx hb dX9_thingLine_99 rfl (lv_at hl 0 rfl) ?_
    refine va_get (D := D) (ci := 8) (v := .int (vM_99 13)) (C := RX9) (T := TX9) (N := 29) hx hb ht0 niX9 hown hK hP 0 rfl rfl 13 (by decide) (ht0 _ wd757) (fun _ h9 => h9) rfl dX9_thingLine_100 ?_
    refine lv_if_eq (tgt := 107) hx hb dX9_thingLine_103 (by decide) (fun c103 => ?_) (fun c103 => ?_)
    · have hok := k_pos c103 hok
      refine lv_aload_n hx hb dX9_thingLine_107 rfl (lv_at hl 0 rfl) ?_
      obtain ⟨⟨vM_108, vM_letters_108⟩, hc108, hok⟩ := k_bind hok
      try dsimp only at hok
      refine kCv (wc := (wX9_next cy aM qM vM_99 vM_tape vM_letters_99)) (wc2 := (wX9_next cy aM qM vM_108 vM_tape vM_letters_108)) (wr := [(qM 16, rI cy 224 vM_fresh_99)]) (ws2 := (wX9_thingLine cy aM qM vM_108 vM_fresh_99 vM_letters_108 vM_tape)) (kRunV (As := []) (rest := []) ⟨hx, hb, hml, hown, ht0⟩ (kX9_next l D cy _ aM qM vM_99 vM_tape vM_letters_99 vM_108 vM_letters_108 hc108 _ rfl) (cwV 0 ht0 (gV wd766 wd767 wd768 wd744 wd769) rfl rfl rfl (by decide +kernel) ⟨Nat.le_of_ble_eq_true rfl, Nat.le_of_ble_eq_true rfl⟩) hK hN hP hD [0, 3, 2] rfl (by decide) 0 8 rfl rfl rfl hl.1 rfl (Nat.le_of_ble_eq_true rfl) dX9_thingLine_108 ⟨Nat.zero_le _, Nat.zero_le _⟩) hP hD hS hA [0, 3, 2] [1] rfl rfl (by decide) (by decide) [1, 0, 3, 2] (by decide) rfl rfl (fun H locs hP hD hS => ?_)
      refine lv_aload_n hx hb dX9_thingLine_111 rfl (lv_at hl 0 rfl) ?_
      refine va_ldcS (own := RX9) (tx := "in") (index := 232) (q := ad.1 9) hx hb hown (hSt.2.1 (RX9, 232, "in", 9) (List.mem_of_getElem? (i := 39) rfl)) dX9_thingLine_112 ?_
      obtain ⟨⟨vM_114, vM_letters_114⟩, hc114, hok⟩ := k_bind hok
      try dsimp only at hok
      refine kCv (wc := (wX9_must cy aM qM vM_108 vM_letters_108 vM_tape)) (wc2 := (wX9_must cy aM qM vM_114 vM_letters_114 vM_tape)) (wr := [(qM 16, rI cy 224 vM_fresh_99)]) (ws2 := (wX9_thingLine cy aM qM vM_114 vM_fresh_99 vM_letters_114 vM_tape)) (kRunVS (As := [.ref (ad.1 9)]) (rest := []) ⟨hx, hb, hml, hown, ht0⟩ (kX9_must l D cy ad _ aM qM vM_108 vM_letters_108 vM_tape 9 vM_114 vM_letters_114 hc114 _ rfl) (cwV 1 ht0 (gV wd798 wd799 wd800 wd744 wd801) rfl rfl rfl (by decide +kernel) ⟨Nat.le_of_ble_eq_true rfl, Nat.le_of_ble_eq_true rfl⟩) hK hN hP hD hSt hS hA [0, 2, 3] rfl (by decide) 0 8 rfl rfl rfl hl.1 rfl (Nat.le_of_ble_eq_true rfl) dX9_thingLine_114 ⟨Nat.zero_le _, Nat.zero_le _⟩) hP hD hS hA [0, 2, 3] [1] rfl rfl (by decide) (by decide) [1, 0, 2, 3] (by decide) rfl rfl (fun H locs hP hD hS => ?_)
      refine lv_aload_n hx hb dX9_thingLine_117 rfl (lv_at hl 0 rfl) ?_
      obtain ⟨⟨r118, vM_118, vM_letters_118⟩, hc118, hok⟩ := k_bind hok
      try dsimp only at hok
      refine kCi (wc := (wX9_ringName cy aM qM vM_114 vM_letters_114 vM_fresh_99 vM_tape)) (wc2 := (wX9_ringName cy aM qM vM_118 vM_letters_118 vM_fresh_99 vM_tape)) (wr := []) (ws2 := (wX9_thingLine cy aM qM vM_118 vM_fresh_99 vM_letters_118 vM_tape)) (kRunVS (As := []) (rest := []) ⟨hx, hb, hml, hown, ht0⟩ (kX9_ringName l D cy ad _ aM qM vM_114 vM_letters_114 vM_fresh_99 vM_tape r118 vM_118 vM_letters_118 hc118 _ rfl) (cwV 0 ht0 (gV wd814 wd815 wd816 wd744 wd817) rfl rfl rfl (by decide +kernel) ⟨Nat.le_of_ble_eq_true rfl, Nat.le_of_ble_eq_true rfl⟩) hK hN hP hD hSt hS hA [0, 2, 1, 3] rfl (by decide) 0 8 rfl rfl rfl hl.1 rfl (Nat.le_of_ble_eq_true rfl) dX9_thingLine_118 ⟨Nat.zero_le _, Nat.zero_le _⟩) hP hD hS hA [0, 2, 1, 3] [] rfl rfl (by decide) (by decide) [0, 2, 1, 3] (by decide) rfl rfl (fun H locs hP hD hS => ?_)
      refine lv_istore_n (lv' := [(3, .int r118), (0, .ref aM), (1, .int ((62 : Int32) + ((3 : Int32) * (vM_fresh (3 : Int32).toNatClampNeg)))), (2, .int y2_99)]) hx hb dX9_thingLine_121 rfl hl (by decide) rfl (fun ls hl => ?_)
      refine lv_aload_n hx hb dX9_thingLine_122 rfl (lv_at hl 1 rfl) ?_
      refine va_ldcS (own := RX9) (tx := "at") (index := 233) (q := ad.1 0) hx hb hown (hSt.2.1 (RX9, 233, "at", 0) (List.mem_of_getElem? (i := 40) rfl)) dX9_thingLine_123 ?_
      obtain ⟨⟨vM_125, vM_letters_125⟩, hc125, hok⟩ := k_bind hok
      try dsimp only at hok
      refine kCv (wc := (wX9_must cy aM qM vM_118 vM_letters_118 vM_tape)) (wc2 := (wX9_must cy aM qM vM_125 vM_letters_125 vM_tape)) (wr := [(qM 16, rI cy 224 vM_fresh_99)]) (ws2 := (wX9_thingLine cy aM qM vM_125 vM_fresh_99 vM_letters_125 vM_tape)) (kRunVS (As := [.ref (ad.1 0)]) (rest := []) ⟨hx, hb, hml, hown, ht0⟩ (kX9_must l D cy ad _ aM qM vM_118 vM_letters_118 vM_tape 0 vM_125 vM_letters_125 hc125 _ rfl) (cwV 1 ht0 (gV wd798 wd799 wd800 wd744 wd801) rfl rfl rfl (by decide +kernel) ⟨Nat.le_of_ble_eq_true rfl, Nat.le_of_ble_eq_true rfl⟩) hK hN hP hD hSt hS hA [0, 2, 3] rfl (by decide) 0 8 rfl rfl rfl hl.1 rfl (Nat.le_of_ble_eq_true rfl) dX9_thingLine_125 ⟨Nat.zero_le _, Nat.zero_le _⟩) hP hD hS hA [0, 2, 3] [1] rfl rfl (by decide) (by decide) [1, 0, 2, 3] (by decide) rfl rfl (fun H locs hP hD hS => ?_)
      refine lv_aload_n hx hb dX9_thingLine_128 rfl (lv_at hl 1 rfl) ?_
      refine va_get (D := D) (ci := 8) (v := .int (vM_125 13)) (C := RX9) (T := TX9) (N := 29) hx hb ht0 niX9 hown hK hP 0 rfl rfl 13 (by decide) (ht0 _ wd757) (fun _ h9 => h9) rfl dX9_thingLine_129 ?_
      refine lv_if_eq (tgt := 136) hx hb dX9_thingLine_132 (by decide) (fun c132 => ?_) (fun c132 => ?_)
      · have hok := k_pos c132 hok
        refine lv_aload_n hx hb dX9_thingLine_136 rfl (lv_at hl 1 rfl) ?_
        refine lv_iload_n hx hb dX9_thingLine_137 rfl (lv_at hl 0 rfl) ?_
        obtain ⟨⟨r138, vM_138⟩, hc138, hok⟩ := k_bind hok
        try dsimp only at hok
        refine kCi (wc := (wX9_placeHere cy aM qM vM_125 vM_fresh_99)) (wc2 := (wX9_placeHere cy aM qM vM_138 vM_fresh_99)) (wr := [(qM 12, rI cy 8 vM_letters_125), (qM 1, rI cy 900 vM_tape)]) (ws2 := (wX9_thingLine cy aM qM vM_138 vM_fresh_99 vM_letters_125 vM_tape)) (kRunV (As := [.int r118]) (rest := []) ⟨hx, hb, hml, hown, ht0⟩ (kX9_placeHere l D cy _ aM qM vM_125 vM_fresh_99 r118 r138 vM_138 hc138 _ rfl) (cwV 1 ht0 (gV wd818 wd819 wd820 wd744 wd821) rfl rfl rfl (by decide +kernel) ⟨Nat.le_of_ble_eq_true rfl, Nat.le_of_ble_eq_true rfl⟩) hK hN hP hD [0, 1] rfl (by decide) 0 8 rfl rfl rfl hl.1 rfl (Nat.le_of_ble_eq_true rfl) dX9_thingLine_138 ⟨Nat.zero_le _, Nat.zero_le _⟩) hP hD hS hA [0, 1] [2, 3] rfl rfl (by decide) (by decide) [2, 3, 0, 1] (by decide) rfl rfl (fun H locs hP hD hS => ?_)
        refine lv_istore (lv' := [(4, .int r138), (3, .int r118), (0, .ref aM), (1, .int ((62 : Int32) + ((3 : Int32) * (vM_fresh (3 : Int32).toNatClampNeg)))), (2, .int y2_99)]) hx hb dX9_thingLine_141 hl (by decide) rfl (fun ls hl => ?_)
        refine lv_iconst (v := 0) hx hb dX9_thingLine_143 (by decide) ?_
        refine lv_istore (lv' := [(5, .int 0), (4, .int r138), (3, .int r118), (0, .ref aM), (1, .int ((62 : Int32) + ((3 : Int32) * (vM_fresh (3 : Int32).toNatClampNeg)))), (2, .int y2_99)]) hx hb dX9_thingLine_144 hl (by decide) rfl (fun ls hl => ?_)
        exact L146 5000 y2_99 r138 (0 : Int32) vM_fresh_99 vM_letters_125 vM_138 H locs ls hP hD hS (lv_sub hl [3, 4, 5, 1, 0] rfl) hok
      · have hok := k_neg c132 hok
        cases hok
        subst hQe; exact W.vret hx hb hr (fun t ht hW => ⟨⟨(), rfl, trivial, by rw [ht]; exact hP, va_K.moved hW.alike hK, hD⟩, hS.F ht⟩) hS.2.2 dX9_thingLine_135
    · have hok := k_neg c103 hok
      cases hok
      subst hQe; exact W.vret hx hb hr (fun t ht hW => ⟨⟨(), rfl, trivial, by rw [ht]; exact hP, va_K.moved hW.alike hK, hD⟩, hS.F ht⟩) hS.2.2 dX9_thingLine_106
  have J85 : ∀ (t0_85 : Int32) (vM_fresh_85 : Nat → Int32) (vM_letters_85 : Nat → Int32) (vM_85 : Nat → Int32), ∀ (H : Heap) (locs : List Loc) (ls : Array Slot), va_P D vwCl (wX9_thingLine cy aM qM vM_85 vM_fresh_85 vM_letters_85 vM_tape) H → va_D A (wX9_thingLine cy aM qM vM_85 vM_fresh_85 vM_letters_85 vM_tape) → va_S A s.heap H locs → lv_has ls 6 [(0, .ref aM), (1, .int ((62 : Int32) + ((3 : Int32) * (vM_fresh (3 : Int32).toNatClampNeg))))] → fX9_thingLine_J85 vM_fresh vM_tape t0_85 vM_fresh_85 vM_letters_85 vM_85 = some (z_vM, z_vM_fresh, z_vM_letters) → W p l e ({ frames := 8, cells := 0, slots := 0, locals := 173 } : Room) s m ([.ref aM] : List Value).toArray below meth c H locs 0 0 Q (F0 m 85 ls [.int t0_85]) := by
    intro t0_85 vM_fresh_85 vM_letters_85 vM_85 H locs ls hP hD hS hl hok
    unfold fX9_thingLine_J85 at hok
    refine lv_istore_n (lv' := [(2, .int t0_85), (0, .ref aM), (1, .int ((62 : Int32) + ((3 : Int32) * (vM_fresh (3 : Int32).toNatClampNeg))))]) hx hb dX9_thingLine_85 rfl hl (by decide) rfl (fun ls hl => ?_)
    refine lv_iload_n hx hb dX9_thingLine_86 rfl (lv_at hl 0 rfl) ?_
    refine lv_if_ge (tgt := 99) hx hb dX9_thingLine_87 (by decide) (fun c87 => ?_) (fun c87 => ?_)
    · have hok := k_pos c87 hok
      exact J99 t0_85 vM_fresh_85 vM_letters_85 vM_85 H locs ls hP hD hS (lv_sub hl [1, 2, 0] rfl) hok
    · have hok := k_neg c87 hok
      refine lv_aload_n hx hb dX9_thingLine_90 rfl (lv_at hl 1 rfl) ?_
      refine lv_iconst (v := 1) hx hb dX9_thingLine_91 (by decide) ?_
      refine lv_aload_n hx hb dX9_thingLine_92 rfl (lv_at hl 1 rfl) ?_
      refine va_get (D := D) (ci := 8) (v := .int (vM_85 4)) (C := RX9) (T := TX9) (N := 29) hx hb ht0 niX9 hown hK hP 0 rfl rfl 4 (by decide) (ht0 _ wd756) (fun _ h9 => h9) rfl dX9_thingLine_93 ?_
      obtain ⟨vM_96, hc96, hok⟩ := k_bind hok
      refine kCv (wc := (wX9_wrong cy aM qM vM_85)) (wc2 := (wX9_wrong cy aM qM vM_96)) (wr := [(qM 16, rI cy 224 vM_fresh_85), (qM 12, rI cy 8 vM_letters_85), (qM 1, rI cy 900 vM_tape)]) (ws2 := (wX9_thingLine cy aM qM vM_96 vM_fresh_85 vM_letters_85 vM_tape)) (kRunV (As := [.int 1, .int (vM_85 4)]) (rest := []) ⟨hx, hb, hml, hown, ht0⟩ (kX9_wrong l D cy _ aM qM vM_85 (1 : Int32) (vM_85 4) vM_96 hc96 _ rfl) (cwV 2 ht0 (gV wd774 wd775 wd776 wd744 wd777) rfl rfl rfl (by decide +kernel) ⟨Nat.le_of_ble_eq_true rfl, Nat.le_of_ble_eq_true rfl⟩) hK hN hP hD [0] rfl (by decide) 0 8 rfl rfl rfl hl.1 rfl (Nat.le_of_ble_eq_true rfl) dX9_thingLine_96 ⟨Nat.zero_le _, Nat.zero_le _⟩) hP hD hS hA [0] [1, 2, 3] rfl rfl (by decide) (by decide) [3, 0, 1, 2] (by decide) rfl rfl (fun H locs hP hD hS => ?_)
      exact J99 t0_85 vM_fresh_85 vM_letters_85 vM_96 H locs ls hP hD hS (lv_sub hl [1, 2, 0] rfl) hok
  unfold fX9_thingLine at hok
  obtain ⟨H, hH⟩ : ∃ H, H = s.heap := ⟨_, rfl⟩
  obtain ⟨locs, hlc⟩ : ∃ x : List Loc, x = [] := ⟨_, rfl⟩
  have hP : va_P D vwCl (wX9_thingLine cy aM qM vM vM_fresh vM_letters vM_tape) H := by rw [hH]; exact hP
  have hS : va_S A s.heap H locs := by rw [hH, hlc]; exact hS
  rw [show W p l e _ s m _ below meth c s.heap [] = W p l e _ s m _ below meth c H locs from by rw [hH, hlc]]
  refine lv_aload_n hx hb dX9_thingLine_0 rfl (lv_at hl 0 rfl) ?_
  refine va_get (D := D) (ci := 8) (v := .int (vM 13)) (C := RX9) (T := TX9) (N := 29) hx hb ht0 niX9 hown hK hP 0 rfl rfl 13 (by decide) (ht0 _ wd757) (fun _ h9 => h9) rfl dX9_thingLine_1 ?_
  refine lv_if_eq (tgt := 8) hx hb dX9_thingLine_4 (by decide) (fun c4 => ?_) (fun c4 => ?_)
  · have hok := k_pos c4 hok
    refine lv_bipush (v := 62) hx hb dX9_thingLine_8 (by decide) ?_
    refine lv_iconst (v := 3) hx hb dX9_thingLine_10 (by decide) ?_
    refine lv_aload_n hx hb dX9_thingLine_11 rfl (lv_at hl 0 rfl) ?_
    refine va_get (D := D) (ci := 8) (v := .ref (qM 16)) (C := RX9) (T := TX9) (N := 29) hx hb ht0 niX9 hown hK hP 0 rfl rfl 16 (by decide) (ht0 _ wd778) (fun _ h9 => h9) rfl dX9_thingLine_12 ?_
    refine lv_iconst (v := 3) hx hb dX9_thingLine_15 (by decide) ?_
    obtain ⟨g16, hok⟩ := gd_some hok
    refine va_iald hx hb hK hP 1 0 rfl rfl (okI_in g16) dX9_thingLine_16 ?_
    refine lv_imul hx hb dX9_thingLine_17 ?_
    refine lv_iadd hx hb dX9_thingLine_18 ?_
    refine lv_istore_n (lv' := [(1, .int ((62 : Int32) + ((3 : Int32) * (vM_fresh (3 : Int32).toNatClampNeg)))), (0, .ref aM)]) hx hb dX9_thingLine_19 rfl hl (by decide) rfl (fun ls hl => ?_)
    refine lv_aload_n hx hb dX9_thingLine_20 rfl (lv_at hl 1 rfl) ?_
    refine lv_iconst (v := 4) hx hb dX9_thingLine_21 (by decide) ?_
    refine lv_aload_n hx hb dX9_thingLine_22 rfl (lv_at hl 1 rfl) ?_
    refine va_get (D := D) (ci := 8) (v := .ref (qM 16)) (C := RX9) (T := TX9) (N := 29) hx hb ht0 niX9 hown hK hP 0 rfl rfl 16 (by decide) (ht0 _ wd778) (fun _ h9 => h9) rfl dX9_thingLine_23 ?_
    refine lv_iconst (v := 3) hx hb dX9_thingLine_26 (by decide) ?_
    obtain ⟨g27, hok⟩ := gd_some hok
    refine va_iald hx hb hK hP 1 0 rfl rfl (okI_in g27) dX9_thingLine_27 ?_
    refine lv_iadd hx hb dX9_thingLine_28 ?_
    obtain ⟨⟨vM_29, vM_letters_29, vM_fresh_29⟩, hc29, hok⟩ := k_bind hok
    try dsimp only at hok
    refine kCv (wc := (wX9_newName cy aM qM vM vM_letters vM_fresh vM_tape)) (wc2 := (wX9_newName cy aM qM vM_29 vM_letters_29 vM_fresh_29 vM_tape)) (wr := []) (ws2 := (wX9_thingLine cy aM qM vM_29 vM_fresh_29 vM_letters_29 vM_tape)) (kRunVS (As := [.int ((4 : Int32) + (vM_fresh (3 : Int32).toNatClampNeg))]) (rest := []) ⟨hx, hb, hml, hown, ht0⟩ (kX9_newName l D cy ad _ aM qM vM vM_letters vM_fresh vM_tape ((4 : Int32) + (vM_fresh (3 : Int32).toNatClampNeg)) vM_29 vM_letters_29 vM_fresh_29 hc29 _ rfl) (cwV 1 ht0 (gV wd810 wd811 wd812 wd744 wd813) rfl rfl rfl (by decide +kernel) ⟨Nat.le_of_ble_eq_true rfl, Nat.le_of_ble_eq_true rfl⟩) hK hN hP hD hSt hS hA [0, 2, 1, 3] rfl (by decide) 0 8 rfl rfl rfl hl.1 rfl (Nat.le_of_ble_eq_true rfl) dX9_thingLine_29 ⟨Nat.zero_le _, Nat.zero_le _⟩) hP hD hS hA [0, 2, 1, 3] [] rfl rfl (by decide) (by decide) [0, 2, 1, 3] (by decide) rfl rfl (fun H locs hP hD hS => ?_)
    refine lv_aload_n hx hb dX9_thingLine_32 rfl (lv_at hl 1 rfl) ?_
    refine va_ldcS (own := RX9) (tx := "plain") (index := 212) (q := ad.1 17) hx hb hown (hSt.2.1 (RX9, 212, "plain", 17) (List.mem_of_getElem? (i := 32) rfl)) dX9_thingLine_33 ?_
    obtain ⟨r35, hc35, hok⟩ := k_bind hok
    refine kCi (wc := (wX9_isWord cy aM qM vM_29 vM_letters_29)) (wc2 := (wX9_isWord cy aM qM vM_29 vM_letters_29)) (wr := [(qM 16, rI cy 224 vM_fresh_29), (qM 1, rI cy 900 vM_tape)]) (ws2 := (wX9_thingLine cy aM qM vM_29 vM_fresh_29 vM_letters_29 vM_tape)) (kRunVS (As := [.ref (ad.1 17)]) (rest := []) ⟨hx, hb, hml, hown, ht0⟩ (kX9_isWord l D cy ad _ aM qM vM_29 vM_letters_29 17 r35 hc35 _ rfl) (cwV 1 ht0 (gV wd762 wd763 wd764 wd744 wd765) rfl rfl rfl (by decide +kernel) ⟨Nat.le_of_ble_eq_true rfl, Nat.le_of_ble_eq_true rfl⟩) hK hN hP hD hSt hS hA [0, 2] rfl (by decide) 0 8 rfl rfl rfl hl.1 rfl (Nat.le_of_ble_eq_true rfl) dX9_thingLine_35 ⟨Nat.zero_le _, Nat.zero_le _⟩) hP hD hS hA [0, 2] [1, 3] rfl rfl (by decide) (by decide) [2, 0, 3, 1] (by decide) rfl rfl (fun H locs hP hD hS => ?_)
    refine lv_if_eq (tgt := 45) hx hb dX9_thingLine_38 (by decide) (fun c38 => ?_) (fun c38 => ?_)
    · have hok := k_pos c38 hok
      refine lv_aload_n hx hb dX9_thingLine_45 rfl (lv_at hl 1 rfl) ?_
      refine va_ldcS (own := RX9) (tx := "piano") (index := 226) (q := ad.1 15) hx hb hown (hSt.2.1 (RX9, 226, "piano", 15) (List.mem_of_getElem? (i := 36) rfl)) dX9_thingLine_46 ?_
      obtain ⟨r48, hc48, hok⟩ := k_bind hok
      refine kCi (wc := (wX9_isWord cy aM qM vM_29 vM_letters_29)) (wc2 := (wX9_isWord cy aM qM vM_29 vM_letters_29)) (wr := [(qM 16, rI cy 224 vM_fresh_29), (qM 1, rI cy 900 vM_tape)]) (ws2 := (wX9_thingLine cy aM qM vM_29 vM_fresh_29 vM_letters_29 vM_tape)) (kRunVS (As := [.ref (ad.1 15)]) (rest := []) ⟨hx, hb, hml, hown, ht0⟩ (kX9_isWord l D cy ad _ aM qM vM_29 vM_letters_29 15 r48 hc48 _ rfl) (cwV 1 ht0 (gV wd762 wd763 wd764 wd744 wd765) rfl rfl rfl (by decide +kernel) ⟨Nat.le_of_ble_eq_true rfl, Nat.le_of_ble_eq_true rfl⟩) hK hN hP hD hSt hS hA [0, 2] rfl (by decide) 0 8 rfl rfl rfl hl.1 rfl (Nat.le_of_ble_eq_true rfl) dX9_thingLine_48 ⟨Nat.zero_le _, Nat.zero_le _⟩) hP hD hS hA [0, 2] [1, 3] rfl rfl (by decide) (by decide) [2, 0, 3, 1] (by decide) rfl rfl (fun H locs hP hD hS => ?_)
      refine lv_if_eq (tgt := 58) hx hb dX9_thingLine_51 (by decide) (fun c51 => ?_) (fun c51 => ?_)
      · have hok := k_pos c51 hok
        refine lv_aload_n hx hb dX9_thingLine_58 rfl (lv_at hl 1 rfl) ?_
        refine va_ldcS (own := RX9) (tx := "broken") (index := 228) (q := ad.1 2) hx hb hown (hSt.2.1 (RX9, 228, "broken", 2) (List.mem_of_getElem? (i := 37) rfl)) dX9_thingLine_59 ?_
        obtain ⟨r61, hc61, hok⟩ := k_bind hok
        refine kCi (wc := (wX9_isWord cy aM qM vM_29 vM_letters_29)) (wc2 := (wX9_isWord cy aM qM vM_29 vM_letters_29)) (wr := [(qM 16, rI cy 224 vM_fresh_29), (qM 1, rI cy 900 vM_tape)]) (ws2 := (wX9_thingLine cy aM qM vM_29 vM_fresh_29 vM_letters_29 vM_tape)) (kRunVS (As := [.ref (ad.1 2)]) (rest := []) ⟨hx, hb, hml, hown, ht0⟩ (kX9_isWord l D cy ad _ aM qM vM_29 vM_letters_29 2 r61 hc61 _ rfl) (cwV 1 ht0 (gV wd762 wd763 wd764 wd744 wd765) rfl rfl rfl (by decide +kernel) ⟨Nat.le_of_ble_eq_true rfl, Nat.le_of_ble_eq_true rfl⟩) hK hN hP hD hSt hS hA [0, 2] rfl (by decide) 0 8 rfl rfl rfl hl.1 rfl (Nat.le_of_ble_eq_true rfl) dX9_thingLine_61 ⟨Nat.zero_le _, Nat.zero_le _⟩) hP hD hS hA [0, 2] [1, 3] rfl rfl (by decide) (by decide) [2, 0, 3, 1] (by decide) rfl rfl (fun H locs hP hD hS => ?_)
        refine lv_if_eq (tgt := 71) hx hb dX9_thingLine_64 (by decide) (fun c64 => ?_) (fun c64 => ?_)
        · have hok := k_pos c64 hok
          refine lv_aload_n hx hb dX9_thingLine_71 rfl (lv_at hl 1 rfl) ?_
          refine va_ldcS (own := RX9) (tx := "pet") (index := 230) (q := ad.1 14) hx hb hown (hSt.2.1 (RX9, 230, "pet", 14) (List.mem_of_getElem? (i := 38) rfl)) dX9_thingLine_72 ?_
          obtain ⟨r74, hc74, hok⟩ := k_bind hok
          refine kCi (wc := (wX9_isWord cy aM qM vM_29 vM_letters_29)) (wc2 := (wX9_isWord cy aM qM vM_29 vM_letters_29)) (wr := [(qM 16, rI cy 224 vM_fresh_29), (qM 1, rI cy 900 vM_tape)]) (ws2 := (wX9_thingLine cy aM qM vM_29 vM_fresh_29 vM_letters_29 vM_tape)) (kRunVS (As := [.ref (ad.1 14)]) (rest := []) ⟨hx, hb, hml, hown, ht0⟩ (kX9_isWord l D cy ad _ aM qM vM_29 vM_letters_29 14 r74 hc74 _ rfl) (cwV 1 ht0 (gV wd762 wd763 wd764 wd744 wd765) rfl rfl rfl (by decide +kernel) ⟨Nat.le_of_ble_eq_true rfl, Nat.le_of_ble_eq_true rfl⟩) hK hN hP hD hSt hS hA [0, 2] rfl (by decide) 0 8 rfl rfl rfl hl.1 rfl (Nat.le_of_ble_eq_true rfl) dX9_thingLine_74 ⟨Nat.zero_le _, Nat.zero_le _⟩) hP hD hS hA [0, 2] [1, 3] rfl rfl (by decide) (by decide) [2, 0, 3, 1] (by decide) rfl rfl (fun H locs hP hD hS => ?_)
          refine lv_if_eq (tgt := 84) hx hb dX9_thingLine_77 (by decide) (fun c77 => ?_) (fun c77 => ?_)
          · have hok := k_pos c77 hok
            refine lv_iconst (v := -1) hx hb dX9_thingLine_84 (by decide) ?_
            exact J85 (-1 : Int32) vM_fresh_29 vM_letters_29 vM_29 H locs ls hP hD hS (lv_sub hl [1, 0] rfl) hok
          · have hok := k_neg c77 hok
            refine lv_iconst (v := 3) hx hb dX9_thingLine_80 (by decide) ?_
            refine lv_goto (tgt := 85) hx hb dX9_thingLine_81 (by decide) ?_
            exact J85 (3 : Int32) vM_fresh_29 vM_letters_29 vM_29 H locs ls hP hD hS (lv_sub hl [1, 0] rfl) hok
        · have hok := k_neg c64 hok
          refine lv_iconst (v := 2) hx hb dX9_thingLine_67 (by decide) ?_
          refine lv_goto (tgt := 85) hx hb dX9_thingLine_68 (by decide) ?_
          exact J85 (2 : Int32) vM_fresh_29 vM_letters_29 vM_29 H locs ls hP hD hS (lv_sub hl [1, 0] rfl) hok
      · have hok := k_neg c51 hok
        refine lv_iconst (v := 1) hx hb dX9_thingLine_54 (by decide) ?_
        refine lv_goto (tgt := 85) hx hb dX9_thingLine_55 (by decide) ?_
        exact J85 (1 : Int32) vM_fresh_29 vM_letters_29 vM_29 H locs ls hP hD hS (lv_sub hl [1, 0] rfl) hok
    · have hok := k_neg c38 hok
      refine lv_iconst (v := 0) hx hb dX9_thingLine_41 (by decide) ?_
      refine lv_goto (tgt := 85) hx hb dX9_thingLine_42 (by decide) ?_
      exact J85 (0 : Int32) vM_fresh_29 vM_letters_29 vM_29 H locs ls hP hD hS (lv_sub hl [1, 0] rfl) hok
  · have hok := k_neg c4 hok
    cases hok
    subst hQe; exact W.vret hx hb hr (fun t ht hW => ⟨⟨(), rfl, trivial, by rw [ht]; exact hP, va_K.moved hW.alike hK, hD⟩, hS.F ht⟩) hS.2.2 dX9_thingLine_7
def wsX9_wantLine : List Cond := .code yX9_wantLine cX9_wantLine 3 none :: W0
abbrev wX9_wantLine (cy : Nat → ClassId) (aM : Nat) (qM : Nat → Nat) (vM : Nat → Int32) (vM_fresh : Nat → Int32) (vM_letters : Nat → Int32) (vM_tape : Nat → Int32) : va_W := [(aM, oX9 vM qM), (qM 16, rI cy 224 vM_fresh), (qM 12, rI cy 8 vM_letters), (qM 1, rI cy 900 vM_tape)]
set_option maxHeartbeats 4000000 in
set_option maxRecDepth 100000 in
theorem kX9_wantLine (l : Launch) (D : va_G) (cy : Nat → ClassId) (ad : (Nat → Nat) × (Nat → Nat)) (sz : Nat) (aM : Nat) (qM : Nat → Nat) (vM : Nat → Int32) (vM_fresh : Nat → Int32) (vM_letters : Nat → Int32) (vM_tape : Nat → Int32) (z_vM : Nat → Int32) (z_vM_fresh : Nat → Int32) (z_vM_letters : Nat → Int32) (hok : fX9_wantLine vM vM_fresh vM_letters vM_tape = some (z_vM, z_vM_fresh, z_vM_letters)) (A : Nat → Prop) (hAe : va_A (wX9_wantLine cy aM qM vM vM_fresh vM_letters vM_tape) sz = A) : Met l yX9_wantLine wsX9_wantLine ({ frames := 8, cells := 0, slots := 0, locals := 173 } : Room) (kPreS D cy ad [.ref aM] (wX9_wantLine cy aM qM vM vM_fresh vM_letters vM_tape) sz A) (kQv D cy A (wX9_wantLine cy aM qM z_vM z_vM_fresh z_vM_letters vM_tape)) 0 0 A := by
  refine Met.ofW (cc := cX9_wantLine) (maxL := 3) (ret := none) (by decide) rfl ?_
  intro p e s m args below meth c s₁ B hml hv
  obtain ⟨rfl, ⟨hsz, hP, hK, hD0, hN⟩, hSt⟩ := hv
  have hx := B.exec
  have hb := B.bytes
  have hr := B.returns
  have ht0 : ∀ w ∈ W0, w.before _ s = true := fun w h => atoms_spec (ws := wsX9_wantLine) B.pre w (List.mem_cons_of_mem _ h)
  have hown : s.vm.findClass RX9 = some m.cls := findClass_of_methodNamed B.named
  have hlocks := B.notSynchronized
  subst hsz
  have hD : va_D A (wX9_wantLine cy aM qM vM vM_fresh vM_letters vM_tape) := by rw [← hAe]; exact hD0.self
  have hA : ∀ q : Nat, s.heap.size ≤ q → A q := fun q h => by rw [← hAe]; exact Or.inr h
  have hS : va_S A s.heap s.heap [] := va_S.rf
  have hl := lv_entry ([.ref aM]) (n := 3) (Nat.le_of_ble_eq_true rfl)
  rw [lg_entry_eq]
  generalize (lg_sl ([.ref aM]) ++ List.replicate (3 - (lg_sl ([.ref aM])).length) Slot.unset).toArray = ls at hl ⊢
  have hl : lv_has ls 3 [(0, .ref aM)] := hl
  generalize hQe : MQ below (kQv D cy A (wX9_wantLine cy aM qM z_vM z_vM_fresh z_vM_letters vM_tape)) ([.ref aM] : List Value).toArray s 0 0 A = Q
  have J136 : ∀ (vM_fresh_136 : Nat → Int32) (vM_letters_136 : Nat → Int32) (vM_136 : Nat → Int32), ∀ (H : Heap) (locs : List Loc) (ls : Array Slot), va_P D vwCl (wX9_wantLine cy aM qM vM_136 vM_fresh_136 vM_letters_136 vM_tape) H → va_D A (wX9_wantLine cy aM qM vM_136 vM_fresh_136 vM_letters_136 vM_tape) → va_S A s.heap H locs → lv_has ls 3 [] → fX9_wantLine_J136 vM_fresh_136 vM_letters_136 vM_136 = some (z_vM, z_vM_fresh, z_vM_letters) → W p l e ({ frames := 8, cells := 0, slots := 0, locals := 173 } : Room) s m ([.ref aM] : List Value).toArray below meth c H locs 0 0 Q (F0 m 136 ls []) := by
    intro vM_fresh_136 vM_letters_136 vM_136 H locs ls hP hD hS hl hok
    unfold fX9_wantLine_J136 at hok
    cases hok
    subst hQe; exact W.vret hx hb hr (fun t ht hW => ⟨⟨(), rfl, trivial, by rw [ht]; exact hP, va_K.moved hW.alike hK, hD⟩, hS.F ht⟩) hS.2.2 dX9_wantLine_136
  unfold fX9_wantLine at hok
  obtain ⟨H, hH⟩ : ∃ H, H = s.heap := ⟨_, rfl⟩
  obtain ⟨locs, hlc⟩ : ∃ x : List Loc, x = [] := ⟨_, rfl⟩
  have hP : va_P D vwCl (wX9_wantLine cy aM qM vM vM_fresh vM_letters vM_tape) H := by rw [hH]; exact hP
  have hS : va_S A s.heap H locs := by rw [hH, hlc]; exact hS
  rw [show W p l e _ s m _ below meth c s.heap [] = W p l e _ s m _ below meth c H locs from by rw [hH, hlc]]
  refine lv_aload_n hx hb dX9_wantLine_0 rfl (lv_at hl 0 rfl) ?_
  refine va_get (D := D) (ci := 8) (v := .int (vM 13)) (C := RX9) (T := TX9) (N := 29) hx hb ht0 niX9 hown hK hP 0 rfl rfl 13 (by decide) (ht0 _ wd757) (fun _ h9 => h9) rfl dX9_wantLine_1 ?_
  refine lv_if_eq (tgt := 8) hx hb dX9_wantLine_4 (by decide) (fun c4 => ?_) (fun c4 => ?_)
  · have hok := k_pos c4 hok
    refine lv_bipush (v := 83) hx hb dX9_wantLine_8 (by decide) ?_
    refine lv_iconst (v := 4) hx hb dX9_wantLine_10 (by decide) ?_
    refine lv_aload_n hx hb dX9_wantLine_11 rfl (lv_at hl 0 rfl) ?_
    refine va_get (D := D) (ci := 8) (v := .ref (qM 16)) (C := RX9) (T := TX9) (N := 29) hx hb ht0 niX9 hown hK hP 0 rfl rfl 16 (by decide) (ht0 _ wd778) (fun _ h9 => h9) rfl dX9_wantLine_12 ?_
    refine lv_bipush (v := 6) hx hb dX9_wantLine_15 (by decide) ?_
    obtain ⟨g17, hok⟩ := gd_some hok
    refine va_iald hx hb hK hP 1 0 rfl rfl (okI_in g17) dX9_wantLine_17 ?_
    refine lv_imul hx hb dX9_wantLine_18 ?_
    refine lv_iadd hx hb dX9_wantLine_19 ?_
    refine lv_istore_n (lv' := [(1, .int ((83 : Int32) + ((4 : Int32) * (vM_fresh (6 : Int32).toNatClampNeg)))), (0, .ref aM)]) hx hb dX9_wantLine_20 rfl hl (by decide) rfl (fun ls hl => ?_)
    refine lv_aload_n hx hb dX9_wantLine_21 rfl (lv_at hl 1 rfl) ?_
    refine va_get (D := D) (ci := 8) (v := .ref (qM 16)) (C := RX9) (T := TX9) (N := 29) hx hb ht0 niX9 hown hK hP 0 rfl rfl 16 (by decide) (ht0 _ wd778) (fun _ h9 => h9) rfl dX9_wantLine_22 ?_
    refine lv_iload_n hx hb dX9_wantLine_25 rfl (lv_at hl 0 rfl) ?_
    refine lv_aload_n hx hb dX9_wantLine_26 rfl (lv_at hl 1 rfl) ?_
    refine lv_iconst (v := 4) hx hb dX9_wantLine_27 (by decide) ?_
    refine lv_bipush (v := 10) hx hb dX9_wantLine_28 (by decide) ?_
    obtain ⟨⟨r30, vM_30, vM_letters_30⟩, hc30, hok⟩ := k_bind hok
    try dsimp only at hok
    refine kCi (wc := (wX9_named cy aM qM vM vM_letters vM_fresh vM_tape)) (wc2 := (wX9_named cy aM qM vM_30 vM_letters_30 vM_fresh vM_tape)) (wr := []) (ws2 := (wX9_wantLine cy aM qM vM_30 vM_fresh vM_letters_30 vM_tape)) (kRunVS (As := [.int 4, .int 10]) (rest := [.int ((83 : Int32) + ((4 : Int32) * (vM_fresh (6 : Int32).toNatClampNeg))), .ref (qM 16)]) ⟨hx, hb, hml, hown, ht0⟩ (kX9_named l D cy ad _ aM qM vM vM_letters vM_fresh vM_tape (4 : Int32) (10 : Int32) r30 vM_30 vM_letters_30 hc30 _ rfl) (cwV 2 ht0 (gV wd790 wd791 wd792 wd744 wd793) rfl rfl rfl (by decide +kernel) ⟨Nat.le_of_ble_eq_true rfl, Nat.le_of_ble_eq_true rfl⟩) hK hN hP hD hSt hS hA [0, 2, 1, 3] rfl (by decide) 0 8 rfl rfl rfl hl.1 rfl (Nat.le_of_ble_eq_true rfl) dX9_wantLine_30 ⟨Nat.zero_le _, Nat.zero_le _⟩) hP hD hS hA [0, 2, 1, 3] [] rfl rfl (by decide) (by decide) [0, 2, 1, 3] (by decide) rfl rfl (fun H locs hP hD hS => ?_)
    obtain ⟨g33, hok⟩ := gd_some hok
    refine va_iast hx hb hK hP hD hS 1 0 rfl rfl (okI_in g33) dX9_wantLine_33 (fun H locs hP hD hS => ?_)
    have hP : va_P D vwCl (wX9_wantLine cy aM qM vM_30 (upd vM_fresh ((83 : Int32) + ((4 : Int32) * (vM_fresh (6 : Int32).toNatClampNeg))).toNatClampNeg r30) vM_letters_30 vM_tape) H := hP
    have hD : va_D A (wX9_wantLine cy aM qM vM_30 (upd vM_fresh ((83 : Int32) + ((4 : Int32) * (vM_fresh (6 : Int32).toNatClampNeg))).toNatClampNeg r30) vM_letters_30 vM_tape) := hD
    refine lv_aload_n hx hb dX9_wantLine_34 rfl (lv_at hl 1 rfl) ?_
    refine va_ldcS (own := RX9) (tx := "in") (index := 232) (q := ad.1 9) hx hb hown (hSt.2.1 (RX9, 232, "in", 9) (List.mem_of_getElem? (i := 39) rfl)) dX9_wantLine_35 ?_
    obtain ⟨⟨vM_37, vM_letters_37⟩, hc37, hok⟩ := k_bind hok
    try dsimp only at hok
    refine kCv (wc := (wX9_must cy aM qM vM_30 vM_letters_30 vM_tape)) (wc2 := (wX9_must cy aM qM vM_37 vM_letters_37 vM_tape)) (wr := [(qM 16, rI cy 224 (upd vM_fresh ((83 : Int32) + ((4 : Int32) * (vM_fresh (6 : Int32).toNatClampNeg))).toNatClampNeg r30))]) (ws2 := (wX9_wantLine cy aM qM vM_37 (upd vM_fresh ((83 : Int32) + ((4 : Int32) * (vM_fresh (6 : Int32).toNatClampNeg))).toNatClampNeg r30) vM_letters_37 vM_tape)) (kRunVS (As := [.ref (ad.1 9)]) (rest := []) ⟨hx, hb, hml, hown, ht0⟩ (kX9_must l D cy ad _ aM qM vM_30 vM_letters_30 vM_tape 9 vM_37 vM_letters_37 hc37 _ rfl) (cwV 1 ht0 (gV wd798 wd799 wd800 wd744 wd801) rfl rfl rfl (by decide +kernel) ⟨Nat.le_of_ble_eq_true rfl, Nat.le_of_ble_eq_true rfl⟩) hK hN hP hD hSt hS hA [0, 2, 3] rfl (by decide) 0 8 rfl rfl rfl hl.1 rfl (Nat.le_of_ble_eq_true rfl) dX9_wantLine_37 ⟨Nat.zero_le _, Nat.zero_le _⟩) hP hD hS hA [0, 2, 3] [1] rfl rfl (by decide) (by decide) [1, 0, 2, 3] (by decide) rfl rfl (fun H locs hP hD hS => ?_)
    refine lv_aload_n hx hb dX9_wantLine_40 rfl (lv_at hl 1 rfl) ?_
    obtain ⟨⟨r41, vM_41, vM_letters_41⟩, hc41, hok⟩ := k_bind hok
    try dsimp only at hok
    refine kCi (wc := (wX9_ringName cy aM qM vM_37 vM_letters_37 (upd vM_fresh ((83 : Int32) + ((4 : Int32) * (vM_fresh (6 : Int32).toNatClampNeg))).toNatClampNeg r30) vM_tape)) (wc2 := (wX9_ringName cy aM qM vM_41 vM_letters_41 (upd vM_fresh ((83 : Int32) + ((4 : Int32) * (vM_fresh (6 : Int32).toNatClampNeg))).toNatClampNeg r30) vM_tape)) (wr := []) (ws2 := (wX9_wantLine cy aM qM vM_41 (upd vM_fresh ((83 : Int32) + ((4 : Int32) * (vM_fresh (6 : Int32).toNatClampNeg))).toNatClampNeg r30) vM_letters_41 vM_tape)) (kRunVS (As := []) (rest := []) ⟨hx, hb, hml, hown, ht0⟩ (kX9_ringName l D cy ad _ aM qM vM_37 vM_letters_37 (upd vM_fresh ((83 : Int32) + ((4 : Int32) * (vM_fresh (6 : Int32).toNatClampNeg))).toNatClampNeg r30) vM_tape r41 vM_41 vM_letters_41 hc41 _ rfl) (cwV 0 ht0 (gV wd814 wd815 wd816 wd744 wd817) rfl rfl rfl (by decide +kernel) ⟨Nat.le_of_ble_eq_true rfl, Nat.le_of_ble_eq_true rfl⟩) hK hN hP hD hSt hS hA [0, 2, 1, 3] rfl (by decide) 0 8 rfl rfl rfl hl.1 rfl (Nat.le_of_ble_eq_true rfl) dX9_wantLine_41 ⟨Nat.zero_le _, Nat.zero_le _⟩) hP hD hS hA [0, 2, 1, 3] [] rfl rfl (by decide) (by decide) [0, 2, 1, 3] (by decide) rfl rfl (fun H locs hP hD hS => ?_)
    refine lv_istore_n (lv' := [(2, .int r41), (1, .int ((83 : Int32) + ((4 : Int32) * (vM_fresh (6 : Int32).toNatClampNeg)))), (0, .ref aM)]) hx hb dX9_wantLine_44 rfl hl (by decide) rfl (fun ls hl => ?_)
    refine lv_aload_n hx hb dX9_wantLine_45 rfl (lv_at hl 2 rfl) ?_
    refine va_ldcS (own := RX9) (tx := "at") (index := 233) (q := ad.1 0) hx hb hown (hSt.2.1 (RX9, 233, "at", 0) (List.mem_of_getElem? (i := 40) rfl)) dX9_wantLine_46 ?_
    obtain ⟨⟨vM_48, vM_letters_48⟩, hc48, hok⟩ := k_bind hok
    try dsimp only at hok
    refine kCv (wc := (wX9_must cy aM qM vM_41 vM_letters_41 vM_tape)) (wc2 := (wX9_must cy aM qM vM_48 vM_letters_48 vM_tape)) (wr := [(qM 16, rI cy 224 (upd vM_fresh ((83 : Int32) + ((4 : Int32) * (vM_fresh (6 : Int32).toNatClampNeg))).toNatClampNeg r30))]) (ws2 := (wX9_wantLine cy aM qM vM_48 (upd vM_fresh ((83 : Int32) + ((4 : Int32) * (vM_fresh (6 : Int32).toNatClampNeg))).toNatClampNeg r30) vM_letters_48 vM_tape)) (kRunVS (As := [.ref (ad.1 0)]) (rest := []) ⟨hx, hb, hml, hown, ht0⟩ (kX9_must l D cy ad _ aM qM vM_41 vM_letters_41 vM_tape 0 vM_48 vM_letters_48 hc48 _ rfl) (cwV 1 ht0 (gV wd798 wd799 wd800 wd744 wd801) rfl rfl rfl (by decide +kernel) ⟨Nat.le_of_ble_eq_true rfl, Nat.le_of_ble_eq_true rfl⟩) hK hN hP hD hSt hS hA [0, 2, 3] rfl (by decide) 0 8 rfl rfl rfl hl.1 rfl (Nat.le_of_ble_eq_true rfl) dX9_wantLine_48 ⟨Nat.zero_le _, Nat.zero_le _⟩) hP hD hS hA [0, 2, 3] [1] rfl rfl (by decide) (by decide) [1, 0, 2, 3] (by decide) rfl rfl (fun H locs hP hD hS => ?_)
    refine lv_aload_n hx hb dX9_wantLine_51 rfl (lv_at hl 2 rfl) ?_
    refine va_get (D := D) (ci := 8) (v := .int (vM_48 13)) (C := RX9) (T := TX9) (N := 29) hx hb ht0 niX9 hown hK hP 0 rfl rfl 13 (by decide) (ht0 _ wd757) (fun _ h9 => h9) rfl dX9_wantLine_52 ?_
    refine lv_if_eq (tgt := 59) hx hb dX9_wantLine_55 (by decide) (fun c55 => ?_) (fun c55 => ?_)
    · have hok := k_pos c55 hok
      refine lv_aload_n hx hb dX9_wantLine_59 rfl (lv_at hl 2 rfl) ?_
      refine va_get (D := D) (ci := 8) (v := .ref (qM 16)) (C := RX9) (T := TX9) (N := 29) hx hb ht0 niX9 hown hK hP 0 rfl rfl 16 (by decide) (ht0 _ wd778) (fun _ h9 => h9) rfl dX9_wantLine_60 ?_
      refine lv_iload_n hx hb dX9_wantLine_63 rfl (lv_at hl 1 rfl) ?_
      refine lv_iconst (v := 1) hx hb dX9_wantLine_64 (by decide) ?_
      refine lv_iadd hx hb dX9_wantLine_65 ?_
      refine lv_aload_n hx hb dX9_wantLine_66 rfl (lv_at hl 2 rfl) ?_
      refine lv_iload_n hx hb dX9_wantLine_67 rfl (lv_at hl 0 rfl) ?_
      obtain ⟨⟨r68, vM_68⟩, hc68, hok⟩ := k_bind hok
      try dsimp only at hok
      refine kCi (wc := (wX9_placeHere cy aM qM vM_48 (upd vM_fresh ((83 : Int32) + ((4 : Int32) * (vM_fresh (6 : Int32).toNatClampNeg))).toNatClampNeg r30))) (wc2 := (wX9_placeHere cy aM qM vM_68 (upd vM_fresh ((83 : Int32) + ((4 : Int32) * (vM_fresh (6 : Int32).toNatClampNeg))).toNatClampNeg r30))) (wr := [(qM 12, rI cy 8 vM_letters_48), (qM 1, rI cy 900 vM_tape)]) (ws2 := (wX9_wantLine cy aM qM vM_68 (upd vM_fresh ((83 : Int32) + ((4 : Int32) * (vM_fresh (6 : Int32).toNatClampNeg))).toNatClampNeg r30) vM_letters_48 vM_tape)) (kRunV (As := [.int r41]) (rest := [.int (((83 : Int32) + ((4 : Int32) * (vM_fresh (6 : Int32).toNatClampNeg))) + (1 : Int32)), .ref (qM 16)]) ⟨hx, hb, hml, hown, ht0⟩ (kX9_placeHere l D cy _ aM qM vM_48 (upd vM_fresh ((83 : Int32) + ((4 : Int32) * (vM_fresh (6 : Int32).toNatClampNeg))).toNatClampNeg r30) r41 r68 vM_68 hc68 _ rfl) (cwV 1 ht0 (gV wd818 wd819 wd820 wd744 wd821) rfl rfl rfl (by decide +kernel) ⟨Nat.le_of_ble_eq_true rfl, Nat.le_of_ble_eq_true rfl⟩) hK hN hP hD [0, 1] rfl (by decide) 0 8 rfl rfl rfl hl.1 rfl (Nat.le_of_ble_eq_true rfl) dX9_wantLine_68 ⟨Nat.zero_le _, Nat.zero_le _⟩) hP hD hS hA [0, 1] [2, 3] rfl rfl (by decide) (by decide) [2, 3, 0, 1] (by decide) rfl rfl (fun H locs hP hD hS => ?_)
      obtain ⟨g71, hok⟩ := gd_some hok
      refine va_iast hx hb hK hP hD hS 1 0 rfl rfl (okI_in g71) dX9_wantLine_71 (fun H locs hP hD hS => ?_)
      have hP : va_P D vwCl (wX9_wantLine cy aM qM vM_68 (upd (upd vM_fresh ((83 : Int32) + ((4 : Int32) * (vM_fresh (6 : Int32).toNatClampNeg))).toNatClampNeg r30) (((83 : Int32) + ((4 : Int32) * (vM_fresh (6 : Int32).toNatClampNeg))) + (1 : Int32)).toNatClampNeg r68) vM_letters_48 vM_tape) H := hP
      have hD : va_D A (wX9_wantLine cy aM qM vM_68 (upd (upd vM_fresh ((83 : Int32) + ((4 : Int32) * (vM_fresh (6 : Int32).toNatClampNeg))).toNatClampNeg r30) (((83 : Int32) + ((4 : Int32) * (vM_fresh (6 : Int32).toNatClampNeg))) + (1 : Int32)).toNatClampNeg r68) vM_letters_48 vM_tape) := hD
      refine lv_aload_n hx hb dX9_wantLine_72 rfl (lv_at hl 2 rfl) ?_
      refine va_get (D := D) (ci := 8) (v := .int (vM_68 13)) (C := RX9) (T := TX9) (N := 29) hx hb ht0 niX9 hown hK hP 0 rfl rfl 13 (by decide) (ht0 _ wd757) (fun _ h9 => h9) rfl dX9_wantLine_73 ?_
      refine lv_if_eq (tgt := 80) hx hb dX9_wantLine_76 (by decide) (fun c76 => ?_) (fun c76 => ?_)
      · have hok := k_pos c76 hok
        refine lv_aload_n hx hb dX9_wantLine_80 rfl (lv_at hl 2 rfl) ?_
        obtain ⟨⟨vM_81, vM_letters_81⟩, hc81, hok⟩ := k_bind hok
        try dsimp only at hok
        refine kCv (wc := (wX9_next cy aM qM vM_68 vM_tape vM_letters_48)) (wc2 := (wX9_next cy aM qM vM_81 vM_tape vM_letters_81)) (wr := [(qM 16, rI cy 224 (upd (upd vM_fresh ((83 : Int32) + ((4 : Int32) * (vM_fresh (6 : Int32).toNatClampNeg))).toNatClampNeg r30) (((83 : Int32) + ((4 : Int32) * (vM_fresh (6 : Int32).toNatClampNeg))) + (1 : Int32)).toNatClampNeg r68))]) (ws2 := (wX9_wantLine cy aM qM vM_81 (upd (upd vM_fresh ((83 : Int32) + ((4 : Int32) * (vM_fresh (6 : Int32).toNatClampNeg))).toNatClampNeg r30) (((83 : Int32) + ((4 : Int32) * (vM_fresh (6 : Int32).toNatClampNeg))) + (1 : Int32)).toNatClampNeg r68) vM_letters_81 vM_tape)) (kRunV (As := []) (rest := []) ⟨hx, hb, hml, hown, ht0⟩ (kX9_next l D cy _ aM qM vM_68 vM_tape vM_letters_48 vM_81 vM_letters_81 hc81 _ rfl) (cwV 0 ht0 (gV wd766 wd767 wd768 wd744 wd769) rfl rfl rfl (by decide +kernel) ⟨Nat.le_of_ble_eq_true rfl, Nat.le_of_ble_eq_true rfl⟩) hK hN hP hD [0, 3, 2] rfl (by decide) 0 8 rfl rfl rfl hl.1 rfl (Nat.le_of_ble_eq_true rfl) dX9_wantLine_81 ⟨Nat.zero_le _, Nat.zero_le _⟩) hP hD hS hA [0, 3, 2] [1] rfl rfl (by decide) (by decide) [1, 0, 3, 2] (by decide) rfl rfl (fun H locs hP hD hS => ?_)
        refine lv_aload_n hx hb dX9_wantLine_84 rfl (lv_at hl 2 rfl) ?_
        refine va_get (D := D) (ci := 8) (v := .ref (qM 16)) (C := RX9) (T := TX9) (N := 29) hx hb ht0 niX9 hown hK hP 0 rfl rfl 16 (by decide) (ht0 _ wd778) (fun _ h9 => h9) rfl dX9_wantLine_85 ?_
        refine lv_iload_n hx hb dX9_wantLine_88 rfl (lv_at hl 1 rfl) ?_
        refine lv_iconst (v := 2) hx hb dX9_wantLine_89 (by decide) ?_
        refine lv_iadd hx hb dX9_wantLine_90 ?_
        refine lv_aload_n hx hb dX9_wantLine_91 rfl (lv_at hl 2 rfl) ?_
        refine va_ldcS (own := RX9) (tx := "night") (index := 235) (q := ad.1 12) hx hb hown (hSt.2.1 (RX9, 235, "night", 12) (List.mem_of_getElem? (i := 42) rfl)) dX9_wantLine_92 ?_
        refine lv_iconst (v := 1) hx hb dX9_wantLine_94 (by decide) ?_
        refine lv_bipush (v := 60) hx hb dX9_wantLine_95 (by decide) ?_
        obtain ⟨⟨r97, vM_97, vM_letters_97⟩, hc97, hok⟩ := k_bind hok
        try dsimp only at hok
        refine kCi (wc := (wX9_after cy aM qM vM_81 vM_letters_81 vM_tape)) (wc2 := (wX9_after cy aM qM vM_97 vM_letters_97 vM_tape)) (wr := [(qM 16, rI cy 224 (upd (upd vM_fresh ((83 : Int32) + ((4 : Int32) * (vM_fresh (6 : Int32).toNatClampNeg))).toNatClampNeg r30) (((83 : Int32) + ((4 : Int32) * (vM_fresh (6 : Int32).toNatClampNeg))) + (1 : Int32)).toNatClampNeg r68))]) (ws2 := (wX9_wantLine cy aM qM vM_97 (upd (upd vM_fresh ((83 : Int32) + ((4 : Int32) * (vM_fresh (6 : Int32).toNatClampNeg))).toNatClampNeg r30) (((83 : Int32) + ((4 : Int32) * (vM_fresh (6 : Int32).toNatClampNeg))) + (1 : Int32)).toNatClampNeg r68) vM_letters_97 vM_tape)) (kRunVS (As := [.ref (ad.1 12), .int 1, .int 60]) (rest := [.int (((83 : Int32) + ((4 : Int32) * (vM_fresh (6 : Int32).toNatClampNeg))) + (2 : Int32)), .ref (qM 16)]) ⟨hx, hb, hml, hown, ht0⟩ (kX9_after l D cy ad _ aM qM vM_81 vM_letters_81 vM_tape 12 (1 : Int32) (60 : Int32) r97 vM_97 vM_letters_97 hc97 _ rfl) (cwV 3 ht0 (gV wd806 wd807 wd808 wd744 wd809) rfl rfl rfl (by decide +kernel) ⟨Nat.le_of_ble_eq_true rfl, Nat.le_of_ble_eq_true rfl⟩) hK hN hP hD hSt hS hA [0, 2, 3] rfl (by decide) 0 8 rfl rfl rfl hl.1 rfl (Nat.le_of_ble_eq_true rfl) dX9_wantLine_97 ⟨Nat.zero_le _, Nat.zero_le _⟩) hP hD hS hA [0, 2, 3] [1] rfl rfl (by decide) (by decide) [1, 0, 2, 3] (by decide) rfl rfl (fun H locs hP hD hS => ?_)
        obtain ⟨g100, hok⟩ := gd_some hok
        refine va_iast hx hb hK hP hD hS 1 0 rfl rfl (okI_in g100) dX9_wantLine_100 (fun H locs hP hD hS => ?_)
        have hP : va_P D vwCl (wX9_wantLine cy aM qM vM_97 (upd (upd (upd vM_fresh ((83 : Int32) + ((4 : Int32) * (vM_fresh (6 : Int32).toNatClampNeg))).toNatClampNeg r30) (((83 : Int32) + ((4 : Int32) * (vM_fresh (6 : Int32).toNatClampNeg))) + (1 : Int32)).toNatClampNeg r68) (((83 : Int32) + ((4 : Int32) * (vM_fresh (6 : Int32).toNatClampNeg))) + (2 : Int32)).toNatClampNeg r97) vM_letters_97 vM_tape) H := hP
        have hD : va_D A (wX9_wantLine cy aM qM vM_97 (upd (upd (upd vM_fresh ((83 : Int32) + ((4 : Int32) * (vM_fresh (6 : Int32).toNatClampNeg))).toNatClampNeg r30) (((83 : Int32) + ((4 : Int32) * (vM_fresh (6 : Int32).toNatClampNeg))) + (1 : Int32)).toNatClampNeg r68) (((83 : Int32) + ((4 : Int32) * (vM_fresh (6 : Int32).toNatClampNeg))) + (2 : Int32)).toNatClampNeg r97) vM_letters_97 vM_tape) := hD
        refine lv_aload_n hx hb dX9_wantLine_101 rfl (lv_at hl 2 rfl) ?_
        refine va_get (D := D) (ci := 8) (v := .ref (qM 16)) (C := RX9) (T := TX9) (N := 29) hx hb ht0 niX9 hown hK hP 0 rfl rfl 16 (by decide) (ht0 _ wd778) (fun _ h9 => h9) rfl dX9_wantLine_102 ?_
        refine lv_iload_n hx hb dX9_wantLine_105 rfl (lv_at hl 1 rfl) ?_
        refine lv_iconst (v := 3) hx hb dX9_wantLine_106 (by decide) ?_
        refine lv_iadd hx hb dX9_wantLine_107 ?_
        refine lv_aload_n hx hb dX9_wantLine_108 rfl (lv_at hl 2 rfl) ?_
        refine va_ldcS (own := RX9) (tx := "pays") (index := 237) (q := ad.1 13) hx hb hown (hSt.2.1 (RX9, 237, "pays", 13) (List.mem_of_getElem? (i := 43) rfl)) dX9_wantLine_109 ?_
        refine lv_iconst (v := 1) hx hb dX9_wantLine_111 (by decide) ?_
        refine lv_bipush (v := 99) hx hb dX9_wantLine_112 (by decide) ?_
        obtain ⟨⟨r114, vM_114, vM_letters_114⟩, hc114, hok⟩ := k_bind hok
        try dsimp only at hok
        refine kCi (wc := (wX9_after cy aM qM vM_97 vM_letters_97 vM_tape)) (wc2 := (wX9_after cy aM qM vM_114 vM_letters_114 vM_tape)) (wr := [(qM 16, rI cy 224 (upd (upd (upd vM_fresh ((83 : Int32) + ((4 : Int32) * (vM_fresh (6 : Int32).toNatClampNeg))).toNatClampNeg r30) (((83 : Int32) + ((4 : Int32) * (vM_fresh (6 : Int32).toNatClampNeg))) + (1 : Int32)).toNatClampNeg r68) (((83 : Int32) + ((4 : Int32) * (vM_fresh (6 : Int32).toNatClampNeg))) + (2 : Int32)).toNatClampNeg r97))]) (ws2 := (wX9_wantLine cy aM qM vM_114 (upd (upd (upd vM_fresh ((83 : Int32) + ((4 : Int32) * (vM_fresh (6 : Int32).toNatClampNeg))).toNatClampNeg r30) (((83 : Int32) + ((4 : Int32) * (vM_fresh (6 : Int32).toNatClampNeg))) + (1 : Int32)).toNatClampNeg r68) (((83 : Int32) + ((4 : Int32) * (vM_fresh (6 : Int32).toNatClampNeg))) + (2 : Int32)).toNatClampNeg r97) vM_letters_114 vM_tape)) (kRunVS (As := [.ref (ad.1 13), .int 1, .int 99]) (rest := [.int (((83 : Int32) + ((4 : Int32) * (vM_fresh (6 : Int32).toNatClampNeg))) + (3 : Int32)), .ref (qM 16)]) ⟨hx, hb, hml, hown, ht0⟩ (kX9_after l D cy ad _ aM qM vM_97 vM_letters_97 vM_tape 13 (1 : Int32) (99 : Int32) r114 vM_114 vM_letters_114 hc114 _ rfl) (cwV 3 ht0 (gV wd806 wd807 wd808 wd744 wd809) rfl rfl rfl (by decide +kernel) ⟨Nat.le_of_ble_eq_true rfl, Nat.le_of_ble_eq_true rfl⟩) hK hN hP hD hSt hS hA [0, 2, 3] rfl (by decide) 0 8 rfl rfl rfl hl.1 rfl (Nat.le_of_ble_eq_true rfl) dX9_wantLine_114 ⟨Nat.zero_le _, Nat.zero_le _⟩) hP hD hS hA [0, 2, 3] [1] rfl rfl (by decide) (by decide) [1, 0, 2, 3] (by decide) rfl rfl (fun H locs hP hD hS => ?_)
        obtain ⟨g117, hok⟩ := gd_some hok
        refine va_iast hx hb hK hP hD hS 1 0 rfl rfl (okI_in g117) dX9_wantLine_117 (fun H locs hP hD hS => ?_)
        have hP : va_P D vwCl (wX9_wantLine cy aM qM vM_114 (upd (upd (upd (upd vM_fresh ((83 : Int32) + ((4 : Int32) * (vM_fresh (6 : Int32).toNatClampNeg))).toNatClampNeg r30) (((83 : Int32) + ((4 : Int32) * (vM_fresh (6 : Int32).toNatClampNeg))) + (1 : Int32)).toNatClampNeg r68) (((83 : Int32) + ((4 : Int32) * (vM_fresh (6 : Int32).toNatClampNeg))) + (2 : Int32)).toNatClampNeg r97) (((83 : Int32) + ((4 : Int32) * (vM_fresh (6 : Int32).toNatClampNeg))) + (3 : Int32)).toNatClampNeg r114) vM_letters_114 vM_tape) H := hP
        have hD : va_D A (wX9_wantLine cy aM qM vM_114 (upd (upd (upd (upd vM_fresh ((83 : Int32) + ((4 : Int32) * (vM_fresh (6 : Int32).toNatClampNeg))).toNatClampNeg r30) (((83 : Int32) + ((4 : Int32) * (vM_fresh (6 : Int32).toNatClampNeg))) + (1 : Int32)).toNatClampNeg r68) (((83 : Int32) + ((4 : Int32) * (vM_fresh (6 : Int32).toNatClampNeg))) + (2 : Int32)).toNatClampNeg r97) (((83 : Int32) + ((4 : Int32) * (vM_fresh (6 : Int32).toNatClampNeg))) + (3 : Int32)).toNatClampNeg r114) vM_letters_114 vM_tape) := hD
        refine lv_aload_n hx hb dX9_wantLine_118 rfl (lv_at hl 2 rfl) ?_
        refine va_get (D := D) (ci := 8) (v := .int (vM_114 13)) (C := RX9) (T := TX9) (N := 29) hx hb ht0 niX9 hown hK hP 0 rfl rfl 13 (by decide) (ht0 _ wd757) (fun _ h9 => h9) rfl dX9_wantLine_119 ?_
        refine lv_if_ne (tgt := 136) hx hb dX9_wantLine_122 (by decide) (fun c122 => ?_) (fun c122 => ?_)
        · have hok := k_neg c122 hok
          exact J136 (upd (upd (upd (upd vM_fresh ((83 : Int32) + ((4 : Int32) * (vM_fresh (6 : Int32).toNatClampNeg))).toNatClampNeg r30) (((83 : Int32) + ((4 : Int32) * (vM_fresh (6 : Int32).toNatClampNeg))) + (1 : Int32)).toNatClampNeg r68) (((83 : Int32) + ((4 : Int32) * (vM_fresh (6 : Int32).toNatClampNeg))) + (2 : Int32)).toNatClampNeg r97) (((83 : Int32) + ((4 : Int32) * (vM_fresh (6 : Int32).toNatClampNeg))) + (3 : Int32)).toNatClampNeg r114) vM_letters_114 vM_114 H locs ls hP hD hS (lv_sub hl [] rfl) hok
        · have hok := k_pos c122 hok
          refine lv_aload_n hx hb dX9_wantLine_125 rfl (lv_at hl 2 rfl) ?_
          refine va_get (D := D) (ci := 8) (v := .ref (qM 16)) (C := RX9) (T := TX9) (N := 29) hx hb ht0 niX9 hown hK hP 0 rfl rfl 16 (by decide) (ht0 _ wd778) (fun _ h9 => h9) rfl dX9_wantLine_126 ?_
          refine lv_bipush (v := 6) hx hb dX9_wantLine_129 (by decide) ?_
          refine lv_dup2_11 hx hb dX9_wantLine_131 rfl rfl ?_
          obtain ⟨g132, hok⟩ := gd_some hok
          refine va_iald hx hb hK hP 1 0 rfl rfl (okI_in g132) dX9_wantLine_132 ?_
          refine lv_iconst (v := 1) hx hb dX9_wantLine_133 (by decide) ?_
          refine lv_iadd hx hb dX9_wantLine_134 ?_
          obtain ⟨g135, hok⟩ := gd_some hok
          refine va_iast hx hb hK hP hD hS 1 0 rfl rfl (okI_in g135) dX9_wantLine_135 (fun H locs hP hD hS => ?_)
          have hP : va_P D vwCl (wX9_wantLine cy aM qM vM_114 (upd (upd (upd (upd (upd vM_fresh ((83 : Int32) + ((4 : Int32) * (vM_fresh (6 : Int32).toNatClampNeg))).toNatClampNeg r30) (((83 : Int32) + ((4 : Int32) * (vM_fresh (6 : Int32).toNatClampNeg))) + (1 : Int32)).toNatClampNeg r68) (((83 : Int32) + ((4 : Int32) * (vM_fresh (6 : Int32).toNatClampNeg))) + (2 : Int32)).toNatClampNeg r97) (((83 : Int32) + ((4 : Int32) * (vM_fresh (6 : Int32).toNatClampNeg))) + (3 : Int32)).toNatClampNeg r114) (6 : Int32).toNatClampNeg (((upd (upd (upd (upd vM_fresh ((83 : Int32) + ((4 : Int32) * (vM_fresh (6 : Int32).toNatClampNeg))).toNatClampNeg r30) (((83 : Int32) + ((4 : Int32) * (vM_fresh (6 : Int32).toNatClampNeg))) + (1 : Int32)).toNatClampNeg r68) (((83 : Int32) + ((4 : Int32) * (vM_fresh (6 : Int32).toNatClampNeg))) + (2 : Int32)).toNatClampNeg r97) (((83 : Int32) + ((4 : Int32) * (vM_fresh (6 : Int32).toNatClampNeg))) + (3 : Int32)).toNatClampNeg r114) (6 : Int32).toNatClampNeg) + (1 : Int32))) vM_letters_114 vM_tape) H := hP
          have hD : va_D A (wX9_wantLine cy aM qM vM_114 (upd (upd (upd (upd (upd vM_fresh ((83 : Int32) + ((4 : Int32) * (vM_fresh (6 : Int32).toNatClampNeg))).toNatClampNeg r30) (((83 : Int32) + ((4 : Int32) * (vM_fresh (6 : Int32).toNatClampNeg))) + (1 : Int32)).toNatClampNeg r68) (((83 : Int32) + ((4 : Int32) * (vM_fresh (6 : Int32).toNatClampNeg))) + (2 : Int32)).toNatClampNeg r97) (((83 : Int32) + ((4 : Int32) * (vM_fresh (6 : Int32).toNatClampNeg))) + (3 : Int32)).toNatClampNeg r114) (6 : Int32).toNatClampNeg (((upd (upd (upd (upd vM_fresh ((83 : Int32) + ((4 : Int32) * (vM_fresh (6 : Int32).toNatClampNeg))).toNatClampNeg r30) (((83 : Int32) + ((4 : Int32) * (vM_fresh (6 : Int32).toNatClampNeg))) + (1 : Int32)).toNatClampNeg r68) (((83 : Int32) + ((4 : Int32) * (vM_fresh (6 : Int32).toNatClampNeg))) + (2 : Int32)).toNatClampNeg r97) (((83 : Int32) + ((4 : Int32) * (vM_fresh (6 : Int32).toNatClampNeg))) + (3 : Int32)).toNatClampNeg r114) (6 : Int32).toNatClampNeg) + (1 : Int32))) vM_letters_114 vM_tape) := hD
          exact J136 (upd (upd (upd (upd (upd vM_fresh ((83 : Int32) + ((4 : Int32) * (vM_fresh (6 : Int32).toNatClampNeg))).toNatClampNeg r30) (((83 : Int32) + ((4 : Int32) * (vM_fresh (6 : Int32).toNatClampNeg))) + (1 : Int32)).toNatClampNeg r68) (((83 : Int32) + ((4 : Int32) * (vM_fresh (6 : Int32).toNatClampNeg))) + (2 : Int32)).toNatClampNeg r97) (((83 : Int32) + ((4 : Int32) * (vM_fresh (6 : Int32).toNatClampNeg))) + (3 : Int32)).toNatClampNeg r114) (6 : Int32).toNatClampNeg (((upd (upd (upd (upd vM_fresh ((83 : Int32) + ((4 : Int32) * (vM_fresh (6 : Int32).toNatClampNeg))).toNatClampNeg r30) (((83 : Int32) + ((4 : Int32) * (vM_fresh (6 : Int32).toNatClampNeg))) + (1 : Int32)).toNatClampNeg r68) (((83 : Int32) + ((4 : Int32) * (vM_fresh (6 : Int32).toNatClampNeg))) + (2 : Int32)).toNatClampNeg r97) (((83 : Int32) + ((4 : Int32) * (vM_fresh (6 : Int32).toNatClampNeg))) + (3 : Int32)).toNatClampNeg r114) (6 : Int32).toNatClampNeg) + (1 : Int32))) vM_letters_114 vM_114 H locs ls hP hD hS (lv_sub hl [] rfl) hok
      · have hok := k_neg c76 hok
        cases hok
        subst hQe; exact W.vret hx hb hr (fun t ht hW => ⟨⟨(), rfl, trivial, by rw [ht]; exact hP, va_K.moved hW.alike hK, hD⟩, hS.F ht⟩) hS.2.2 dX9_wantLine_79
    · have hok := k_neg c55 hok
      cases hok
      subst hQe; exact W.vret hx hb hr (fun t ht hW => ⟨⟨(), rfl, trivial, by rw [ht]; exact hP, va_K.moved hW.alike hK, hD⟩, hS.F ht⟩) hS.2.2 dX9_wantLine_58
  · have hok := k_neg c4 hok
    cases hok
    subst hQe; exact W.vret hx hb hr (fun t ht hW => ⟨⟨(), rfl, trivial, by rw [ht]; exact hP, va_K.moved hW.alike hK, hD⟩, hS.F ht⟩) hS.2.2 dX9_wantLine_7
def wsX9_boxLine : List Cond := .code yX9_boxLine cX9_boxLine 5 none :: W0
abbrev wX9_boxLine (cy : Nat → ClassId) (aM : Nat) (qM : Nat → Nat) (vM : Nat → Int32) (vM_fresh : Nat → Int32) (vM_tape : Nat → Int32) (vM_letters : Nat → Int32) : va_W := [(aM, oX9 vM qM), (qM 16, rI cy 224 vM_fresh), (qM 1, rI cy 900 vM_tape), (qM 12, rI cy 8 vM_letters)]
set_option maxHeartbeats 4000000 in
set_option maxRecDepth 100000 in
theorem kX9_boxLine (l : Launch) (D : va_G) (cy : Nat → ClassId) (ad : (Nat → Nat) × (Nat → Nat)) (sz : Nat) (aM : Nat) (qM : Nat → Nat) (vM : Nat → Int32) (vM_fresh : Nat → Int32) (vM_tape : Nat → Int32) (vM_letters : Nat → Int32) (x1 : Int32) (z_vM : Nat → Int32) (z_vM_fresh : Nat → Int32) (z_vM_letters : Nat → Int32) (hok : fX9_boxLine vM vM_fresh vM_tape vM_letters x1 = some (z_vM, z_vM_fresh, z_vM_letters)) (A : Nat → Prop) (hAe : va_A (wX9_boxLine cy aM qM vM vM_fresh vM_tape vM_letters) sz = A) : Met l yX9_boxLine wsX9_boxLine ({ frames := 8, cells := 0, slots := 0, locals := 173 } : Room) (kPreS D cy ad [.ref aM, .int x1] (wX9_boxLine cy aM qM vM vM_fresh vM_tape vM_letters) sz A) (kQv D cy A (wX9_boxLine cy aM qM z_vM z_vM_fresh vM_tape z_vM_letters)) 0 0 A := by
  refine Met.ofW (cc := cX9_boxLine) (maxL := 5) (ret := none) (by decide) rfl ?_
  intro p e s m args below meth c s₁ B hml hv
  obtain ⟨rfl, ⟨hsz, hP, hK, hD0, hN⟩, hSt⟩ := hv
  have hx := B.exec
  have hb := B.bytes
  have hr := B.returns
  have ht0 : ∀ w ∈ W0, w.before _ s = true := fun w h => atoms_spec (ws := wsX9_boxLine) B.pre w (List.mem_cons_of_mem _ h)
  have hown : s.vm.findClass RX9 = some m.cls := findClass_of_methodNamed B.named
  have hlocks := B.notSynchronized
  subst hsz
  have hD : va_D A (wX9_boxLine cy aM qM vM vM_fresh vM_tape vM_letters) := by rw [← hAe]; exact hD0.self
  have hA : ∀ q : Nat, s.heap.size ≤ q → A q := fun q h => by rw [← hAe]; exact Or.inr h
  have hS : va_S A s.heap s.heap [] := va_S.rf
  have hl := lv_entry ([.ref aM, .int x1]) (n := 5) (Nat.le_of_ble_eq_true rfl)
  rw [lg_entry_eq]
  generalize (lg_sl ([.ref aM, .int x1]) ++ List.replicate (5 - (lg_sl ([.ref aM, .int x1])).length) Slot.unset).toArray = ls at hl ⊢
  have hl : lv_has ls 5 [(0, .ref aM), (1, .int x1)] := hl
  generalize hQe : MQ below (kQv D cy A (wX9_boxLine cy aM qM z_vM z_vM_fresh vM_tape z_vM_letters)) ([.ref aM, .int x1] : List Value).toArray s 0 0 A = Q
  have J145 : ∀ (vM_fresh_145 : Nat → Int32) (vM_letters_145 : Nat → Int32) (vM_145 : Nat → Int32), ∀ (H : Heap) (locs : List Loc) (ls : Array Slot), va_P D vwCl (wX9_boxLine cy aM qM vM_145 vM_fresh_145 vM_tape vM_letters_145) H → va_D A (wX9_boxLine cy aM qM vM_145 vM_fresh_145 vM_tape vM_letters_145) → va_S A s.heap H locs → lv_has ls 5 [] → fX9_boxLine_J145 vM_fresh_145 vM_letters_145 vM_145 = some (z_vM, z_vM_fresh, z_vM_letters) → W p l e ({ frames := 8, cells := 0, slots := 0, locals := 173 } : Room) s m ([.ref aM, .int x1] : List Value).toArray below meth c H locs 0 0 Q (F0 m 145 ls []) := by
    intro vM_fresh_145 vM_letters_145 vM_145 H locs ls hP hD hS hl hok
    unfold fX9_boxLine_J145 at hok
    cases hok
    subst hQe; exact W.vret hx hb hr (fun t ht hW => ⟨⟨(), rfl, trivial, by rw [ht]; exact hP, va_K.moved hW.alike hK, hD⟩, hS.F ht⟩) hS.2.2 dX9_boxLine_145
  have L32 : ∀ (fuel : Nat) (y3_32 : Int32) (y4_32 : Int32) (vM_32 : Nat → Int32), ∀ (H : Heap) (locs : List Loc) (ls : Array Slot), va_P D vwCl (wX9_boxLine cy aM qM vM_32 vM_fresh vM_tape vM_letters) H → va_D A (wX9_boxLine cy aM qM vM_32 vM_fresh vM_tape vM_letters) → va_S A s.heap H locs → lv_has ls 5 [(0, .ref aM), (1, .int x1), (2, .int ((107 : Int32) + ((3 : Int32) * (vM_fresh (7 : Int32).toNatClampNeg)))), (3, .int y3_32), (4, .int y4_32)] → lp (fX9_boxLine_B32 vM_fresh vM_tape vM_letters x1) fuel (y3_32, y4_32, vM_32) = some (z_vM, z_vM_fresh, z_vM_letters) → W p l e ({ frames := 8, cells := 0, slots := 0, locals := 173 } : Room) s m ([.ref aM, .int x1] : List Value).toArray below meth c H locs 0 0 Q (F0 m 32 ls []) := by
    intro fuel
    induction fuel with
    | zero => intro y3_32 y4_32 vM_32 H locs ls hP hD hS hl hok; exact (lp_0 hok).elim
    | succ fuel ih32 =>
      intro y3_32 y4_32 vM_32 H locs ls hP hD hS hl hok
      obtain ⟨y32, hok, hL32, hR32⟩ := lp_step hok
      have J76 : ∀ (vM_76 : Nat → Int32), ∀ (H : Heap) (locs : List Loc) (ls : Array Slot), va_P D vwCl (wX9_boxLine cy aM qM vM_76 vM_fresh vM_tape vM_letters) H → va_D A (wX9_boxLine cy aM qM vM_76 vM_fresh vM_tape vM_letters) → va_S A s.heap H locs → lv_has ls 5 [(0, .ref aM), (1, .int x1), (2, .int ((107 : Int32) + ((3 : Int32) * (vM_fresh (7 : Int32).toNatClampNeg)))), (3, .int y3_32), (4, .int y4_32)] → fX9_boxLine_J76 y3_32 y4_32 vM_76 = some y32 → W p l e ({ frames := 8, cells := 0, slots := 0, locals := 173 } : Room) s m ([.ref aM, .int x1] : List Value).toArray below meth c H locs 0 0 Q (F0 m 76 ls []) := by
        intro vM_76 H locs ls hP hD hS hl hok
        unfold fX9_boxLine_J76 at hok
        refine lv_iinc (v := (y4_32 + 1)) (lv' := [(4, .int (y4_32 + 1)), (0, .ref aM), (1, .int x1), (2, .int ((107 : Int32) + ((3 : Int32) * (vM_fresh (7 : Int32).toNatClampNeg)))), (3, .int y3_32)]) hx hb dX9_boxLine_76 hl (k := 4) rfl (by first | rfl | decide) (by decide) rfl (fun ls hl => ?_)
        refine lv_goto (tgt := 32) hx hb dX9_boxLine_79 (by decide) ?_
        exact ih32 y3_32 (y4_32 + 1) vM_76 H locs ls hP hD hS (lv_sub hl [1, 2, 3, 4, 0] rfl) (hR32 _ (Option.some.inj hok).symm)
      unfold fX9_boxLine_B32 at hok
      try dsimp only at hok
      refine lv_iload hx hb dX9_boxLine_32 (lv_at hl 4 rfl) ?_
      refine lv_aload_n hx hb dX9_boxLine_34 rfl (lv_at hl 0 rfl) ?_
      refine va_get (D := D) (ci := 8) (v := .ref (qM 16)) (C := RX9) (T := TX9) (N := 29) hx hb ht0 niX9 hown hK hP 0 rfl rfl 16 (by decide) (ht0 _ wd778) (fun _ h9 => h9) rfl dX9_boxLine_35 ?_
      refine lv_bipush (v := 7) hx hb dX9_boxLine_38 (by decide) ?_
      obtain ⟨g40, hok⟩ := gd_some hok
      refine va_iald hx hb hK hP 1 0 rfl rfl (okI_in g40) dX9_boxLine_40 ?_
      refine lv_icmp_ge (tgt := 82) hx hb dX9_boxLine_41 (by decide) (fun c41 => ?_) (fun c41 => ?_)
      · have hok := k_pos c41 hok
        obtain ⟨e32, hok, he32⟩ := ex_some hok
        have hok := hok.trans (congrArg some (hL32 _ he32))
        refine lv_aload_n hx hb dX9_boxLine_82 rfl (lv_at hl 0 rfl) ?_
        refine va_get (D := D) (ci := 8) (v := .int (vM_32 13)) (C := RX9) (T := TX9) (N := 29) hx hb ht0 niX9 hown hK hP 0 rfl rfl 13 (by decide) (ht0 _ wd757) (fun _ h9 => h9) rfl dX9_boxLine_83 ?_
        refine lv_if_eq (tgt := 90) hx hb dX9_boxLine_86 (by decide) (fun c86 => ?_) (fun c86 => ?_)
        · have hok := k_pos c86 hok
          refine lv_aload_n hx hb dX9_boxLine_90 rfl (lv_at hl 0 rfl) ?_
          obtain ⟨⟨vM_91, vM_letters_91⟩, hc91, hok⟩ := k_bind hok
          try dsimp only at hok
          refine kCv (wc := (wX9_next cy aM qM vM_32 vM_tape vM_letters)) (wc2 := (wX9_next cy aM qM vM_91 vM_tape vM_letters_91)) (wr := [(qM 16, rI cy 224 vM_fresh)]) (ws2 := (wX9_boxLine cy aM qM vM_91 vM_fresh vM_tape vM_letters_91)) (kRunV (As := []) (rest := []) ⟨hx, hb, hml, hown, ht0⟩ (kX9_next l D cy _ aM qM vM_32 vM_tape vM_letters vM_91 vM_letters_91 hc91 _ rfl) (cwV 0 ht0 (gV wd766 wd767 wd768 wd744 wd769) rfl rfl rfl (by decide +kernel) ⟨Nat.le_of_ble_eq_true rfl, Nat.le_of_ble_eq_true rfl⟩) hK hN hP hD [0, 2, 3] rfl (by decide) 0 8 rfl rfl rfl hl.1 rfl (Nat.le_of_ble_eq_true rfl) dX9_boxLine_91 ⟨Nat.zero_le _, Nat.zero_le _⟩) hP hD hS hA [0, 2, 3] [1] rfl rfl (by decide) (by decide) [1, 0, 2, 3] (by decide) rfl rfl (fun H locs hP hD hS => ?_)
          refine lv_aload_n hx hb dX9_boxLine_94 rfl (lv_at hl 0 rfl) ?_
          refine va_get (D := D) (ci := 8) (v := .ref (qM 16)) (C := RX9) (T := TX9) (N := 29) hx hb ht0 niX9 hown hK hP 0 rfl rfl 16 (by decide) (ht0 _ wd778) (fun _ h9 => h9) rfl dX9_boxLine_95 ?_
          refine lv_iload_n hx hb dX9_boxLine_98 rfl (lv_at hl 2 rfl) ?_
          refine lv_iload_n hx hb dX9_boxLine_99 rfl (lv_at hl 3 rfl) ?_
          obtain ⟨g100, hok⟩ := gd_some hok
          refine va_iast hx hb hK hP hD hS 1 0 rfl rfl (okI_in g100) dX9_boxLine_100 (fun H locs hP hD hS => ?_)
          have hP : va_P D vwCl (wX9_boxLine cy aM qM vM_91 (upd vM_fresh ((107 : Int32) + ((3 : Int32) * (vM_fresh (7 : Int32).toNatClampNeg))).toNatClampNeg y3_32) vM_tape vM_letters_91) H := hP
          have hD : va_D A (wX9_boxLine cy aM qM vM_91 (upd vM_fresh ((107 : Int32) + ((3 : Int32) * (vM_fresh (7 : Int32).toNatClampNeg))).toNatClampNeg y3_32) vM_tape vM_letters_91) := hD
          refine lv_aload_n hx hb dX9_boxLine_101 rfl (lv_at hl 0 rfl) ?_
          refine va_get (D := D) (ci := 8) (v := .ref (qM 16)) (C := RX9) (T := TX9) (N := 29) hx hb ht0 niX9 hown hK hP 0 rfl rfl 16 (by decide) (ht0 _ wd778) (fun _ h9 => h9) rfl dX9_boxLine_102 ?_
          refine lv_iload_n hx hb dX9_boxLine_105 rfl (lv_at hl 2 rfl) ?_
          refine lv_iconst (v := 1) hx hb dX9_boxLine_106 (by decide) ?_
          refine lv_iadd hx hb dX9_boxLine_107 ?_
          refine lv_aload_n hx hb dX9_boxLine_108 rfl (lv_at hl 0 rfl) ?_
          refine va_ldcS (own := RX9) (tx := "at") (index := 233) (q := ad.1 0) hx hb hown (hSt.2.1 (RX9, 233, "at", 0) (List.mem_of_getElem? (i := 40) rfl)) dX9_boxLine_109 ?_
          refine lv_iconst (v := 0) hx hb dX9_boxLine_111 (by decide) ?_
          refine lv_bipush (v := 11) hx hb dX9_boxLine_112 (by decide) ?_
          obtain ⟨⟨r114, vM_114, vM_letters_114⟩, hc114, hok⟩ := k_bind hok
          try dsimp only at hok
          refine kCi (wc := (wX9_after cy aM qM vM_91 vM_letters_91 vM_tape)) (wc2 := (wX9_after cy aM qM vM_114 vM_letters_114 vM_tape)) (wr := [(qM 16, rI cy 224 (upd vM_fresh ((107 : Int32) + ((3 : Int32) * (vM_fresh (7 : Int32).toNatClampNeg))).toNatClampNeg y3_32))]) (ws2 := (wX9_boxLine cy aM qM vM_114 (upd vM_fresh ((107 : Int32) + ((3 : Int32) * (vM_fresh (7 : Int32).toNatClampNeg))).toNatClampNeg y3_32) vM_tape vM_letters_114)) (kRunVS (As := [.ref (ad.1 0), .int 0, .int 11]) (rest := [.int (((107 : Int32) + ((3 : Int32) * (vM_fresh (7 : Int32).toNatClampNeg))) + (1 : Int32)), .ref (qM 16)]) ⟨hx, hb, hml, hown, ht0⟩ (kX9_after l D cy ad _ aM qM vM_91 vM_letters_91 vM_tape 0 (0 : Int32) (11 : Int32) r114 vM_114 vM_letters_114 hc114 _ rfl) (cwV 3 ht0 (gV wd806 wd807 wd808 wd744 wd809) rfl rfl rfl (by decide +kernel) ⟨Nat.le_of_ble_eq_true rfl, Nat.le_of_ble_eq_true rfl⟩) hK hN hP hD hSt hS hA [0, 3, 2] rfl (by decide) 0 8 rfl rfl rfl hl.1 rfl (Nat.le_of_ble_eq_true rfl) dX9_boxLine_114 ⟨Nat.zero_le _, Nat.zero_le _⟩) hP hD hS hA [0, 3, 2] [1] rfl rfl (by decide) (by decide) [1, 0, 3, 2] (by decide) rfl rfl (fun H locs hP hD hS => ?_)
          obtain ⟨g117, hok⟩ := gd_some hok
          refine va_iast hx hb hK hP hD hS 1 0 rfl rfl (okI_in g117) dX9_boxLine_117 (fun H locs hP hD hS => ?_)
          have hP : va_P D vwCl (wX9_boxLine cy aM qM vM_114 (upd (upd vM_fresh ((107 : Int32) + ((3 : Int32) * (vM_fresh (7 : Int32).toNatClampNeg))).toNatClampNeg y3_32) (((107 : Int32) + ((3 : Int32) * (vM_fresh (7 : Int32).toNatClampNeg))) + (1 : Int32)).toNatClampNeg r114) vM_tape vM_letters_114) H := hP
          have hD : va_D A (wX9_boxLine cy aM qM vM_114 (upd (upd vM_fresh ((107 : Int32) + ((3 : Int32) * (vM_fresh (7 : Int32).toNatClampNeg))).toNatClampNeg y3_32) (((107 : Int32) + ((3 : Int32) * (vM_fresh (7 : Int32).toNatClampNeg))) + (1 : Int32)).toNatClampNeg r114) vM_tape vM_letters_114) := hD
          refine lv_aload_n hx hb dX9_boxLine_118 rfl (lv_at hl 0 rfl) ?_
          refine va_get (D := D) (ci := 8) (v := .ref (qM 16)) (C := RX9) (T := TX9) (N := 29) hx hb ht0 niX9 hown hK hP 0 rfl rfl 16 (by decide) (ht0 _ wd778) (fun _ h9 => h9) rfl dX9_boxLine_119 ?_
          refine lv_iload_n hx hb dX9_boxLine_122 rfl (lv_at hl 2 rfl) ?_
          refine lv_iconst (v := 2) hx hb dX9_boxLine_123 (by decide) ?_
          refine lv_iadd hx hb dX9_boxLine_124 ?_
          refine lv_iload_n hx hb dX9_boxLine_125 rfl (lv_at hl 1 rfl) ?_
          obtain ⟨g126, hok⟩ := gd_some hok
          refine va_iast hx hb hK hP hD hS 1 0 rfl rfl (okI_in g126) dX9_boxLine_126 (fun H locs hP hD hS => ?_)
          have hP : va_P D vwCl (wX9_boxLine cy aM qM vM_114 (upd (upd (upd vM_fresh ((107 : Int32) + ((3 : Int32) * (vM_fresh (7 : Int32).toNatClampNeg))).toNatClampNeg y3_32) (((107 : Int32) + ((3 : Int32) * (vM_fresh (7 : Int32).toNatClampNeg))) + (1 : Int32)).toNatClampNeg r114) (((107 : Int32) + ((3 : Int32) * (vM_fresh (7 : Int32).toNatClampNeg))) + (2 : Int32)).toNatClampNeg x1) vM_tape vM_letters_114) H := hP
          have hD : va_D A (wX9_boxLine cy aM qM vM_114 (upd (upd (upd vM_fresh ((107 : Int32) + ((3 : Int32) * (vM_fresh (7 : Int32).toNatClampNeg))).toNatClampNeg y3_32) (((107 : Int32) + ((3 : Int32) * (vM_fresh (7 : Int32).toNatClampNeg))) + (1 : Int32)).toNatClampNeg r114) (((107 : Int32) + ((3 : Int32) * (vM_fresh (7 : Int32).toNatClampNeg))) + (2 : Int32)).toNatClampNeg x1) vM_tape vM_letters_114) := hD
          refine lv_aload_n hx hb dX9_boxLine_127 rfl (lv_at hl 0 rfl) ?_
          refine va_get (D := D) (ci := 8) (v := .int (vM_114 13)) (C := RX9) (T := TX9) (N := 29) hx hb ht0 niX9 hown hK hP 0 rfl rfl 13 (by decide) (ht0 _ wd757) (fun _ h9 => h9) rfl dX9_boxLine_128 ?_
          refine lv_if_ne (tgt := 145) hx hb dX9_boxLine_131 (by decide) (fun c131 => ?_) (fun c131 => ?_)
          · have hok := k_neg c131 hok
            exact J145 (upd (upd (upd vM_fresh ((107 : Int32) + ((3 : Int32) * (vM_fresh (7 : Int32).toNatClampNeg))).toNatClampNeg y3_32) (((107 : Int32) + ((3 : Int32) * (vM_fresh (7 : Int32).toNatClampNeg))) + (1 : Int32)).toNatClampNeg r114) (((107 : Int32) + ((3 : Int32) * (vM_fresh (7 : Int32).toNatClampNeg))) + (2 : Int32)).toNatClampNeg x1) vM_letters_114 vM_114 H locs ls hP hD hS (lv_sub hl [] rfl) hok
          · have hok := k_pos c131 hok
            refine lv_aload_n hx hb dX9_boxLine_134 rfl (lv_at hl 0 rfl) ?_
            refine va_get (D := D) (ci := 8) (v := .ref (qM 16)) (C := RX9) (T := TX9) (N := 29) hx hb ht0 niX9 hown hK hP 0 rfl rfl 16 (by decide) (ht0 _ wd778) (fun _ h9 => h9) rfl dX9_boxLine_135 ?_
            refine lv_bipush (v := 7) hx hb dX9_boxLine_138 (by decide) ?_
            refine lv_dup2_11 hx hb dX9_boxLine_140 rfl rfl ?_
            obtain ⟨g141, hok⟩ := gd_some hok
            refine va_iald hx hb hK hP 1 0 rfl rfl (okI_in g141) dX9_boxLine_141 ?_
            refine lv_iconst (v := 1) hx hb dX9_boxLine_142 (by decide) ?_
            refine lv_iadd hx hb dX9_boxLine_143 ?_
            obtain ⟨g144, hok⟩ := gd_some hok
            refine va_iast hx hb hK hP hD hS 1 0 rfl rfl (okI_in g144) dX9_boxLine_144 (fun H locs hP hD hS => ?_)
            have hP : va_P D vwCl (wX9_boxLine cy aM qM vM_114 (upd (upd (upd (upd vM_fresh ((107 : Int32) + ((3 : Int32) * (vM_fresh (7 : Int32).toNatClampNeg))).toNatClampNeg y3_32) (((107 : Int32) + ((3 : Int32) * (vM_fresh (7 : Int32).toNatClampNeg))) + (1 : Int32)).toNatClampNeg r114) (((107 : Int32) + ((3 : Int32) * (vM_fresh (7 : Int32).toNatClampNeg))) + (2 : Int32)).toNatClampNeg x1) (7 : Int32).toNatClampNeg (((upd (upd (upd vM_fresh ((107 : Int32) + ((3 : Int32) * (vM_fresh (7 : Int32).toNatClampNeg))).toNatClampNeg y3_32) (((107 : Int32) + ((3 : Int32) * (vM_fresh (7 : Int32).toNatClampNeg))) + (1 : Int32)).toNatClampNeg r114) (((107 : Int32) + ((3 : Int32) * (vM_fresh (7 : Int32).toNatClampNeg))) + (2 : Int32)).toNatClampNeg x1) (7 : Int32).toNatClampNeg) + (1 : Int32))) vM_tape vM_letters_114) H := hP
            have hD : va_D A (wX9_boxLine cy aM qM vM_114 (upd (upd (upd (upd vM_fresh ((107 : Int32) + ((3 : Int32) * (vM_fresh (7 : Int32).toNatClampNeg))).toNatClampNeg y3_32) (((107 : Int32) + ((3 : Int32) * (vM_fresh (7 : Int32).toNatClampNeg))) + (1 : Int32)).toNatClampNeg r114) (((107 : Int32) + ((3 : Int32) * (vM_fresh (7 : Int32).toNatClampNeg))) + (2 : Int32)).toNatClampNeg x1) (7 : Int32).toNatClampNeg (((upd (upd (upd vM_fresh ((107 : Int32) + ((3 : Int32) * (vM_fresh (7 : Int32).toNatClampNeg))).toNatClampNeg y3_32) (((107 : Int32) + ((3 : Int32) * (vM_fresh (7 : Int32).toNatClampNeg))) + (1 : Int32)).toNatClampNeg r114) (((107 : Int32) + ((3 : Int32) * (vM_fresh (7 : Int32).toNatClampNeg))) + (2 : Int32)).toNatClampNeg x1) (7 : Int32).toNatClampNeg) + (1 : Int32))) vM_tape vM_letters_114) := hD
            exact J145 (upd (upd (upd (upd vM_fresh ((107 : Int32) + ((3 : Int32) * (vM_fresh (7 : Int32).toNatClampNeg))).toNatClampNeg y3_32) (((107 : Int32) + ((3 : Int32) * (vM_fresh (7 : Int32).toNatClampNeg))) + (1 : Int32)).toNatClampNeg r114) (((107 : Int32) + ((3 : Int32) * (vM_fresh (7 : Int32).toNatClampNeg))) + (2 : Int32)).toNatClampNeg x1) (7 : Int32).toNatClampNeg (((upd (upd (upd vM_fresh ((107 : Int32) + ((3 : Int32) * (vM_fresh (7 : Int32).toNatClampNeg))).toNatClampNeg y3_32) (((107 : Int32) + ((3 : Int32) * (vM_fresh (7 : Int32).toNatClampNeg))) + (1 : Int32)).toNatClampNeg r114) (((107 : Int32) + ((3 : Int32) * (vM_fresh (7 : Int32).toNatClampNeg))) + (2 : Int32)).toNatClampNeg x1) (7 : Int32).toNatClampNeg) + (1 : Int32))) vM_letters_114 vM_114 H locs ls hP hD hS (lv_sub hl [] rfl) hok
        · have hok := k_neg c86 hok
          cases hok
          subst hQe; exact W.vret hx hb hr (fun t ht hW => ⟨⟨(), rfl, trivial, by rw [ht]; exact hP, va_K.moved hW.alike hK, hD⟩, hS.F ht⟩) hS.2.2 dX9_boxLine_89
      · have hok := k_neg c41 hok
        refine lv_aload_n hx hb dX9_boxLine_44 rfl (lv_at hl 0 rfl) ?_
        refine va_get (D := D) (ci := 8) (v := .int (vM_32 13)) (C := RX9) (T := TX9) (N := 29) hx hb ht0 niX9 hown hK hP 0 rfl rfl 13 (by decide) (ht0 _ wd757) (fun _ h9 => h9) rfl dX9_boxLine_45 ?_
        refine lv_if_ne (tgt := 76) hx hb dX9_boxLine_48 (by decide) (fun c48 => ?_) (fun c48 => ?_)
        · have hok := k_neg c48 hok
          exact J76 vM_32 H locs ls hP hD hS (lv_sub hl [0, 1, 2, 3, 4] rfl) hok
        · have hok := k_pos c48 hok
          refine lv_aload_n hx hb dX9_boxLine_51 rfl (lv_at hl 0 rfl) ?_
          refine va_get (D := D) (ci := 8) (v := .ref (qM 16)) (C := RX9) (T := TX9) (N := 29) hx hb ht0 niX9 hown hK hP 0 rfl rfl 16 (by decide) (ht0 _ wd778) (fun _ h9 => h9) rfl dX9_boxLine_52 ?_
          refine lv_bipush (v := 107) hx hb dX9_boxLine_55 (by decide) ?_
          refine lv_iconst (v := 3) hx hb dX9_boxLine_57 (by decide) ?_
          refine lv_iload hx hb dX9_boxLine_58 (lv_at hl 4 rfl) ?_
          refine lv_imul hx hb dX9_boxLine_60 ?_
          refine lv_iadd hx hb dX9_boxLine_61 ?_
          obtain ⟨g62, hok⟩ := gd_some hok
          refine va_iald hx hb hK hP 1 0 rfl rfl (okI_in g62) dX9_boxLine_62 ?_
          refine lv_iload_n hx hb dX9_boxLine_63 rfl (lv_at hl 3 rfl) ?_
          refine lv_icmp_ne (tgt := 76) hx hb dX9_boxLine_64 (by decide) (fun c64 => ?_) (fun c64 => ?_)
          · have hok := k_neg c64 hok
            exact J76 vM_32 H locs ls hP hD hS (lv_sub hl [0, 1, 2, 3, 4] rfl) hok
          · have hok := k_pos c64 hok
            refine lv_aload_n hx hb dX9_boxLine_67 rfl (lv_at hl 0 rfl) ?_
            refine lv_iconst (v := 3) hx hb dX9_boxLine_68 (by decide) ?_
            refine lv_aload_n hx hb dX9_boxLine_69 rfl (lv_at hl 0 rfl) ?_
            refine va_get (D := D) (ci := 8) (v := .int (vM_32 4)) (C := RX9) (T := TX9) (N := 29) hx hb ht0 niX9 hown hK hP 0 rfl rfl 4 (by decide) (ht0 _ wd756) (fun _ h9 => h9) rfl dX9_boxLine_70 ?_
            obtain ⟨vM_73, hc73, hok⟩ := k_bind hok
            refine kCv (wc := (wX9_wrong cy aM qM vM_32)) (wc2 := (wX9_wrong cy aM qM vM_73)) (wr := [(qM 16, rI cy 224 vM_fresh), (qM 1, rI cy 900 vM_tape), (qM 12, rI cy 8 vM_letters)]) (ws2 := (wX9_boxLine cy aM qM vM_73 vM_fresh vM_tape vM_letters)) (kRunV (As := [.int 3, .int (vM_32 4)]) (rest := []) ⟨hx, hb, hml, hown, ht0⟩ (kX9_wrong l D cy _ aM qM vM_32 (3 : Int32) (vM_32 4) vM_73 hc73 _ rfl) (cwV 2 ht0 (gV wd774 wd775 wd776 wd744 wd777) rfl rfl rfl (by decide +kernel) ⟨Nat.le_of_ble_eq_true rfl, Nat.le_of_ble_eq_true rfl⟩) hK hN hP hD [0] rfl (by decide) 0 8 rfl rfl rfl hl.1 rfl (Nat.le_of_ble_eq_true rfl) dX9_boxLine_73 ⟨Nat.zero_le _, Nat.zero_le _⟩) hP hD hS hA [0] [1, 2, 3] rfl rfl (by decide) (by decide) [3, 0, 1, 2] (by decide) rfl rfl (fun H locs hP hD hS => ?_)
            exact J76 vM_73 H locs ls hP hD hS (lv_sub hl [0, 1, 2, 3, 4] rfl) hok
  unfold fX9_boxLine at hok
  obtain ⟨H, hH⟩ : ∃ H, H = s.heap := ⟨_, rfl⟩
  obtain ⟨locs, hlc⟩ : ∃ x : List Loc, x = [] := ⟨_, rfl⟩
  have hP : va_P D vwCl (wX9_boxLine cy aM qM vM vM_fresh vM_tape vM_letters) H := by rw [hH]; exact hP
  have hS : va_S A s.heap H locs := by rw [hH, hlc]; exact hS
  rw [show W p l e _ s m _ below meth c s.heap [] = W p l e _ s m _ below meth c H locs from by rw [hH, hlc]]
  refine lv_aload_n hx hb dX9_boxLine_0 rfl (lv_at hl 0 rfl) ?_
  refine va_get (D := D) (ci := 8) (v := .int (vM 13)) (C := RX9) (T := TX9) (N := 29) hx hb ht0 niX9 hown hK hP 0 rfl rfl 13 (by decide) (ht0 _ wd757) (fun _ h9 => h9) rfl dX9_boxLine_1 ?_
  refine lv_if_eq (tgt := 8) hx hb dX9_boxLine_4 (by decide) (fun c4 => ?_) (fun c4 => ?_)
  · have hok := k_pos c4 hok
    refine lv_bipush (v := 107) hx hb dX9_boxLine_8 (by decide) ?_
    refine lv_iconst (v := 3) hx hb dX9_boxLine_10 (by decide) ?_
    refine lv_aload_n hx hb dX9_boxLine_11 rfl (lv_at hl 0 rfl) ?_
    refine va_get (D := D) (ci := 8) (v := .ref (qM 16)) (C := RX9) (T := TX9) (N := 29) hx hb ht0 niX9 hown hK hP 0 rfl rfl 16 (by decide) (ht0 _ wd778) (fun _ h9 => h9) rfl dX9_boxLine_12 ?_
    refine lv_bipush (v := 7) hx hb dX9_boxLine_15 (by decide) ?_
    obtain ⟨g17, hok⟩ := gd_some hok
    refine va_iald hx hb hK hP 1 0 rfl rfl (okI_in g17) dX9_boxLine_17 ?_
    refine lv_imul hx hb dX9_boxLine_18 ?_
    refine lv_iadd hx hb dX9_boxLine_19 ?_
    refine lv_istore_n (lv' := [(2, .int ((107 : Int32) + ((3 : Int32) * (vM_fresh (7 : Int32).toNatClampNeg)))), (0, .ref aM), (1, .int x1)]) hx hb dX9_boxLine_20 rfl hl (by decide) rfl (fun ls hl => ?_)
    refine lv_aload_n hx hb dX9_boxLine_21 rfl (lv_at hl 1 rfl) ?_
    refine lv_iconst (v := 0) hx hb dX9_boxLine_22 (by decide) ?_
    refine lv_bipush (v := 99) hx hb dX9_boxLine_23 (by decide) ?_
    obtain ⟨⟨r25, vM_25⟩, hc25, hok⟩ := k_bind hok
    try dsimp only at hok
    refine kCi (wc := (wX9_numberHere cy aM qM vM)) (wc2 := (wX9_numberHere cy aM qM vM_25)) (wr := [(qM 16, rI cy 224 vM_fresh), (qM 1, rI cy 900 vM_tape), (qM 12, rI cy 8 vM_letters)]) (ws2 := (wX9_boxLine cy aM qM vM_25 vM_fresh vM_tape vM_letters)) (kRunV (As := [.int 0, .int 99]) (rest := []) ⟨hx, hb, hml, hown, ht0⟩ (kX9_numberHere l D cy _ aM qM vM (0 : Int32) (99 : Int32) r25 vM_25 hc25 _ rfl) (cwV 2 ht0 (gV wd794 wd795 wd796 wd744 wd797) rfl rfl rfl (by decide +kernel) ⟨Nat.le_of_ble_eq_true rfl, Nat.le_of_ble_eq_true rfl⟩) hK hN hP hD [0] rfl (by decide) 0 8 rfl rfl rfl hl.1 rfl (Nat.le_of_ble_eq_true rfl) dX9_boxLine_25 ⟨Nat.zero_le _, Nat.zero_le _⟩) hP hD hS hA [0] [1, 2, 3] rfl rfl (by decide) (by decide) [3, 0, 1, 2] (by decide) rfl rfl (fun H locs hP hD hS => ?_)
    refine lv_istore_n (lv' := [(3, .int r25), (2, .int ((107 : Int32) + ((3 : Int32) * (vM_fresh (7 : Int32).toNatClampNeg)))), (0, .ref aM), (1, .int x1)]) hx hb dX9_boxLine_28 rfl hl (by decide) rfl (fun ls hl => ?_)
    refine lv_iconst (v := 0) hx hb dX9_boxLine_29 (by decide) ?_
    refine lv_istore (lv' := [(4, .int 0), (3, .int r25), (2, .int ((107 : Int32) + ((3 : Int32) * (vM_fresh (7 : Int32).toNatClampNeg)))), (0, .ref aM), (1, .int x1)]) hx hb dX9_boxLine_30 hl (by decide) rfl (fun ls hl => ?_)
    exact L32 5000 r25 (0 : Int32) vM_25 H locs ls hP hD hS (lv_sub hl [3, 4, 2, 1, 0] rfl) hok
  · have hok := k_neg c4 hok
    cases hok
    subst hQe; exact W.vret hx hb hr (fun t ht hW => ⟨⟨(), rfl, trivial, by rw [ht]; exact hP, va_K.moved hW.alike hK, hD⟩, hS.F ht⟩) hS.2.2 dX9_boxLine_7
