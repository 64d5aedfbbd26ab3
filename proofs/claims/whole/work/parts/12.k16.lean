def wsX9_next : List Cond := .code yX9_next cX9_next 4 none :: W0
abbrev wX9_next (cy : Nat → ClassId) (aM : Nat) (qM : Nat → Nat) (vM : Nat → Int32) (vM_tape : Nat → Int32) (vM_letters : Nat → Int32) : va_W := [(aM, oX9 vM qM), (qM 1, rI cy 900 vM_tape), (qM 12, rI cy 8 vM_letters)]
set_option maxHeartbeats 4000000 in
set_option maxRecDepth 100000 in
theorem kX9_next (l : Launch) (D : va_G) (cy : Nat → ClassId) (sz : Nat) (aM : Nat) (qM : Nat → Nat) (vM : Nat → Int32) (vM_tape : Nat → Int32) (vM_letters : Nat → Int32) (z_vM : Nat → Int32) (z_vM_letters : Nat → Int32) (hok : fX9_next vM vM_tape vM_letters = some (z_vM, z_vM_letters)) (A : Nat → Prop) (hAe : va_A (wX9_next cy aM qM vM vM_tape vM_letters) sz = A) : Met l yX9_next wsX9_next ({ frames := 1, cells := 0, slots := 0, locals := 21 } : Room) (kPre D cy [.ref aM] (wX9_next cy aM qM vM vM_tape vM_letters) sz) (kQv D cy A (wX9_next cy aM qM z_vM vM_tape z_vM_letters)) 0 0 A := by
  refine Met.ofW (cc := cX9_next) (maxL := 4) (ret := none) (by decide) rfl ?_
  intro p e s m args below meth c s₁ B hml hv
  obtain ⟨rfl, hsz, hP, hK, hD0, hN⟩ := hv
  have hx := B.exec
  have hb := B.bytes
  have hr := B.returns
  have ht0 : ∀ w ∈ W0, w.before _ s = true := fun w h => atoms_spec (ws := wsX9_next) B.pre w (List.mem_cons_of_mem _ h)
  have hown : s.vm.findClass RX9 = some m.cls := findClass_of_methodNamed B.named
  have hlocks := B.notSynchronized
  subst hsz
  have hD : va_D A (wX9_next cy aM qM vM vM_tape vM_letters) := by rw [← hAe]; exact hD0.self
  have hA : ∀ q : Nat, s.heap.size ≤ q → A q := fun q h => by rw [← hAe]; exact Or.inr h
  have hS : va_S A s.heap s.heap [] := va_S.rf
  have hl := lv_entry ([.ref aM]) (n := 4) (Nat.le_of_ble_eq_true rfl)
  rw [lg_entry_eq]
  generalize (lg_sl ([.ref aM]) ++ List.replicate (4 - (lg_sl ([.ref aM])).length) Slot.unset).toArray = ls at hl ⊢
  have hl : lv_has ls 4 [(0, .ref aM)] := hl
  generalize hQe : MQ below (kQv D cy A (wX9_next cy aM qM z_vM vM_tape z_vM_letters)) ([.ref aM] : List Value).toArray s 0 0 A = Q
  have J241 : ∀ (vM_letters_241 : Nat → Int32) (vM_241 : Nat → Int32), ∀ (H : Heap) (locs : List Loc) (ls : Array Slot), va_P D vwCl (wX9_next cy aM qM vM_241 vM_tape vM_letters_241) H → va_D A (wX9_next cy aM qM vM_241 vM_tape vM_letters_241) → va_S A s.heap H locs → lv_has ls 4 [] → fX9_next_J241 vM_letters_241 vM_241 = some (z_vM, z_vM_letters) → W p l e ({ frames := 1, cells := 0, slots := 0, locals := 21 } : Room) s m ([.ref aM] : List Value).toArray below meth c H locs 0 0 Q (F0 m 241 ls []) := by
    intro vM_letters_241 vM_241 H locs ls hP hD hS hl hok
    unfold fX9_next_J241 at hok
    cases hok
    subst hQe; exact W.vret hx hb hr (fun t ht hW => ⟨⟨(), rfl, trivial, by rw [ht]; exact hP, va_K.moved hW.alike hK, hD⟩, hS.F ht⟩) hS.2.2 dX9_next_241
  have J238 : ∀ (t0_238 : Int32) (vM_238 : Nat → Int32), ∀ (H : Heap) (locs : List Loc) (ls : Array Slot), va_P D vwCl (wX9_next cy aM qM vM_238 vM_tape vM_letters) H → va_D A (wX9_next cy aM qM vM_238 vM_tape vM_letters) → va_S A s.heap H locs → lv_has ls 4 [] → fX9_next_J238 vM_letters t0_238 vM_238 = some (z_vM, z_vM_letters) → W p l e ({ frames := 1, cells := 0, slots := 0, locals := 21 } : Room) s m ([.ref aM] : List Value).toArray below meth c H locs 0 0 Q (F0 m 238 ls [.int t0_238, .ref aM]) := by
    intro t0_238 vM_238 H locs ls hP hD hS hl hok
    unfold fX9_next_J238 at hok
    refine va_put (D := D) (ci := 8) (v := .int t0_238) (ty := .int) (C := RX9) (T := TX9) (N := 29) hx hb ht0 niX9 tyX9 tyX9_ok nmX9 hown hK hP hD hS 0 rfl rfl 6 (by decide) (ht0 _ wd740) (fun _ h9 => h9) rfl (by decide +kernel) rfl rfl (Nat.le_of_ble_eq_true rfl) dX9_next_238 (fun H locs hP hD hS => ?_)
    have hP : va_P D vwCl (wX9_next cy aM qM (upd vM_238 6 t0_238) vM_tape vM_letters) H := hP
    have hD : va_D A (wX9_next cy aM qM (upd vM_238 6 t0_238) vM_tape vM_letters) := hD
    exact J241 vM_letters (upd vM_238 6 t0_238) H locs ls hP hD hS (lv_sub hl [] rfl) hok
  have J213 : ∀ (t0_213 : Int32) (vM_213 : Nat → Int32), ∀ (H : Heap) (locs : List Loc) (ls : Array Slot), va_P D vwCl (wX9_next cy aM qM vM_213 vM_tape vM_letters) H → va_D A (wX9_next cy aM qM vM_213 vM_tape vM_letters) → va_S A s.heap H locs → lv_has ls 4 [] → fX9_next_J213 vM_letters t0_213 vM_213 = some (z_vM, z_vM_letters) → W p l e ({ frames := 1, cells := 0, slots := 0, locals := 21 } : Room) s m ([.ref aM] : List Value).toArray below meth c H locs 0 0 Q (F0 m 213 ls [.int t0_213, .ref aM]) := by
    intro t0_213 vM_213 H locs ls hP hD hS hl hok
    unfold fX9_next_J213 at hok
    refine va_put (D := D) (ci := 8) (v := .int t0_213) (ty := .int) (C := RX9) (T := TX9) (N := 29) hx hb ht0 niX9 tyX9 tyX9_ok nmX9 hown hK hP hD hS 0 rfl rfl 6 (by decide) (ht0 _ wd740) (fun _ h9 => h9) rfl (by decide +kernel) rfl rfl (Nat.le_of_ble_eq_true rfl) dX9_next_213 (fun H locs hP hD hS => ?_)
    have hP : va_P D vwCl (wX9_next cy aM qM (upd vM_213 6 t0_213) vM_tape vM_letters) H := hP
    have hD : va_D A (wX9_next cy aM qM (upd vM_213 6 t0_213) vM_tape vM_letters) := hD
    refine lv_goto (tgt := 241) hx hb dX9_next_216 (by decide) ?_
    exact J241 vM_letters (upd vM_213 6 t0_213) H locs ls hP hD hS (lv_sub hl [] rfl) hok
  have L152 : ∀ (fuel : Nat) (y1_152 : Int32) (y3_152 : Int32) (vM_152 : Nat → Int32), ∀ (H : Heap) (locs : List Loc) (ls : Array Slot), va_P D vwCl (wX9_next cy aM qM vM_152 vM_tape vM_letters) H → va_D A (wX9_next cy aM qM vM_152 vM_tape vM_letters) → va_S A s.heap H locs → lv_has ls 4 [(0, .ref aM), (1, .int y1_152), (3, .int y3_152)] → lp (fX9_next_B152 vM_tape vM_letters) fuel (y1_152, y3_152, vM_152) = some (z_vM, z_vM_letters) → W p l e ({ frames := 1, cells := 0, slots := 0, locals := 21 } : Room) s m ([.ref aM] : List Value).toArray below meth c H locs 0 0 Q (F0 m 152 ls []) := by
    intro fuel
    induction fuel with
    | zero => intro y1_152 y3_152 vM_152 H locs ls hP hD hS hl hok; exact (lp_0 hok).elim
    | succ fuel ih152 =>
      intro y1_152 y3_152 vM_152 H locs ls hP hD hS hl hok
      obtain ⟨y152, hok, hL152, hR152⟩ := lp_step hok
      have J188 : ∀ (vM_188 : Nat → Int32), ∀ (H : Heap) (locs : List Loc) (ls : Array Slot), va_P D vwCl (wX9_next cy aM qM vM_188 vM_tape vM_letters) H → va_D A (wX9_next cy aM qM vM_188 vM_tape vM_letters) → va_S A s.heap H locs → lv_has ls 4 [(0, .ref aM), (1, .int y1_152), (3, .int y3_152)] → fX9_next_J188 y1_152 y3_152 vM_188 = some y152 → W p l e ({ frames := 1, cells := 0, slots := 0, locals := 21 } : Room) s m ([.ref aM] : List Value).toArray below meth c H locs 0 0 Q (F0 m 188 ls []) := by
        intro vM_188 H locs ls hP hD hS hl hok
        unfold fX9_next_J188 at hok
        refine lv_iinc (v := (y3_152 + 1)) (lv' := [(3, .int (y3_152 + 1)), (0, .ref aM), (1, .int y1_152)]) hx hb dX9_next_188 hl (k := 2) rfl (by first | rfl | decide) (by decide) rfl (fun ls hl => ?_)
        refine lv_iinc (v := (y1_152 + 1)) (lv' := [(1, .int (y1_152 + 1)), (3, .int (y3_152 + 1)), (0, .ref aM)]) hx hb dX9_next_191 hl (k := 2) rfl (by first | rfl | decide) (by decide) rfl (fun ls hl => ?_)
        refine lv_goto (tgt := 152) hx hb dX9_next_194 (by decide) ?_
        exact ih152 (y1_152 + 1) (y3_152 + 1) vM_188 H locs ls hP hD hS (lv_sub hl [2, 0, 1] rfl) (hR152 _ (Option.some.inj hok).symm)
      unfold fX9_next_B152 at hok
      try dsimp only at hok
      refine lv_aload_n hx hb dX9_next_152 rfl (lv_at hl 0 rfl) ?_
      refine lv_iload_n hx hb dX9_next_153 rfl (lv_at hl 1 rfl) ?_
      obtain ⟨r154, hc154, hok⟩ := k_bind hok
      refine kCi (wc := (wX9_look1 cy aM qM vM_152 vM_tape)) (wc2 := (wX9_look1 cy aM qM vM_152 vM_tape)) (wr := [(qM 12, rI cy 8 vM_letters)]) (ws2 := (wX9_next cy aM qM vM_152 vM_tape vM_letters)) (kRunV (As := [.int y1_152]) (rest := []) ⟨hx, hb, hml, hown, ht0⟩ (kX9_look1 l D cy _ aM qM vM_152 vM_tape y1_152 r154 hc154 _ rfl) (cwV 1 ht0 (gV wd741 wd742 wd743 wd744 wd745) rfl rfl rfl (by decide +kernel) ⟨Nat.le_of_ble_eq_true rfl, Nat.le_of_ble_eq_true rfl⟩) hK hN hP hD [0, 1] rfl (by decide) 0 8 rfl rfl rfl hl.1 rfl (Nat.le_of_ble_eq_true rfl) dX9_next_154 ⟨Nat.zero_le _, Nat.zero_le _⟩) hP hD hS hA [0, 1] [2] rfl rfl (by decide) (by decide) [1, 2, 0] (by decide) rfl rfl (fun H locs hP hD hS => ?_)
      obtain ⟨r157, hc157, hok⟩ := k_bind hok
      refine kCi (wc := (wX9_isDigit cy )) (wc2 := (wX9_isDigit cy )) (wr := [(aM, oX9 vM_152 qM), (qM 1, rI cy 900 vM_tape), (qM 12, rI cy 8 vM_letters)]) (ws2 := (wX9_next cy aM qM vM_152 vM_tape vM_letters)) (kRunS (As := [.int r154]) (rest := []) ⟨hx, hb, hml, hown, ht0⟩ (kX9_isDigit l D cy _ r154 r157 hc157 _ rfl) (va_cwS 1 ht0 (gS wd746 wd747 wd744 wd748) rfl rfl rfl (by decide +kernel) ⟨Nat.le_of_ble_eq_true rfl, Nat.le_of_ble_eq_true rfl⟩) hK hN hP hD [] rfl (by decide) rfl hl.1 rfl (Nat.le_of_ble_eq_true rfl) dX9_next_157 ⟨Nat.zero_le _, Nat.zero_le _⟩) hP hD hS hA [] [0, 1, 2] rfl rfl (by decide) (by decide) [0, 1, 2] (by decide) rfl rfl (fun H locs hP hD hS => ?_)
      refine lv_if_eq (tgt := 197) hx hb dX9_next_160 (by decide) (fun c160 => ?_) (fun c160 => ?_)
      · have hok := k_pos c160 hok
        obtain ⟨e152, hok, he152⟩ := ex_some hok
        have hok := hok.trans (congrArg some (hL152 _ he152))
        refine lv_aload_n hx hb dX9_next_197 rfl (lv_at hl 0 rfl) ?_
        refine lv_iload_n hx hb dX9_next_198 rfl (lv_at hl 1 rfl) ?_
        refine va_put (D := D) (ci := 8) (v := .int y1_152) (ty := .int) (C := RX9) (T := TX9) (N := 29) hx hb ht0 niX9 tyX9 tyX9_ok nmX9 hown hK hP hD hS 0 rfl rfl 5 (by decide) (ht0 _ wd749) (fun _ h9 => h9) rfl (by decide +kernel) rfl rfl (Nat.le_of_ble_eq_true rfl) dX9_next_199 (fun H locs hP hD hS => ?_)
        have hP : va_P D vwCl (wX9_next cy aM qM (upd vM_152 5 y1_152) vM_tape vM_letters) H := hP
        have hD : va_D A (wX9_next cy aM qM (upd vM_152 5 y1_152) vM_tape vM_letters) := hD
        refine lv_aload_n hx hb dX9_next_202 rfl (lv_at hl 0 rfl) ?_
        refine lv_iload_n hx hb dX9_next_203 rfl (lv_at hl 2 rfl) ?_
        refine lv_iconst (v := 3) hx hb dX9_next_204 (by decide) ?_
        refine lv_icmp_le (tgt := 212) hx hb dX9_next_205 (by decide) (fun c205 => ?_) (fun c205 => ?_)
        · have hok := k_pos c205 hok
          refine lv_iconst (v := 3) hx hb dX9_next_212 (by decide) ?_
          exact J213 (3 : Int32) (upd vM_152 5 y1_152) H locs ls hP hD hS (lv_sub hl [] rfl) hok
        · have hok := k_neg c205 hok
          refine lv_iconst (v := 1) hx hb dX9_next_208 (by decide) ?_
          refine lv_goto (tgt := 213) hx hb dX9_next_209 (by decide) ?_
          exact J213 (1 : Int32) (upd vM_152 5 y1_152) H locs ls hP hD hS (lv_sub hl [] rfl) hok
      · have hok := k_neg c160 hok
        refine lv_iload_n hx hb dX9_next_163 rfl (lv_at hl 2 rfl) ?_
        refine lv_iconst (v := 3) hx hb dX9_next_164 (by decide) ?_
        refine lv_icmp_ge (tgt := 188) hx hb dX9_next_165 (by decide) (fun c165 => ?_) (fun c165 => ?_)
        · have hok := k_pos c165 hok
          exact J188 vM_152 H locs ls hP hD hS (lv_sub hl [0, 1, 2] rfl) hok
        · have hok := k_neg c165 hok
          refine lv_aload_n hx hb dX9_next_168 rfl (lv_at hl 0 rfl) ?_
          refine lv_bipush (v := 10) hx hb dX9_next_169 (by decide) ?_
          refine lv_aload_n hx hb dX9_next_171 rfl (lv_at hl 0 rfl) ?_
          refine va_get (D := D) (ci := 8) (v := .int (vM_152 7)) (C := RX9) (T := TX9) (N := 29) hx hb ht0 niX9 hown hK hP 0 rfl rfl 7 (by decide) (ht0 _ wd750) (fun _ h9 => h9) rfl dX9_next_172 ?_
          refine lv_imul hx hb dX9_next_175 ?_
          refine lv_aload_n hx hb dX9_next_176 rfl (lv_at hl 0 rfl) ?_
          refine lv_iload_n hx hb dX9_next_177 rfl (lv_at hl 1 rfl) ?_
          obtain ⟨r178, hc178, hok⟩ := k_bind hok
          refine kCi (wc := (wX9_look1 cy aM qM vM_152 vM_tape)) (wc2 := (wX9_look1 cy aM qM vM_152 vM_tape)) (wr := [(qM 12, rI cy 8 vM_letters)]) (ws2 := (wX9_next cy aM qM vM_152 vM_tape vM_letters)) (kRunV (As := [.int y1_152]) (rest := [.int ((10 : Int32) * (vM_152 7)), .ref aM]) ⟨hx, hb, hml, hown, ht0⟩ (kX9_look1 l D cy _ aM qM vM_152 vM_tape y1_152 r178 hc178 _ rfl) (cwV 1 ht0 (gV wd741 wd742 wd743 wd744 wd745) rfl rfl rfl (by decide +kernel) ⟨Nat.le_of_ble_eq_true rfl, Nat.le_of_ble_eq_true rfl⟩) hK hN hP hD [0, 1] rfl (by decide) 0 8 rfl rfl rfl hl.1 rfl (Nat.le_of_ble_eq_true rfl) dX9_next_178 ⟨Nat.zero_le _, Nat.zero_le _⟩) hP hD hS hA [0, 1] [2] rfl rfl (by decide) (by decide) [1, 2, 0] (by decide) rfl rfl (fun H locs hP hD hS => ?_)
          refine lv_iadd hx hb dX9_next_181 ?_
          refine lv_bipush (v := 48) hx hb dX9_next_182 (by decide) ?_
          refine lv_isub hx hb dX9_next_184 ?_
          refine va_put (D := D) (ci := 8) (v := .int ((((10 : Int32) * (vM_152 7)) + r178) - (48 : Int32))) (ty := .int) (C := RX9) (T := TX9) (N := 29) hx hb ht0 niX9 tyX9 tyX9_ok nmX9 hown hK hP hD hS 0 rfl rfl 7 (by decide) (ht0 _ wd750) (fun _ h9 => h9) rfl (by decide +kernel) rfl rfl (Nat.le_of_ble_eq_true rfl) dX9_next_185 (fun H locs hP hD hS => ?_)
          have hP : va_P D vwCl (wX9_next cy aM qM (upd vM_152 7 ((((10 : Int32) * (vM_152 7)) + r178) - (48 : Int32))) vM_tape vM_letters) H := hP
          have hD : va_D A (wX9_next cy aM qM (upd vM_152 7 ((((10 : Int32) * (vM_152 7)) + r178) - (48 : Int32))) vM_tape vM_letters) := hD
          exact J188 (upd vM_152 7 ((((10 : Int32) * (vM_152 7)) + r178) - (48 : Int32))) H locs ls hP hD hS (lv_sub hl [0, 1, 2] rfl) hok
  have J137 : ∀ (t0_137 : Int32) (vM_letters_137 : Nat → Int32) (vM_137 : Nat → Int32), ∀ (H : Heap) (locs : List Loc) (ls : Array Slot), va_P D vwCl (wX9_next cy aM qM vM_137 vM_tape vM_letters_137) H → va_D A (wX9_next cy aM qM vM_137 vM_tape vM_letters_137) → va_S A s.heap H locs → lv_has ls 4 [] → fX9_next_J137 t0_137 vM_letters_137 vM_137 = some (z_vM, z_vM_letters) → W p l e ({ frames := 1, cells := 0, slots := 0, locals := 21 } : Room) s m ([.ref aM] : List Value).toArray below meth c H locs 0 0 Q (F0 m 137 ls [.int t0_137, .ref aM]) := by
    intro t0_137 vM_letters_137 vM_137 H locs ls hP hD hS hl hok
    unfold fX9_next_J137 at hok
    refine va_put (D := D) (ci := 8) (v := .int t0_137) (ty := .int) (C := RX9) (T := TX9) (N := 29) hx hb ht0 niX9 tyX9 tyX9_ok nmX9 hown hK hP hD hS 0 rfl rfl 6 (by decide) (ht0 _ wd740) (fun _ h9 => h9) rfl (by decide +kernel) rfl rfl (Nat.le_of_ble_eq_true rfl) dX9_next_137 (fun H locs hP hD hS => ?_)
    have hP : va_P D vwCl (wX9_next cy aM qM (upd vM_137 6 t0_137) vM_tape vM_letters_137) H := hP
    have hD : va_D A (wX9_next cy aM qM (upd vM_137 6 t0_137) vM_tape vM_letters_137) := hD
    refine lv_goto (tgt := 241) hx hb dX9_next_140 (by decide) ?_
    exact J241 vM_letters_137 (upd vM_137 6 t0_137) H locs ls hP hD hS (lv_sub hl [] rfl) hok
  have L67 : ∀ (fuel : Nat) (y1_67 : Int32) (vM_letters_67 : Nat → Int32) (vM_67 : Nat → Int32), ∀ (H : Heap) (locs : List Loc) (ls : Array Slot), va_P D vwCl (wX9_next cy aM qM vM_67 vM_tape vM_letters_67) H → va_D A (wX9_next cy aM qM vM_67 vM_tape vM_letters_67) → va_S A s.heap H locs → lv_has ls 4 [(0, .ref aM), (1, .int y1_67)] → lp (fX9_next_B67 vM_tape) fuel (y1_67, vM_letters_67, vM_67) = some (z_vM, z_vM_letters) → W p l e ({ frames := 1, cells := 0, slots := 0, locals := 21 } : Room) s m ([.ref aM] : List Value).toArray below meth c H locs 0 0 Q (F0 m 67 ls []) := by
    intro fuel
    induction fuel with
    | zero => intro y1_67 vM_letters_67 vM_67 H locs ls hP hD hS hl hok; exact (lp_0 hok).elim
    | succ fuel ih67 =>
      intro y1_67 vM_letters_67 vM_67 H locs ls hP hD hS hl hok
      obtain ⟨y67, hok, hL67, hR67⟩ := lp_step hok
      have J101 : ∀ (vM_letters_101 : Nat → Int32), ∀ (H : Heap) (locs : List Loc) (ls : Array Slot), va_P D vwCl (wX9_next cy aM qM vM_67 vM_tape vM_letters_101) H → va_D A (wX9_next cy aM qM vM_67 vM_tape vM_letters_101) → va_S A s.heap H locs → lv_has ls 4 [(0, .ref aM), (1, .int y1_67)] → fX9_next_J101 y1_67 vM_67 vM_letters_101 = some y67 → W p l e ({ frames := 1, cells := 0, slots := 0, locals := 21 } : Room) s m ([.ref aM] : List Value).toArray below meth c H locs 0 0 Q (F0 m 101 ls []) := by
        intro vM_letters_101 H locs ls hP hD hS hl hok
        unfold fX9_next_J101 at hok
        refine lv_aload_n hx hb dX9_next_101 rfl (lv_at hl 0 rfl) ?_
        refine lv_dup hx hb dX9_next_102 rfl ?_
        refine va_get (D := D) (ci := 8) (v := .int (vM_67 8)) (C := RX9) (T := TX9) (N := 29) hx hb ht0 niX9 hown hK hP 0 rfl rfl 8 (by decide) (ht0 _ wd751) (fun _ h9 => h9) rfl dX9_next_103 ?_
        refine lv_iconst (v := 1) hx hb dX9_next_106 (by decide) ?_
        refine lv_iadd hx hb dX9_next_107 ?_
        refine va_put (D := D) (ci := 8) (v := .int ((vM_67 8) + (1 : Int32))) (ty := .int) (C := RX9) (T := TX9) (N := 29) hx hb ht0 niX9 tyX9 tyX9_ok nmX9 hown hK hP hD hS 0 rfl rfl 8 (by decide) (ht0 _ wd751) (fun _ h9 => h9) rfl (by decide +kernel) rfl rfl (Nat.le_of_ble_eq_true rfl) dX9_next_108 (fun H locs hP hD hS => ?_)
        have hP : va_P D vwCl (wX9_next cy aM qM (upd vM_67 8 ((vM_67 8) + (1 : Int32))) vM_tape vM_letters_101) H := hP
        have hD : va_D A (wX9_next cy aM qM (upd vM_67 8 ((vM_67 8) + (1 : Int32))) vM_tape vM_letters_101) := hD
        refine lv_iinc (v := (y1_67 + 1)) (lv' := [(1, .int (y1_67 + 1)), (0, .ref aM)]) hx hb dX9_next_111 hl (k := 1) rfl (by first | rfl | decide) (by decide) rfl (fun ls hl => ?_)
        refine lv_goto (tgt := 67) hx hb dX9_next_114 (by decide) ?_
        exact ih67 (y1_67 + 1) vM_letters_101 (upd vM_67 8 ((vM_67 8) + (1 : Int32))) H locs ls hP hD hS (lv_sub hl [1, 0] rfl) (hR67 _ (Option.some.inj hok).symm)
      unfold fX9_next_B67 at hok
      try dsimp only at hok
      refine lv_aload_n hx hb dX9_next_67 rfl (lv_at hl 0 rfl) ?_
      refine lv_iload_n hx hb dX9_next_68 rfl (lv_at hl 1 rfl) ?_
      obtain ⟨r69, hc69, hok⟩ := k_bind hok
      refine kCi (wc := (wX9_look1 cy aM qM vM_67 vM_tape)) (wc2 := (wX9_look1 cy aM qM vM_67 vM_tape)) (wr := [(qM 12, rI cy 8 vM_letters_67)]) (ws2 := (wX9_next cy aM qM vM_67 vM_tape vM_letters_67)) (kRunV (As := [.int y1_67]) (rest := []) ⟨hx, hb, hml, hown, ht0⟩ (kX9_look1 l D cy _ aM qM vM_67 vM_tape y1_67 r69 hc69 _ rfl) (cwV 1 ht0 (gV wd741 wd742 wd743 wd744 wd745) rfl rfl rfl (by decide +kernel) ⟨Nat.le_of_ble_eq_true rfl, Nat.le_of_ble_eq_true rfl⟩) hK hN hP hD [0, 1] rfl (by decide) 0 8 rfl rfl rfl hl.1 rfl (Nat.le_of_ble_eq_true rfl) dX9_next_69 ⟨Nat.zero_le _, Nat.zero_le _⟩) hP hD hS hA [0, 1] [2] rfl rfl (by decide) (by decide) [1, 2, 0] (by decide) rfl rfl (fun H locs hP hD hS => ?_)
      obtain ⟨r72, hc72, hok⟩ := k_bind hok
      refine kCi (wc := (wX9_isSmall cy )) (wc2 := (wX9_isSmall cy )) (wr := [(aM, oX9 vM_67 qM), (qM 1, rI cy 900 vM_tape), (qM 12, rI cy 8 vM_letters_67)]) (ws2 := (wX9_next cy aM qM vM_67 vM_tape vM_letters_67)) (kRunS (As := [.int r69]) (rest := []) ⟨hx, hb, hml, hown, ht0⟩ (kX9_isSmall l D cy _ r69 r72 hc72 _ rfl) (va_cwS 1 ht0 (gS wd752 wd753 wd744 wd754) rfl rfl rfl (by decide +kernel) ⟨Nat.le_of_ble_eq_true rfl, Nat.le_of_ble_eq_true rfl⟩) hK hN hP hD [] rfl (by decide) rfl hl.1 rfl (Nat.le_of_ble_eq_true rfl) dX9_next_72 ⟨Nat.zero_le _, Nat.zero_le _⟩) hP hD hS hA [] [0, 1, 2] rfl rfl (by decide) (by decide) [0, 1, 2] (by decide) rfl rfl (fun H locs hP hD hS => ?_)
      refine lv_if_eq (tgt := 117) hx hb dX9_next_75 (by decide) (fun c75 => ?_) (fun c75 => ?_)
      · have hok := k_pos c75 hok
        obtain ⟨e67, hok, he67⟩ := ex_some hok
        have hok := hok.trans (congrArg some (hL67 _ he67))
        refine lv_aload_n hx hb dX9_next_117 rfl (lv_at hl 0 rfl) ?_
        refine lv_iload_n hx hb dX9_next_118 rfl (lv_at hl 1 rfl) ?_
        refine va_put (D := D) (ci := 8) (v := .int y1_67) (ty := .int) (C := RX9) (T := TX9) (N := 29) hx hb ht0 niX9 tyX9 tyX9_ok nmX9 hown hK hP hD hS 0 rfl rfl 5 (by decide) (ht0 _ wd749) (fun _ h9 => h9) rfl (by decide +kernel) rfl rfl (Nat.le_of_ble_eq_true rfl) dX9_next_119 (fun H locs hP hD hS => ?_)
        have hP : va_P D vwCl (wX9_next cy aM qM (upd vM_67 5 y1_67) vM_tape vM_letters_67) H := hP
        have hD : va_D A (wX9_next cy aM qM (upd vM_67 5 y1_67) vM_tape vM_letters_67) := hD
        refine lv_aload_n hx hb dX9_next_122 rfl (lv_at hl 0 rfl) ?_
        refine lv_aload_n hx hb dX9_next_123 rfl (lv_at hl 0 rfl) ?_
        refine va_get (D := D) (ci := 8) (v := .int (vM_67 8)) (C := RX9) (T := TX9) (N := 29) hx hb ht0 niX9 hown hK hP 0 rfl rfl 8 (by decide) (ht0 _ wd751) (fun _ h9 => h9) rfl dX9_next_124 ?_
        refine lv_bipush (v := 8) hx hb dX9_next_127 (by decide) ?_
        refine lv_icmp_le (tgt := 136) hx hb dX9_next_129 (by decide) (fun c129 => ?_) (fun c129 => ?_)
        · have hok := k_pos c129 hok
          refine lv_iconst (v := 2) hx hb dX9_next_136 (by decide) ?_
          exact J137 (2 : Int32) vM_letters_67 (upd vM_67 5 y1_67) H locs ls hP hD hS (lv_sub hl [] rfl) hok
        · have hok := k_neg c129 hok
          refine lv_iconst (v := 1) hx hb dX9_next_132 (by decide) ?_
          refine lv_goto (tgt := 137) hx hb dX9_next_133 (by decide) ?_
          exact J137 (1 : Int32) vM_letters_67 (upd vM_67 5 y1_67) H locs ls hP hD hS (lv_sub hl [] rfl) hok
      · have hok := k_neg c75 hok
        refine lv_aload_n hx hb dX9_next_78 rfl (lv_at hl 0 rfl) ?_
        refine va_get (D := D) (ci := 8) (v := .int (vM_67 8)) (C := RX9) (T := TX9) (N := 29) hx hb ht0 niX9 hown hK hP 0 rfl rfl 8 (by decide) (ht0 _ wd751) (fun _ h9 => h9) rfl dX9_next_79 ?_
        refine lv_bipush (v := 8) hx hb dX9_next_82 (by decide) ?_
        refine lv_icmp_ge (tgt := 101) hx hb dX9_next_84 (by decide) (fun c84 => ?_) (fun c84 => ?_)
        · have hok := k_pos c84 hok
          exact J101 vM_letters_67 H locs ls hP hD hS (lv_sub hl [0, 1] rfl) hok
        · have hok := k_neg c84 hok
          refine lv_aload_n hx hb dX9_next_87 rfl (lv_at hl 0 rfl) ?_
          refine va_get (D := D) (ci := 8) (v := .ref (qM 12)) (C := RX9) (T := TX9) (N := 29) hx hb ht0 niX9 hown hK hP 0 rfl rfl 12 (by decide) (ht0 _ wd755) (fun _ h9 => h9) rfl dX9_next_88 ?_
          refine lv_aload_n hx hb dX9_next_91 rfl (lv_at hl 0 rfl) ?_
          refine va_get (D := D) (ci := 8) (v := .int (vM_67 8)) (C := RX9) (T := TX9) (N := 29) hx hb ht0 niX9 hown hK hP 0 rfl rfl 8 (by decide) (ht0 _ wd751) (fun _ h9 => h9) rfl dX9_next_92 ?_
          refine lv_aload_n hx hb dX9_next_95 rfl (lv_at hl 0 rfl) ?_
          refine lv_iload_n hx hb dX9_next_96 rfl (lv_at hl 1 rfl) ?_
          obtain ⟨r97, hc97, hok⟩ := k_bind hok
          refine kCi (wc := (wX9_look1 cy aM qM vM_67 vM_tape)) (wc2 := (wX9_look1 cy aM qM vM_67 vM_tape)) (wr := [(qM 12, rI cy 8 vM_letters_67)]) (ws2 := (wX9_next cy aM qM vM_67 vM_tape vM_letters_67)) (kRunV (As := [.int y1_67]) (rest := [.int (vM_67 8), .ref (qM 12)]) ⟨hx, hb, hml, hown, ht0⟩ (kX9_look1 l D cy _ aM qM vM_67 vM_tape y1_67 r97 hc97 _ rfl) (cwV 1 ht0 (gV wd741 wd742 wd743 wd744 wd745) rfl rfl rfl (by decide +kernel) ⟨Nat.le_of_ble_eq_true rfl, Nat.le_of_ble_eq_true rfl⟩) hK hN hP hD [0, 1] rfl (by decide) 0 8 rfl rfl rfl hl.1 rfl (Nat.le_of_ble_eq_true rfl) dX9_next_97 ⟨Nat.zero_le _, Nat.zero_le _⟩) hP hD hS hA [0, 1] [2] rfl rfl (by decide) (by decide) [1, 2, 0] (by decide) rfl rfl (fun H locs hP hD hS => ?_)
          obtain ⟨g100, hok⟩ := gd_some hok
          refine va_iast hx hb hK hP hD hS 2 0 rfl rfl (okI_in g100) dX9_next_100 (fun H locs hP hD hS => ?_)
          have hP : va_P D vwCl (wX9_next cy aM qM vM_67 vM_tape (upd vM_letters_67 (vM_67 8).toNatClampNeg r97)) H := hP
          have hD : va_D A (wX9_next cy aM qM vM_67 vM_tape (upd vM_letters_67 (vM_67 8).toNatClampNeg r97)) := hD
          exact J101 (upd vM_letters_67 (vM_67 8).toNatClampNeg r97) H locs ls hP hD hS (lv_sub hl [0, 1] rfl) hok
  have L5 : ∀ (fuel : Nat) (y1_5 : Int32), ∀ (H : Heap) (locs : List Loc) (ls : Array Slot), va_P D vwCl (wX9_next cy aM qM vM vM_tape vM_letters) H → va_D A (wX9_next cy aM qM vM vM_tape vM_letters) → va_S A s.heap H locs → lv_has ls 4 [(0, .ref aM), (1, .int y1_5)] → lp (fX9_next_B5 vM vM_tape vM_letters) fuel y1_5 = some (z_vM, z_vM_letters) → W p l e ({ frames := 1, cells := 0, slots := 0, locals := 21 } : Room) s m ([.ref aM] : List Value).toArray below meth c H locs 0 0 Q (F0 m 5 ls []) := by
    intro fuel
    induction fuel with
    | zero => intro y1_5 H locs ls hP hD hS hl hok; exact (lp_0 hok).elim
    | succ fuel ih5 =>
      intro y1_5 H locs ls hP hD hS hl hok
      obtain ⟨y5, hok, hL5, hR5⟩ := lp_step hok
      unfold fX9_next_B5 at hok
      refine lv_aload_n hx hb dX9_next_5 rfl (lv_at hl 0 rfl) ?_
      refine lv_iload_n hx hb dX9_next_6 rfl (lv_at hl 1 rfl) ?_
      obtain ⟨r7, hc7, hok⟩ := k_bind hok
      refine kCi (wc := (wX9_look1 cy aM qM vM vM_tape)) (wc2 := (wX9_look1 cy aM qM vM vM_tape)) (wr := [(qM 12, rI cy 8 vM_letters)]) (ws2 := (wX9_next cy aM qM vM vM_tape vM_letters)) (kRunV (As := [.int y1_5]) (rest := []) ⟨hx, hb, hml, hown, ht0⟩ (kX9_look1 l D cy _ aM qM vM vM_tape y1_5 r7 hc7 _ rfl) (cwV 1 ht0 (gV wd741 wd742 wd743 wd744 wd745) rfl rfl rfl (by decide +kernel) ⟨Nat.le_of_ble_eq_true rfl, Nat.le_of_ble_eq_true rfl⟩) hK hN hP hD [0, 1] rfl (by decide) 0 8 rfl rfl rfl hl.1 rfl (Nat.le_of_ble_eq_true rfl) dX9_next_7 ⟨Nat.zero_le _, Nat.zero_le _⟩) hP hD hS hA [0, 1] [2] rfl rfl (by decide) (by decide) [1, 2, 0] (by decide) rfl rfl (fun H locs hP hD hS => ?_)
      refine lv_bipush (v := 32) hx hb dX9_next_10 (by decide) ?_
      refine lv_icmp_ne (tgt := 21) hx hb dX9_next_12 (by decide) (fun c12 => ?_) (fun c12 => ?_)
      · have hok := k_neg c12 hok
        obtain ⟨e5, hok, he5⟩ := ex_some hok
        have hok := hok.trans (congrArg some (hL5 _ he5))
        refine lv_aload_n hx hb dX9_next_21 rfl (lv_at hl 0 rfl) ?_
        refine lv_iload_n hx hb dX9_next_22 rfl (lv_at hl 1 rfl) ?_
        refine va_put (D := D) (ci := 8) (v := .int y1_5) (ty := .int) (C := RX9) (T := TX9) (N := 29) hx hb ht0 niX9 tyX9 tyX9_ok nmX9 hown hK hP hD hS 0 rfl rfl 4 (by decide) (ht0 _ wd756) (fun _ h9 => h9) rfl (by decide +kernel) rfl rfl (Nat.le_of_ble_eq_true rfl) dX9_next_23 (fun H locs hP hD hS => ?_)
        have hP : va_P D vwCl (wX9_next cy aM qM (upd vM 4 y1_5) vM_tape vM_letters) H := hP
        have hD : va_D A (wX9_next cy aM qM (upd vM 4 y1_5) vM_tape vM_letters) := hD
        refine lv_aload_n hx hb dX9_next_26 rfl (lv_at hl 0 rfl) ?_
        refine lv_iload_n hx hb dX9_next_27 rfl (lv_at hl 1 rfl) ?_
        obtain ⟨r28, hc28, hok⟩ := k_bind hok
        refine kCi (wc := (wX9_look1 cy aM qM (upd vM 4 y1_5) vM_tape)) (wc2 := (wX9_look1 cy aM qM (upd vM 4 y1_5) vM_tape)) (wr := [(qM 12, rI cy 8 vM_letters)]) (ws2 := (wX9_next cy aM qM (upd vM 4 y1_5) vM_tape vM_letters)) (kRunV (As := [.int y1_5]) (rest := []) ⟨hx, hb, hml, hown, ht0⟩ (kX9_look1 l D cy _ aM qM (upd vM 4 y1_5) vM_tape y1_5 r28 hc28 _ rfl) (cwV 1 ht0 (gV wd741 wd742 wd743 wd744 wd745) rfl rfl rfl (by decide +kernel) ⟨Nat.le_of_ble_eq_true rfl, Nat.le_of_ble_eq_true rfl⟩) hK hN hP hD [0, 1] rfl (by decide) 0 8 rfl rfl rfl hl.1 rfl (Nat.le_of_ble_eq_true rfl) dX9_next_28 ⟨Nat.zero_le _, Nat.zero_le _⟩) hP hD hS hA [0, 1] [2] rfl rfl (by decide) (by decide) [1, 2, 0] (by decide) rfl rfl (fun H locs hP hD hS => ?_)
        refine lv_istore_n (lv' := [(2, .int r28), (0, .ref aM), (1, .int y1_5)]) hx hb dX9_next_31 rfl hl (by decide) rfl (fun ls hl => ?_)
        refine lv_aload_n hx hb dX9_next_32 rfl (lv_at hl 1 rfl) ?_
        refine lv_iconst (v := 0) hx hb dX9_next_33 (by decide) ?_
        refine va_put (D := D) (ci := 8) (v := .int 0) (ty := .int) (C := RX9) (T := TX9) (N := 29) hx hb ht0 niX9 tyX9 tyX9_ok nmX9 hown hK hP hD hS 0 rfl rfl 8 (by decide) (ht0 _ wd751) (fun _ h9 => h9) rfl (by decide +kernel) rfl rfl (Nat.le_of_ble_eq_true rfl) dX9_next_34 (fun H locs hP hD hS => ?_)
        have hP : va_P D vwCl (wX9_next cy aM qM (upd (upd vM 4 y1_5) 8 (0 : Int32)) vM_tape vM_letters) H := hP
        have hD : va_D A (wX9_next cy aM qM (upd (upd vM 4 y1_5) 8 (0 : Int32)) vM_tape vM_letters) := hD
        refine lv_aload_n hx hb dX9_next_37 rfl (lv_at hl 1 rfl) ?_
        refine lv_iconst (v := 0) hx hb dX9_next_38 (by decide) ?_
        refine va_put (D := D) (ci := 8) (v := .int 0) (ty := .int) (C := RX9) (T := TX9) (N := 29) hx hb ht0 niX9 tyX9 tyX9_ok nmX9 hown hK hP hD hS 0 rfl rfl 7 (by decide) (ht0 _ wd750) (fun _ h9 => h9) rfl (by decide +kernel) rfl rfl (Nat.le_of_ble_eq_true rfl) dX9_next_39 (fun H locs hP hD hS => ?_)
        have hP : va_P D vwCl (wX9_next cy aM qM (upd (upd (upd vM 4 y1_5) 7 (0 : Int32)) 8 (0 : Int32)) vM_tape vM_letters) H := hP
        have hD : va_D A (wX9_next cy aM qM (upd (upd (upd vM 4 y1_5) 7 (0 : Int32)) 8 (0 : Int32)) vM_tape vM_letters) := hD
        refine lv_iload_n hx hb dX9_next_42 rfl (lv_at hl 0 rfl) ?_
        refine lv_iconst (v := -1) hx hb dX9_next_43 (by decide) ?_
        refine lv_icmp_ne (tgt := 60) hx hb dX9_next_44 (by decide) (fun c44 => ?_) (fun c44 => ?_)
        · have hok := k_neg c44 hok
          refine lv_iload_n hx hb dX9_next_60 rfl (lv_at hl 0 rfl) ?_
          obtain ⟨r61, hc61, hok⟩ := k_bind hok
          refine kCi (wc := (wX9_isSmall cy )) (wc2 := (wX9_isSmall cy )) (wr := [(aM, oX9 (upd (upd (upd vM 4 y1_5) 7 (0 : Int32)) 8 (0 : Int32)) qM), (qM 1, rI cy 900 vM_tape), (qM 12, rI cy 8 vM_letters)]) (ws2 := (wX9_next cy aM qM (upd (upd (upd vM 4 y1_5) 7 (0 : Int32)) 8 (0 : Int32)) vM_tape vM_letters)) (kRunS (As := [.int r28]) (rest := []) ⟨hx, hb, hml, hown, ht0⟩ (kX9_isSmall l D cy _ r28 r61 hc61 _ rfl) (va_cwS 1 ht0 (gS wd752 wd753 wd744 wd754) rfl rfl rfl (by decide +kernel) ⟨Nat.le_of_ble_eq_true rfl, Nat.le_of_ble_eq_true rfl⟩) hK hN hP hD [] rfl (by decide) rfl hl.1 rfl (Nat.le_of_ble_eq_true rfl) dX9_next_61 ⟨Nat.zero_le _, Nat.zero_le _⟩) hP hD hS hA [] [0, 1, 2] rfl rfl (by decide) (by decide) [0, 1, 2] (by decide) rfl rfl (fun H locs hP hD hS => ?_)
          refine lv_if_eq (tgt := 143) hx hb dX9_next_64 (by decide) (fun c64 => ?_) (fun c64 => ?_)
          · have hok := k_pos c64 hok
            refine lv_iload_n hx hb dX9_next_143 rfl (lv_at hl 0 rfl) ?_
            obtain ⟨r144, hc144, hok⟩ := k_bind hok
            refine kCi (wc := (wX9_isDigit cy )) (wc2 := (wX9_isDigit cy )) (wr := [(aM, oX9 (upd (upd (upd vM 4 y1_5) 7 (0 : Int32)) 8 (0 : Int32)) qM), (qM 1, rI cy 900 vM_tape), (qM 12, rI cy 8 vM_letters)]) (ws2 := (wX9_next cy aM qM (upd (upd (upd vM 4 y1_5) 7 (0 : Int32)) 8 (0 : Int32)) vM_tape vM_letters)) (kRunS (As := [.int r28]) (rest := []) ⟨hx, hb, hml, hown, ht0⟩ (kX9_isDigit l D cy _ r28 r144 hc144 _ rfl) (va_cwS 1 ht0 (gS wd746 wd747 wd744 wd748) rfl rfl rfl (by decide +kernel) ⟨Nat.le_of_ble_eq_true rfl, Nat.le_of_ble_eq_true rfl⟩) hK hN hP hD [] rfl (by decide) rfl hl.1 rfl (Nat.le_of_ble_eq_true rfl) dX9_next_144 ⟨Nat.zero_le _, Nat.zero_le _⟩) hP hD hS hA [] [0, 1, 2] rfl rfl (by decide) (by decide) [0, 1, 2] (by decide) rfl rfl (fun H locs hP hD hS => ?_)
            refine lv_if_eq (tgt := 219) hx hb dX9_next_147 (by decide) (fun c147 => ?_) (fun c147 => ?_)
            · have hok := k_pos c147 hok
              refine lv_aload_n hx hb dX9_next_219 rfl (lv_at hl 1 rfl) ?_
              refine lv_iload_n hx hb dX9_next_220 rfl (lv_at hl 2 rfl) ?_
              refine lv_iconst (v := 1) hx hb dX9_next_221 (by decide) ?_
              refine lv_iadd hx hb dX9_next_222 ?_
              refine va_put (D := D) (ci := 8) (v := .int (y1_5 + (1 : Int32))) (ty := .int) (C := RX9) (T := TX9) (N := 29) hx hb ht0 niX9 tyX9 tyX9_ok nmX9 hown hK hP hD hS 0 rfl rfl 5 (by decide) (ht0 _ wd749) (fun _ h9 => h9) rfl (by decide +kernel) rfl rfl (Nat.le_of_ble_eq_true rfl) dX9_next_223 (fun H locs hP hD hS => ?_)
              have hP : va_P D vwCl (wX9_next cy aM qM (upd (upd (upd (upd vM 4 y1_5) 5 (y1_5 + (1 : Int32))) 7 (0 : Int32)) 8 (0 : Int32)) vM_tape vM_letters) H := hP
              have hD : va_D A (wX9_next cy aM qM (upd (upd (upd (upd vM 4 y1_5) 5 (y1_5 + (1 : Int32))) 7 (0 : Int32)) 8 (0 : Int32)) vM_tape vM_letters) := hD
              refine lv_aload_n hx hb dX9_next_226 rfl (lv_at hl 1 rfl) ?_
              refine lv_iload_n hx hb dX9_next_227 rfl (lv_at hl 0 rfl) ?_
              refine lv_bipush (v := 59) hx hb dX9_next_228 (by decide) ?_
              refine lv_icmp_ne (tgt := 237) hx hb dX9_next_230 (by decide) (fun c230 => ?_) (fun c230 => ?_)
              · have hok := k_neg c230 hok
                refine lv_iconst (v := 1) hx hb dX9_next_237 (by decide) ?_
                exact J238 (1 : Int32) (upd (upd (upd (upd vM 4 y1_5) 5 (y1_5 + (1 : Int32))) 7 (0 : Int32)) 8 (0 : Int32)) H locs ls hP hD hS (lv_sub hl [] rfl) hok
              · have hok := k_pos c230 hok
                refine lv_iload_n hx hb dX9_next_233 rfl (lv_at hl 0 rfl) ?_
                refine lv_goto (tgt := 238) hx hb dX9_next_234 (by decide) ?_
                exact J238 r28 (upd (upd (upd (upd vM 4 y1_5) 5 (y1_5 + (1 : Int32))) 7 (0 : Int32)) 8 (0 : Int32)) H locs ls hP hD hS (lv_sub hl [] rfl) hok
            · have hok := k_neg c147 hok
              refine lv_iconst (v := 0) hx hb dX9_next_150 (by decide) ?_
              refine lv_istore_n (lv' := [(3, .int 0), (2, .int r28), (0, .ref aM), (1, .int y1_5)]) hx hb dX9_next_151 rfl hl (by decide) rfl (fun ls hl => ?_)
              exact L152 5000 y1_5 (0 : Int32) (upd (upd (upd vM 4 y1_5) 7 (0 : Int32)) 8 (0 : Int32)) H locs ls hP hD hS (lv_sub hl [2, 3, 0] rfl) hok
          · have hok := k_neg c64 hok
            exact L67 5000 y1_5 vM_letters (upd (upd (upd vM 4 y1_5) 7 (0 : Int32)) 8 (0 : Int32)) H locs ls hP hD hS (lv_sub hl [1, 2] rfl) hok
        · have hok := k_pos c44 hok
          refine lv_aload_n hx hb dX9_next_47 rfl (lv_at hl 1 rfl) ?_
          refine lv_iconst (v := 0) hx hb dX9_next_48 (by decide) ?_
          refine va_put (D := D) (ci := 8) (v := .int 0) (ty := .int) (C := RX9) (T := TX9) (N := 29) hx hb ht0 niX9 tyX9 tyX9_ok nmX9 hown hK hP hD hS 0 rfl rfl 6 (by decide) (ht0 _ wd740) (fun _ h9 => h9) rfl (by decide +kernel) rfl rfl (Nat.le_of_ble_eq_true rfl) dX9_next_49 (fun H locs hP hD hS => ?_)
          have hP : va_P D vwCl (wX9_next cy aM qM (upd (upd (upd (upd vM 4 y1_5) 6 (0 : Int32)) 7 (0 : Int32)) 8 (0 : Int32)) vM_tape vM_letters) H := hP
          have hD : va_D A (wX9_next cy aM qM (upd (upd (upd (upd vM 4 y1_5) 6 (0 : Int32)) 7 (0 : Int32)) 8 (0 : Int32)) vM_tape vM_letters) := hD
          refine lv_aload_n hx hb dX9_next_52 rfl (lv_at hl 1 rfl) ?_
          refine lv_iload_n hx hb dX9_next_53 rfl (lv_at hl 2 rfl) ?_
          refine va_put (D := D) (ci := 8) (v := .int y1_5) (ty := .int) (C := RX9) (T := TX9) (N := 29) hx hb ht0 niX9 tyX9 tyX9_ok nmX9 hown hK hP hD hS 0 rfl rfl 5 (by decide) (ht0 _ wd749) (fun _ h9 => h9) rfl (by decide +kernel) rfl rfl (Nat.le_of_ble_eq_true rfl) dX9_next_54 (fun H locs hP hD hS => ?_)
          have hP : va_P D vwCl (wX9_next cy aM qM (upd (upd (upd (upd (upd vM 4 y1_5) 5 y1_5) 6 (0 : Int32)) 7 (0 : Int32)) 8 (0 : Int32)) vM_tape vM_letters) H := hP
          have hD : va_D A (wX9_next cy aM qM (upd (upd (upd (upd (upd vM 4 y1_5) 5 y1_5) 6 (0 : Int32)) 7 (0 : Int32)) 8 (0 : Int32)) vM_tape vM_letters) := hD
          refine lv_goto (tgt := 241) hx hb dX9_next_57 (by decide) ?_
          exact J241 vM_letters (upd (upd (upd (upd (upd vM 4 y1_5) 5 y1_5) 6 (0 : Int32)) 7 (0 : Int32)) 8 (0 : Int32)) H locs ls hP hD hS (lv_sub hl [] rfl) hok
      · have hok := k_pos c12 hok
        refine lv_iinc (v := (y1_5 + 1)) (lv' := [(1, .int (y1_5 + 1)), (0, .ref aM)]) hx hb dX9_next_15 hl (k := 1) rfl (by first | rfl | decide) (by decide) rfl (fun ls hl => ?_)
        refine lv_goto (tgt := 5) hx hb dX9_next_18 (by decide) ?_
        exact ih5 (y1_5 + 1) H locs ls hP hD hS (lv_sub hl [1, 0] rfl) (hR5 _ (Option.some.inj hok).symm)
  unfold fX9_next at hok
  obtain ⟨H, hH⟩ : ∃ H, H = s.heap := ⟨_, rfl⟩
  obtain ⟨locs, hlc⟩ : ∃ x : List Loc, x = [] := ⟨_, rfl⟩
  have hP : va_P D vwCl (wX9_next cy aM qM vM vM_tape vM_letters) H := by rw [hH]; exact hP
  have hS : va_S A s.heap H locs := by rw [hH, hlc]; exact hS
  rw [show W p l e _ s m _ below meth c s.heap [] = W p l e _ s m _ below meth c H locs from by rw [hH, hlc]]
  refine lv_aload_n hx hb dX9_next_0 rfl (lv_at hl 0 rfl) ?_
  refine va_get (D := D) (ci := 8) (v := .int (vM 5)) (C := RX9) (T := TX9) (N := 29) hx hb ht0 niX9 hown hK hP 0 rfl rfl 5 (by decide) (ht0 _ wd749) (fun _ h9 => h9) rfl dX9_next_1 ?_
  refine lv_istore_n (lv' := [(1, .int (vM 5)), (0, .ref aM)]) hx hb dX9_next_4 rfl hl (by decide) rfl (fun ls hl => ?_)
  exact L5 5000 (vM 5) H locs ls hP hD hS (lv_sub hl [1, 0] rfl) hok
def wsX9_wrong : List Cond := .code yX9_wrong cX9_wrong 3 none :: W0
abbrev wX9_wrong (cy : Nat → ClassId) (aM : Nat) (qM : Nat → Nat) (vM : Nat → Int32) : va_W := [(aM, oX9 vM qM)]
set_option maxHeartbeats 4000000 in
set_option maxRecDepth 100000 in
theorem kX9_wrong (l : Launch) (D : va_G) (cy : Nat → ClassId) (sz : Nat) (aM : Nat) (qM : Nat → Nat) (vM : Nat → Int32) (x1 : Int32) (x2 : Int32) (z_vM : Nat → Int32) (hok : fX9_wrong vM x1 x2 = some z_vM) (A : Nat → Prop) (hAe : va_A (wX9_wrong cy aM qM vM) sz = A) : Met l yX9_wrong wsX9_wrong ({ frames := 0, cells := 0, slots := 0, locals := 0 } : Room) (kPre D cy [.ref aM, .int x1, .int x2] (wX9_wrong cy aM qM vM) sz) (kQv D cy A (wX9_wrong cy aM qM z_vM)) 0 0 A := by
  refine Met.ofW (cc := cX9_wrong) (maxL := 3) (ret := none) (by decide) rfl ?_
  intro p e s m args below meth c s₁ B hml hv
  obtain ⟨rfl, hsz, hP, hK, hD0, hN⟩ := hv
  have hx := B.exec
  have hb := B.bytes
  have hr := B.returns
  have ht0 : ∀ w ∈ W0, w.before _ s = true := fun w h => atoms_spec (ws := wsX9_wrong) B.pre w (List.mem_cons_of_mem _ h)
  have hown : s.vm.findClass RX9 = some m.cls := findClass_of_methodNamed B.named
  have hlocks := B.notSynchronized
  subst hsz
  have hD : va_D A (wX9_wrong cy aM qM vM) := by rw [← hAe]; exact hD0.self
  have hA : ∀ q : Nat, s.heap.size ≤ q → A q := fun q h => by rw [← hAe]; exact Or.inr h
  have hS : va_S A s.heap s.heap [] := va_S.rf
  have hl := lv_entry ([.ref aM, .int x1, .int x2]) (n := 3) (Nat.le_of_ble_eq_true rfl)
  rw [lg_entry_eq]
  generalize (lg_sl ([.ref aM, .int x1, .int x2]) ++ List.replicate (3 - (lg_sl ([.ref aM, .int x1, .int x2])).length) Slot.unset).toArray = ls at hl ⊢
  have hl : lv_has ls 3 [(0, .ref aM), (1, .int x1), (2, .int x2)] := hl
  unfold fX9_wrong at hok
  obtain ⟨H, hH⟩ : ∃ H, H = s.heap := ⟨_, rfl⟩
  obtain ⟨locs, hlc⟩ : ∃ x : List Loc, x = [] := ⟨_, rfl⟩
  have hP : va_P D vwCl (wX9_wrong cy aM qM vM) H := by rw [hH]; exact hP
  have hS : va_S A s.heap H locs := by rw [hH, hlc]; exact hS
  rw [show W p l e _ s m _ below meth c s.heap [] = W p l e _ s m _ below meth c H locs from by rw [hH, hlc]]
  refine lv_aload_n hx hb dX9_wrong_0 rfl (lv_at hl 0 rfl) ?_
  refine va_get (D := D) (ci := 8) (v := .int (vM 13)) (C := RX9) (T := TX9) (N := 29) hx hb ht0 niX9 hown hK hP 0 rfl rfl 13 (by decide) (ht0 _ wd757) (fun _ h9 => h9) rfl dX9_wrong_1 ?_
  refine lv_if_eq (tgt := 8) hx hb dX9_wrong_4 (by decide) (fun c4 => ?_) (fun c4 => ?_)
  · have hok := k_pos c4 hok
    refine lv_aload_n hx hb dX9_wrong_8 rfl (lv_at hl 0 rfl) ?_
    refine lv_iconst (v := 1) hx hb dX9_wrong_9 (by decide) ?_
    refine va_put (D := D) (ci := 8) (v := .int 1) (ty := .boolean) (C := RX9) (T := TX9) (N := 29) hx hb ht0 niX9 tyX9 tyX9_ok nmX9 hown hK hP hD hS 0 rfl rfl 13 (by decide) (ht0 _ wd757) (fun _ h9 => h9) rfl (by decide +kernel) rfl rfl (Nat.le_of_ble_eq_true rfl) dX9_wrong_10 (fun H locs hP hD hS => ?_)
    have hP : va_P D vwCl (wX9_wrong cy aM qM (upd vM 13 (1 : Int32))) H := hP
    have hD : va_D A (wX9_wrong cy aM qM (upd vM 13 (1 : Int32))) := hD
    refine lv_aload_n hx hb dX9_wrong_13 rfl (lv_at hl 0 rfl) ?_
    refine lv_iload_n hx hb dX9_wrong_14 rfl (lv_at hl 1 rfl) ?_
    refine va_put (D := D) (ci := 8) (v := .int x1) (ty := .int) (C := RX9) (T := TX9) (N := 29) hx hb ht0 niX9 tyX9 tyX9_ok nmX9 hown hK hP hD hS 0 rfl rfl 9 (by decide) (ht0 _ wd758) (fun _ h9 => h9) rfl (by decide +kernel) rfl rfl (Nat.le_of_ble_eq_true rfl) dX9_wrong_15 (fun H locs hP hD hS => ?_)
    have hP : va_P D vwCl (wX9_wrong cy aM qM (upd (upd vM 9 x1) 13 (1 : Int32))) H := hP
    have hD : va_D A (wX9_wrong cy aM qM (upd (upd vM 9 x1) 13 (1 : Int32))) := hD
    refine lv_aload_n hx hb dX9_wrong_18 rfl (lv_at hl 0 rfl) ?_
    refine lv_iload_n hx hb dX9_wrong_19 rfl (lv_at hl 2 rfl) ?_
    refine va_put (D := D) (ci := 8) (v := .int x2) (ty := .int) (C := RX9) (T := TX9) (N := 29) hx hb ht0 niX9 tyX9 tyX9_ok nmX9 hown hK hP hD hS 0 rfl rfl 10 (by decide) (ht0 _ wd759) (fun _ h9 => h9) rfl (by decide +kernel) rfl rfl (Nat.le_of_ble_eq_true rfl) dX9_wrong_20 (fun H locs hP hD hS => ?_)
    have hP : va_P D vwCl (wX9_wrong cy aM qM (upd (upd (upd vM 9 x1) 10 x2) 13 (1 : Int32))) H := hP
    have hD : va_D A (wX9_wrong cy aM qM (upd (upd (upd vM 9 x1) 10 x2) 13 (1 : Int32))) := hD
    cases hok
    exact W.vret hx hb hr (fun t ht hW => ⟨⟨(), rfl, trivial, by rw [ht]; exact hP, va_K.moved hW.alike hK, hD⟩, hS.F ht⟩) hS.2.2 dX9_wrong_23
  · have hok := k_neg c4 hok
    cases hok
    exact W.vret hx hb hr (fun t ht hW => ⟨⟨(), rfl, trivial, by rw [ht]; exact hP, va_K.moved hW.alike hK, hD⟩, hS.F ht⟩) hS.2.2 dX9_wrong_7
def wsX9_isWord : List Cond := .code yX9_isWord cX9_isWord 4 (some .boolean) :: W0
abbrev wX9_isWord (cy : Nat → ClassId) (aM : Nat) (qM : Nat → Nat) (vM : Nat → Int32) (vM_letters : Nat → Int32) : va_W := [(aM, oX9 vM qM), (qM 12, rI cy 8 vM_letters)]
set_option maxHeartbeats 4000000 in
set_option maxRecDepth 100000 in
theorem kX9_isWord (l : Launch) (D : va_G) (cy : Nat → ClassId) (ad : (Nat → Nat) × (Nat → Nat)) (sz : Nat) (aM : Nat) (qM : Nat → Nat) (vM : Nat → Int32) (vM_letters : Nat → Int32) (x1 : Nat) (zr : Int32) (hok : fX9_isWord vM vM_letters x1 = some zr) (A : Nat → Prop) (hAe : va_A (wX9_isWord cy aM qM vM vM_letters) sz = A) : Met l yX9_isWord wsX9_isWord ({ frames := 4, cells := 0, slots := 0, locals := 85 } : Room) (kPreS D cy ad [.ref aM, .ref (ad.1 x1)] (wX9_isWord cy aM qM vM vM_letters) sz A) (kQi D cy zr A (wX9_isWord cy aM qM vM vM_letters)) 0 0 A := by
  refine Met.ofW (cc := cX9_isWord) (maxL := 4) (ret := (some .boolean)) (by decide) rfl ?_
  intro p e s m args below meth c s₁ B hml hv
  obtain ⟨rfl, ⟨hsz, hP, hK, hD0, hN⟩, hSt⟩ := hv
  have hx := B.exec
  have hb := B.bytes
  have hr := B.returns
  have ht0 : ∀ w ∈ W0, w.before _ s = true := fun w h => atoms_spec (ws := wsX9_isWord) B.pre w (List.mem_cons_of_mem _ h)
  have hown : s.vm.findClass RX9 = some m.cls := findClass_of_methodNamed B.named
  have hlocks := B.notSynchronized
  subst hsz
  have hD : va_D A (wX9_isWord cy aM qM vM vM_letters) := by rw [← hAe]; exact hD0.self
  have hA : ∀ q : Nat, s.heap.size ≤ q → A q := fun q h => by rw [← hAe]; exact Or.inr h
  have hS : va_S A s.heap s.heap [] := va_S.rf
  have hl := lv_entry ([.ref aM, .ref (ad.1 x1)]) (n := 4) (Nat.le_of_ble_eq_true rfl)
  rw [lg_entry_eq]
  generalize (lg_sl ([.ref aM, .ref (ad.1 x1)]) ++ List.replicate (4 - (lg_sl ([.ref aM, .ref (ad.1 x1)])).length) Slot.unset).toArray = ls at hl ⊢
  have hl : lv_has ls 4 [(0, .ref aM), (1, .ref (ad.1 x1))] := hl
  generalize hQe : MQ below (kQi D cy zr A (wX9_isWord cy aM qM vM vM_letters)) ([.ref aM, .ref (ad.1 x1)] : List Value).toArray s 0 0 A = Q
  have L32 : ∀ (fuel : Nat) (y2_32 : Int32) (y3_32 : Int32), ∀ (H : Heap) (locs : List Loc) (ls : Array Slot), va_P D vwCl (wX9_isWord cy aM qM vM vM_letters) H → va_D A (wX9_isWord cy aM qM vM vM_letters) → va_S A s.heap H locs → lv_has ls 4 [(0, .ref aM), (1, .ref (ad.1 x1)), (2, .int y2_32), (3, .int y3_32)] → lp (fX9_isWord_B32 vM vM_letters x1) fuel (y2_32, y3_32) = some zr → W p l e ({ frames := 4, cells := 0, slots := 0, locals := 85 } : Room) s m ([.ref aM, .ref (ad.1 x1)] : List Value).toArray below meth c H locs 0 0 Q (F0 m 32 ls []) := by
    intro fuel
    induction fuel with
    | zero => intro y2_32 y3_32 H locs ls hP hD hS hl hok; exact (lp_0 hok).elim
    | succ fuel ih32 =>
      intro y2_32 y3_32 H locs ls hP hD hS hl hok
      obtain ⟨y32, hok, hL32, hR32⟩ := lp_step hok
      have J63 : ∀ (t0_63 : Int32), ∀ (H : Heap) (locs : List Loc) (ls : Array Slot), va_P D vwCl (wX9_isWord cy aM qM vM vM_letters) H → va_D A (wX9_isWord cy aM qM vM vM_letters) → va_S A s.heap H locs → lv_has ls 4 [(0, .ref aM), (1, .ref (ad.1 x1)), (3, .int y3_32)] → fX9_isWord_J63 y3_32 t0_63 = some y32 → W p l e ({ frames := 4, cells := 0, slots := 0, locals := 85 } : Room) s m ([.ref aM, .ref (ad.1 x1)] : List Value).toArray below meth c H locs 0 0 Q (F0 m 63 ls [.int t0_63]) := by
        intro t0_63 H locs ls hP hD hS hl hok
        unfold fX9_isWord_J63 at hok
        refine lv_istore_n (lv' := [(2, .int t0_63), (0, .ref aM), (1, .ref (ad.1 x1)), (3, .int y3_32)]) hx hb dX9_isWord_63 rfl hl (by decide) rfl (fun ls hl => ?_)
        refine lv_iinc (v := (y3_32 + 1)) (lv' := [(3, .int (y3_32 + 1)), (2, .int t0_63), (0, .ref aM), (1, .ref (ad.1 x1))]) hx hb dX9_isWord_64 hl (k := 3) rfl (by first | rfl | decide) (by decide) rfl (fun ls hl => ?_)
        refine lv_goto (tgt := 32) hx hb dX9_isWord_67 (by decide) ?_
        exact ih32 t0_63 (y3_32 + 1) H locs ls hP hD hS (lv_sub hl [2, 3, 1, 0] rfl) (hR32 _ (Option.some.inj hok).symm)
      have J62 : ∀ (H : Heap) (locs : List Loc) (ls : Array Slot), va_P D vwCl (wX9_isWord cy aM qM vM vM_letters) H → va_D A (wX9_isWord cy aM qM vM vM_letters) → va_S A s.heap H locs → lv_has ls 4 [(0, .ref aM), (1, .ref (ad.1 x1)), (3, .int y3_32)] → fX9_isWord_J62 y3_32 = some y32 → W p l e ({ frames := 4, cells := 0, slots := 0, locals := 85 } : Room) s m ([.ref aM, .ref (ad.1 x1)] : List Value).toArray below meth c H locs 0 0 Q (F0 m 62 ls []) := by
        intro  H locs ls hP hD hS hl hok
        unfold fX9_isWord_J62 at hok
        refine lv_iconst (v := 0) hx hb dX9_isWord_62 (by decide) ?_
        exact J63 (0 : Int32) H locs ls hP hD hS (lv_sub hl [0, 1, 2] rfl) hok
      unfold fX9_isWord_B32 at hok
      try dsimp only at hok
      refine lv_iload_n hx hb dX9_isWord_32 rfl (lv_at hl 3 rfl) ?_
      refine lv_aload_n hx hb dX9_isWord_33 rfl (lv_at hl 0 rfl) ?_
      refine va_get (D := D) (ci := 8) (v := .int (vM 8)) (C := RX9) (T := TX9) (N := 29) hx hb ht0 niX9 hown hK hP 0 rfl rfl 8 (by decide) (ht0 _ wd751) (fun _ h9 => h9) rfl dX9_isWord_34 ?_
      refine lv_icmp_ge (tgt := 70) hx hb dX9_isWord_37 (by decide) (fun c37 => ?_) (fun c37 => ?_)
      · have hok := k_pos c37 hok
        obtain ⟨e32, hok, he32⟩ := ex_some hok
        have hok := hok.trans (congrArg some (hL32 _ he32))
        refine lv_iload_n hx hb dX9_isWord_70 rfl (lv_at hl 2 rfl) ?_
        obtain ⟨g71, hok⟩ := gd_some hok
        cases hok
        subst hQe; exact W.zret hx hb hr (isB_nar g71) (fun t ht hW => ⟨⟨_, (), rfl, rfl, by rw [ht]; exact hP, va_K.moved hW.alike hK, hD⟩, hS.F ht⟩) hS.2.2 dX9_isWord_71
      · have hok := k_neg c37 hok
        refine lv_iload_n hx hb dX9_isWord_40 rfl (lv_at hl 2 rfl) ?_
        refine lv_if_eq (tgt := 62) hx hb dX9_isWord_41 (by decide) (fun c41 => ?_) (fun c41 => ?_)
        · have hok := k_pos c41 hok
          exact J62  H locs ls hP hD hS (lv_sub hl [0, 1, 3] rfl) hok
        · have hok := k_neg c41 hok
          refine lv_aload_n hx hb dX9_isWord_44 rfl (lv_at hl 0 rfl) ?_
          refine va_get (D := D) (ci := 8) (v := .ref (qM 12)) (C := RX9) (T := TX9) (N := 29) hx hb ht0 niX9 hown hK hP 0 rfl rfl 12 (by decide) (ht0 _ wd755) (fun _ h9 => h9) rfl dX9_isWord_45 ?_
          refine lv_iload_n hx hb dX9_isWord_48 rfl (lv_at hl 3 rfl) ?_
          obtain ⟨g49, hok⟩ := gd_some hok
          refine va_iald hx hb hK hP 1 0 rfl rfl (okI_in g49) dX9_isWord_49 ?_
          refine lv_aload_n hx hb dX9_isWord_50 rfl (lv_at hl 1 rfl) ?_
          refine lv_iload_n hx hb dX9_isWord_51 rfl (lv_at hl 3 rfl) ?_
          obtain ⟨gs52, hok⟩ := gd_some hok
          obtain ⟨r52, hc52, hok⟩ := k_bind hok
          refine kCi (wc := (wJ0_charAt_5068e cy )) (wc2 := (wJ0_charAt_5068e cy )) (wr := [(aM, oX9 vM qM), (qM 12, rI cy 8 vM_letters)]) (ws2 := (wX9_isWord cy aM qM vM vM_letters)) (kRunVT (As := [.int y3_32]) (rest := [.int (vM_letters y3_32.toNatClampNeg)]) ⟨hx, hb, hml, hown, ht0⟩ (kJ0_charAt_5068e l D cy ad _ x1 y3_32 r52 hc52 _ rfl) (cwV 1 ht0 (gV wd760 wd321 wd322 wd292 wd323) rfl rfl rfl (by decide +kernel) ⟨Nat.le_of_ble_eq_true rfl, Nat.le_of_ble_eq_true rfl⟩) hK hN hP hD hSt hS hA [] rfl (by decide) (okS_lt gs52) rfl hl.1 rfl (Nat.le_of_ble_eq_true rfl) dX9_isWord_52 ⟨Nat.zero_le _, Nat.zero_le _⟩) hP hD hS hA [] [0, 1] rfl rfl (by decide) (by decide) [0, 1] (by decide) rfl rfl (fun H locs hP hD hS => ?_)
          refine lv_icmp_ne (tgt := 62) hx hb dX9_isWord_55 (by decide) (fun c55 => ?_) (fun c55 => ?_)
          · have hok := k_neg c55 hok
            exact J62  H locs ls hP hD hS (lv_sub hl [0, 1, 3] rfl) hok
          · have hok := k_pos c55 hok
            refine lv_iconst (v := 1) hx hb dX9_isWord_58 (by decide) ?_
            refine lv_goto (tgt := 63) hx hb dX9_isWord_59 (by decide) ?_
            exact J63 (1 : Int32) H locs ls hP hD hS (lv_sub hl [0, 1, 3] rfl) hok
  have J26 : ∀ (H : Heap) (locs : List Loc) (ls : Array Slot), va_P D vwCl (wX9_isWord cy aM qM vM vM_letters) H → va_D A (wX9_isWord cy aM qM vM vM_letters) → va_S A s.heap H locs → lv_has ls 4 [] → fX9_isWord_J26 = some zr → W p l e ({ frames := 4, cells := 0, slots := 0, locals := 85 } : Room) s m ([.ref aM, .ref (ad.1 x1)] : List Value).toArray below meth c H locs 0 0 Q (F0 m 26 ls []) := by
    intro  H locs ls hP hD hS hl hok
    unfold fX9_isWord_J26 at hok
    refine lv_iconst (v := 0) hx hb dX9_isWord_26 (by decide) ?_
    cases hok
    subst hQe; exact W.zret hx hb hr rfl (fun t ht hW => ⟨⟨_, (), rfl, rfl, by rw [ht]; exact hP, va_K.moved hW.alike hK, hD⟩, hS.F ht⟩) hS.2.2 dX9_isWord_27
  unfold fX9_isWord at hok
  obtain ⟨H, hH⟩ : ∃ H, H = s.heap := ⟨_, rfl⟩
  obtain ⟨locs, hlc⟩ : ∃ x : List Loc, x = [] := ⟨_, rfl⟩
  have hP : va_P D vwCl (wX9_isWord cy aM qM vM vM_letters) H := by rw [hH]; exact hP
  have hS : va_S A s.heap H locs := by rw [hH, hlc]; exact hS
  rw [show W p l e _ s m _ below meth c s.heap [] = W p l e _ s m _ below meth c H locs from by rw [hH, hlc]]
  refine lv_aload_n hx hb dX9_isWord_0 rfl (lv_at hl 0 rfl) ?_
  refine va_get (D := D) (ci := 8) (v := .int (vM 13)) (C := RX9) (T := TX9) (N := 29) hx hb ht0 niX9 hown hK hP 0 rfl rfl 13 (by decide) (ht0 _ wd757) (fun _ h9 => h9) rfl dX9_isWord_1 ?_
  refine lv_if_ne (tgt := 26) hx hb dX9_isWord_4 (by decide) (fun c4 => ?_) (fun c4 => ?_)
  · have hok := k_neg c4 hok
    exact J26  H locs ls hP hD hS (lv_sub hl [] rfl) hok
  · have hok := k_pos c4 hok
    refine lv_aload_n hx hb dX9_isWord_7 rfl (lv_at hl 0 rfl) ?_
    refine va_get (D := D) (ci := 8) (v := .int (vM 6)) (C := RX9) (T := TX9) (N := 29) hx hb ht0 niX9 hown hK hP 0 rfl rfl 6 (by decide) (ht0 _ wd740) (fun _ h9 => h9) rfl dX9_isWord_8 ?_
    refine lv_iconst (v := 2) hx hb dX9_isWord_11 (by decide) ?_
    refine lv_icmp_ne (tgt := 26) hx hb dX9_isWord_12 (by decide) (fun c12 => ?_) (fun c12 => ?_)
    · have hok := k_neg c12 hok
      exact J26  H locs ls hP hD hS (lv_sub hl [] rfl) hok
    · have hok := k_pos c12 hok
      refine lv_aload_n hx hb dX9_isWord_15 rfl (lv_at hl 0 rfl) ?_
      refine va_get (D := D) (ci := 8) (v := .int (vM 8)) (C := RX9) (T := TX9) (N := 29) hx hb ht0 niX9 hown hK hP 0 rfl rfl 8 (by decide) (ht0 _ wd751) (fun _ h9 => h9) rfl dX9_isWord_16 ?_
      refine lv_aload_n hx hb dX9_isWord_19 rfl (lv_at hl 1 rfl) ?_
      obtain ⟨gs20, hok⟩ := gd_some hok
      obtain ⟨r20, hc20, hok⟩ := k_bind hok
      refine kCi (wc := (wJ0_length_8abf5 cy )) (wc2 := (wJ0_length_8abf5 cy )) (wr := [(aM, oX9 vM qM), (qM 12, rI cy 8 vM_letters)]) (ws2 := (wX9_isWord cy aM qM vM vM_letters)) (kRunVT (As := []) (rest := [.int (vM 8)]) ⟨hx, hb, hml, hown, ht0⟩ (kJ0_length_8abf5 l D cy ad _ x1 r20 hc20 _ rfl) (cwV 0 ht0 (gV wd761 wd317 wd318 wd292 wd319) rfl rfl rfl (by decide +kernel) ⟨Nat.le_of_ble_eq_true rfl, Nat.le_of_ble_eq_true rfl⟩) hK hN hP hD hSt hS hA [] rfl (by decide) (okS_lt gs20) rfl hl.1 rfl (Nat.le_of_ble_eq_true rfl) dX9_isWord_20 ⟨Nat.zero_le _, Nat.zero_le _⟩) hP hD hS hA [] [0, 1] rfl rfl (by decide) (by decide) [0, 1] (by decide) rfl rfl (fun H locs hP hD hS => ?_)
      refine lv_icmp_eq (tgt := 28) hx hb dX9_isWord_23 (by decide) (fun c23 => ?_) (fun c23 => ?_)
      · have hok := k_pos c23 hok
        refine lv_iconst (v := 1) hx hb dX9_isWord_28 (by decide) ?_
        refine lv_istore_n (lv' := [(2, .int 1), (0, .ref aM), (1, .ref (ad.1 x1))]) hx hb dX9_isWord_29 rfl hl (by decide) rfl (fun ls hl => ?_)
        refine lv_iconst (v := 0) hx hb dX9_isWord_30 (by decide) ?_
        refine lv_istore_n (lv' := [(3, .int 0), (2, .int 1), (0, .ref aM), (1, .ref (ad.1 x1))]) hx hb dX9_isWord_31 rfl hl (by decide) rfl (fun ls hl => ?_)
        exact L32 5000 (1 : Int32) (0 : Int32) H locs ls hP hD hS (lv_sub hl [2, 3, 1, 0] rfl) hok
      · have hok := k_neg c23 hok
        exact J26  H locs ls hP hD hS (lv_sub hl [] rfl) hok
def wsX9_takesWord : List Cond := .code yX9_takesWord cX9_takesWord 2 (some .boolean) :: W0
abbrev wX9_takesWord (cy : Nat → ClassId) (aM : Nat) (qM : Nat → Nat) (vM : Nat → Int32) (vM_letters : Nat → Int32) (vM_tape : Nat → Int32) : va_W := [(aM, oX9 vM qM), (qM 12, rI cy 8 vM_letters), (qM 1, rI cy 900 vM_tape)]
set_option maxHeartbeats 4000000 in
set_option maxRecDepth 100000 in
theorem kX9_takesWord (l : Launch) (D : va_G) (cy : Nat → ClassId) (ad : (Nat → Nat) × (Nat → Nat)) (sz : Nat) (aM : Nat) (qM : Nat → Nat) (vM : Nat → Int32) (vM_letters : Nat → Int32) (vM_tape : Nat → Int32) (x1 : Nat) (zr : Int32) (z_vM : Nat → Int32) (z_vM_letters : Nat → Int32) (hok : fX9_takesWord vM vM_letters vM_tape x1 = some (zr, z_vM, z_vM_letters)) (A : Nat → Prop) (hAe : va_A (wX9_takesWord cy aM qM vM vM_letters vM_tape) sz = A) : Met l yX9_takesWord wsX9_takesWord ({ frames := 5, cells := 0, slots := 0, locals := 108 } : Room) (kPreS D cy ad [.ref aM, .ref (ad.1 x1)] (wX9_takesWord cy aM qM vM vM_letters vM_tape) sz A) (kQi D cy zr A (wX9_takesWord cy aM qM z_vM z_vM_letters vM_tape)) 0 0 A := by
  refine Met.ofW (cc := cX9_takesWord) (maxL := 2) (ret := (some .boolean)) (by decide) rfl ?_
  intro p e s m args below meth c s₁ B hml hv
  obtain ⟨rfl, ⟨hsz, hP, hK, hD0, hN⟩, hSt⟩ := hv
  have hx := B.exec
  have hb := B.bytes
  have hr := B.returns
  have ht0 : ∀ w ∈ W0, w.before _ s = true := fun w h => atoms_spec (ws := wsX9_takesWord) B.pre w (List.mem_cons_of_mem _ h)
  have hown : s.vm.findClass RX9 = some m.cls := findClass_of_methodNamed B.named
  have hlocks := B.notSynchronized
  subst hsz
  have hD : va_D A (wX9_takesWord cy aM qM vM vM_letters vM_tape) := by rw [← hAe]; exact hD0.self
  have hA : ∀ q : Nat, s.heap.size ≤ q → A q := fun q h => by rw [← hAe]; exact Or.inr h
  have hS : va_S A s.heap s.heap [] := va_S.rf
  have hl := lv_entry ([.ref aM, .ref (ad.1 x1)]) (n := 2) (Nat.le_of_ble_eq_true rfl)
  rw [lg_entry_eq]
  generalize (lg_sl ([.ref aM, .ref (ad.1 x1)]) ++ List.replicate (2 - (lg_sl ([.ref aM, .ref (ad.1 x1)])).length) Slot.unset).toArray = ls at hl ⊢
  have hl : lv_has ls 2 [(0, .ref aM), (1, .ref (ad.1 x1))] := hl
  unfold fX9_takesWord at hok
  obtain ⟨H, hH⟩ : ∃ H, H = s.heap := ⟨_, rfl⟩
  obtain ⟨locs, hlc⟩ : ∃ x : List Loc, x = [] := ⟨_, rfl⟩
  have hP : va_P D vwCl (wX9_takesWord cy aM qM vM vM_letters vM_tape) H := by rw [hH]; exact hP
  have hS : va_S A s.heap H locs := by rw [hH, hlc]; exact hS
  rw [show W p l e _ s m _ below meth c s.heap [] = W p l e _ s m _ below meth c H locs from by rw [hH, hlc]]
  refine lv_aload_n hx hb dX9_takesWord_0 rfl (lv_at hl 0 rfl) ?_
  refine lv_aload_n hx hb dX9_takesWord_1 rfl (lv_at hl 1 rfl) ?_
  obtain ⟨r2, hc2, hok⟩ := k_bind hok
  refine kCi (wc := (wX9_isWord cy aM qM vM vM_letters)) (wc2 := (wX9_isWord cy aM qM vM vM_letters)) (wr := [(qM 1, rI cy 900 vM_tape)]) (ws2 := (wX9_takesWord cy aM qM vM vM_letters vM_tape)) (kRunVS (As := [.ref (ad.1 x1)]) (rest := []) ⟨hx, hb, hml, hown, ht0⟩ (kX9_isWord l D cy ad _ aM qM vM vM_letters x1 r2 hc2 _ rfl) (cwV 1 ht0 (gV wd762 wd763 wd764 wd744 wd765) rfl rfl rfl (by decide +kernel) ⟨Nat.le_of_ble_eq_true rfl, Nat.le_of_ble_eq_true rfl⟩) hK hN hP hD hSt hS hA [0, 1] rfl (by decide) 0 8 rfl rfl rfl hl.1 rfl (Nat.le_of_ble_eq_true rfl) dX9_takesWord_2 ⟨Nat.zero_le _, Nat.zero_le _⟩) hP hD hS hA [0, 1] [2] rfl rfl (by decide) (by decide) [1, 2, 0] (by decide) rfl rfl (fun H locs hP hD hS => ?_)
  refine lv_if_ne (tgt := 10) hx hb dX9_takesWord_5 (by decide) (fun c5 => ?_) (fun c5 => ?_)
  · have hok := k_neg c5 hok
    refine lv_aload_n hx hb dX9_takesWord_10 rfl (lv_at hl 0 rfl) ?_
    obtain ⟨⟨vM_11, vM_letters_11⟩, hc11, hok⟩ := k_bind hok
    try dsimp only at hok
    refine kCv (wc := (wX9_next cy aM qM vM vM_tape vM_letters)) (wc2 := (wX9_next cy aM qM vM_11 vM_tape vM_letters_11)) (wr := []) (ws2 := (wX9_takesWord cy aM qM vM_11 vM_letters_11 vM_tape)) (kRunV (As := []) (rest := []) ⟨hx, hb, hml, hown, ht0⟩ (kX9_next l D cy _ aM qM vM vM_tape vM_letters vM_11 vM_letters_11 hc11 _ rfl) (cwV 0 ht0 (gV wd766 wd767 wd768 wd744 wd769) rfl rfl rfl (by decide +kernel) ⟨Nat.le_of_ble_eq_true rfl, Nat.le_of_ble_eq_true rfl⟩) hK hN hP hD [0, 2, 1] rfl (by decide) 0 8 rfl rfl rfl hl.1 rfl (Nat.le_of_ble_eq_true rfl) dX9_takesWord_11 ⟨Nat.zero_le _, Nat.zero_le _⟩) hP hD hS hA [0, 2, 1] [] rfl rfl (by decide) (by decide) [0, 2, 1] (by decide) rfl rfl (fun H locs hP hD hS => ?_)
    refine lv_iconst (v := 1) hx hb dX9_takesWord_14 (by decide) ?_
    cases hok
    exact W.zret hx hb hr rfl (fun t ht hW => ⟨⟨_, (), rfl, rfl, by rw [ht]; exact hP, va_K.moved hW.alike hK, hD⟩, hS.F ht⟩) hS.2.2 dX9_takesWord_15
  · have hok := k_pos c5 hok
    refine lv_iconst (v := 0) hx hb dX9_takesWord_8 (by decide) ?_
    cases hok
    exact W.zret hx hb hr rfl (fun t ht hW => ⟨⟨_, (), rfl, rfl, by rw [ht]; exact hP, va_K.moved hW.alike hK, hD⟩, hS.F ht⟩) hS.2.2 dX9_takesWord_9
def wsX9_must : List Cond := .code yX9_must cX9_must 2 none :: W0
abbrev wX9_must (cy : Nat → ClassId) (aM : Nat) (qM : Nat → Nat) (vM : Nat → Int32) (vM_letters : Nat → Int32) (vM_tape : Nat → Int32) : va_W := [(aM, oX9 vM qM), (qM 12, rI cy 8 vM_letters), (qM 1, rI cy 900 vM_tape)]
set_option maxHeartbeats 4000000 in
set_option maxRecDepth 100000 in
theorem kX9_must (l : Launch) (D : va_G) (cy : Nat → ClassId) (ad : (Nat → Nat) × (Nat → Nat)) (sz : Nat) (aM : Nat) (qM : Nat → Nat) (vM : Nat → Int32) (vM_letters : Nat → Int32) (vM_tape : Nat → Int32) (x1 : Nat) (z_vM : Nat → Int32) (z_vM_letters : Nat → Int32) (hok : fX9_must vM vM_letters vM_tape x1 = some (z_vM, z_vM_letters)) (A : Nat → Prop) (hAe : va_A (wX9_must cy aM qM vM vM_letters vM_tape) sz = A) : Met l yX9_must wsX9_must ({ frames := 6, cells := 0, slots := 0, locals := 129 } : Room) (kPreS D cy ad [.ref aM, .ref (ad.1 x1)] (wX9_must cy aM qM vM vM_letters vM_tape) sz A) (kQv D cy A (wX9_must cy aM qM z_vM z_vM_letters vM_tape)) 0 0 A := by
  refine Met.ofW (cc := cX9_must) (maxL := 2) (ret := none) (by decide) rfl ?_
  intro p e s m args below meth c s₁ B hml hv
  obtain ⟨rfl, ⟨hsz, hP, hK, hD0, hN⟩, hSt⟩ := hv
  have hx := B.exec
  have hb := B.bytes
  have hr := B.returns
  have ht0 : ∀ w ∈ W0, w.before _ s = true := fun w h => atoms_spec (ws := wsX9_must) B.pre w (List.mem_cons_of_mem _ h)
  have hown : s.vm.findClass RX9 = some m.cls := findClass_of_methodNamed B.named
  have hlocks := B.notSynchronized
  subst hsz
  have hD : va_D A (wX9_must cy aM qM vM vM_letters vM_tape) := by rw [← hAe]; exact hD0.self
  have hA : ∀ q : Nat, s.heap.size ≤ q → A q := fun q h => by rw [← hAe]; exact Or.inr h
  have hS : va_S A s.heap s.heap [] := va_S.rf
  have hl := lv_entry ([.ref aM, .ref (ad.1 x1)]) (n := 2) (Nat.le_of_ble_eq_true rfl)
  rw [lg_entry_eq]
  generalize (lg_sl ([.ref aM, .ref (ad.1 x1)]) ++ List.replicate (2 - (lg_sl ([.ref aM, .ref (ad.1 x1)])).length) Slot.unset).toArray = ls at hl ⊢
  have hl : lv_has ls 2 [(0, .ref aM), (1, .ref (ad.1 x1))] := hl
  generalize hQe : MQ below (kQv D cy A (wX9_must cy aM qM z_vM z_vM_letters vM_tape)) ([.ref aM, .ref (ad.1 x1)] : List Value).toArray s 0 0 A = Q
  have J24 : ∀ (vM_letters_24 : Nat → Int32) (vM_24 : Nat → Int32), ∀ (H : Heap) (locs : List Loc) (ls : Array Slot), va_P D vwCl (wX9_must cy aM qM vM_24 vM_letters_24 vM_tape) H → va_D A (wX9_must cy aM qM vM_24 vM_letters_24 vM_tape) → va_S A s.heap H locs → lv_has ls 2 [] → fX9_must_J24 vM_letters_24 vM_24 = some (z_vM, z_vM_letters) → W p l e ({ frames := 6, cells := 0, slots := 0, locals := 129 } : Room) s m ([.ref aM, .ref (ad.1 x1)] : List Value).toArray below meth c H locs 0 0 Q (F0 m 24 ls []) := by
    intro vM_letters_24 vM_24 H locs ls hP hD hS hl hok
    unfold fX9_must_J24 at hok
    cases hok
    subst hQe; exact W.vret hx hb hr (fun t ht hW => ⟨⟨(), rfl, trivial, by rw [ht]; exact hP, va_K.moved hW.alike hK, hD⟩, hS.F ht⟩) hS.2.2 dX9_must_24
  unfold fX9_must at hok
  obtain ⟨H, hH⟩ : ∃ H, H = s.heap := ⟨_, rfl⟩
  obtain ⟨locs, hlc⟩ : ∃ x : List Loc, x = [] := ⟨_, rfl⟩
  have hP : va_P D vwCl (wX9_must cy aM qM vM vM_letters vM_tape) H := by rw [hH]; exact hP
  have hS : va_S A s.heap H locs := by rw [hH, hlc]; exact hS
  rw [show W p l e _ s m _ below meth c s.heap [] = W p l e _ s m _ below meth c H locs from by rw [hH, hlc]]
  refine lv_aload_n hx hb dX9_must_0 rfl (lv_at hl 0 rfl) ?_
  refine va_get (D := D) (ci := 8) (v := .int (vM 13)) (C := RX9) (T := TX9) (N := 29) hx hb ht0 niX9 hown hK hP 0 rfl rfl 13 (by decide) (ht0 _ wd757) (fun _ h9 => h9) rfl dX9_must_1 ?_
  refine lv_if_ne (tgt := 24) hx hb dX9_must_4 (by decide) (fun c4 => ?_) (fun c4 => ?_)
  · have hok := k_neg c4 hok
    exact J24 vM_letters vM H locs ls hP hD hS (lv_sub hl [] rfl) hok
  · have hok := k_pos c4 hok
    refine lv_aload_n hx hb dX9_must_7 rfl (lv_at hl 0 rfl) ?_
    refine lv_aload_n hx hb dX9_must_8 rfl (lv_at hl 1 rfl) ?_
    obtain ⟨⟨r9, vM_9, vM_letters_9⟩, hc9, hok⟩ := k_bind hok
    try dsimp only at hok
    refine kCi (wc := (wX9_takesWord cy aM qM vM vM_letters vM_tape)) (wc2 := (wX9_takesWord cy aM qM vM_9 vM_letters_9 vM_tape)) (wr := []) (ws2 := (wX9_must cy aM qM vM_9 vM_letters_9 vM_tape)) (kRunVS (As := [.ref (ad.1 x1)]) (rest := []) ⟨hx, hb, hml, hown, ht0⟩ (kX9_takesWord l D cy ad _ aM qM vM vM_letters vM_tape x1 r9 vM_9 vM_letters_9 hc9 _ rfl) (cwV 1 ht0 (gV wd770 wd771 wd772 wd744 wd773) rfl rfl rfl (by decide +kernel) ⟨Nat.le_of_ble_eq_true rfl, Nat.le_of_ble_eq_true rfl⟩) hK hN hP hD hSt hS hA [0, 1, 2] rfl (by decide) 0 8 rfl rfl rfl hl.1 rfl (Nat.le_of_ble_eq_true rfl) dX9_must_9 ⟨Nat.zero_le _, Nat.zero_le _⟩) hP hD hS hA [0, 1, 2] [] rfl rfl (by decide) (by decide) [0, 1, 2] (by decide) rfl rfl (fun H locs hP hD hS => ?_)
    refine lv_if_ne (tgt := 24) hx hb dX9_must_12 (by decide) (fun c12 => ?_) (fun c12 => ?_)
    · have hok := k_neg c12 hok
      exact J24 vM_letters_9 vM_9 H locs ls hP hD hS (lv_sub hl [] rfl) hok
    · have hok := k_pos c12 hok
      refine lv_aload_n hx hb dX9_must_15 rfl (lv_at hl 0 rfl) ?_
      refine lv_iconst (v := 1) hx hb dX9_must_16 (by decide) ?_
      refine lv_aload_n hx hb dX9_must_17 rfl (lv_at hl 0 rfl) ?_
      refine va_get (D := D) (ci := 8) (v := .int (vM_9 4)) (C := RX9) (T := TX9) (N := 29) hx hb ht0 niX9 hown hK hP 0 rfl rfl 4 (by decide) (ht0 _ wd756) (fun _ h9 => h9) rfl dX9_must_18 ?_
      obtain ⟨vM_21, hc21, hok⟩ := k_bind hok
      refine kCv (wc := (wX9_wrong cy aM qM vM_9)) (wc2 := (wX9_wrong cy aM qM vM_21)) (wr := [(qM 12, rI cy 8 vM_letters_9), (qM 1, rI cy 900 vM_tape)]) (ws2 := (wX9_must cy aM qM vM_21 vM_letters_9 vM_tape)) (kRunV (As := [.int 1, .int (vM_9 4)]) (rest := []) ⟨hx, hb, hml, hown, ht0⟩ (kX9_wrong l D cy _ aM qM vM_9 (1 : Int32) (vM_9 4) vM_21 hc21 _ rfl) (cwV 2 ht0 (gV wd774 wd775 wd776 wd744 wd777) rfl rfl rfl (by decide +kernel) ⟨Nat.le_of_ble_eq_true rfl, Nat.le_of_ble_eq_true rfl⟩) hK hN hP hD [0] rfl (by decide) 0 8 rfl rfl rfl hl.1 rfl (Nat.le_of_ble_eq_true rfl) dX9_must_21 ⟨Nat.zero_le _, Nat.zero_le _⟩) hP hD hS hA [0] [1, 2] rfl rfl (by decide) (by decide) [2, 0, 1] (by decide) rfl rfl (fun H locs hP hD hS => ?_)
      exact J24 vM_letters_9 vM_21 H locs ls hP hD hS (lv_sub hl [] rfl) hok
def wsX9_mustName : List Cond := .code yX9_mustName cX9_mustName 1 none :: W0
abbrev wX9_mustName (cy : Nat → ClassId) (aM : Nat) (qM : Nat → Nat) (vM : Nat → Int32) (vM_letters : Nat → Int32) : va_W := [(aM, oX9 vM qM), (qM 12, rI cy 8 vM_letters)]
set_option maxHeartbeats 4000000 in
set_option maxRecDepth 100000 in
theorem kX9_mustName (l : Launch) (D : va_G) (cy : Nat → ClassId) (ad : (Nat → Nat) × (Nat → Nat)) (sz : Nat) (aM : Nat) (qM : Nat → Nat) (vM : Nat → Int32) (vM_letters : Nat → Int32) (z_vM : Nat → Int32) (hok : fX9_mustName vM vM_letters = some z_vM) (A : Nat → Prop) (hAe : va_A (wX9_mustName cy aM qM vM vM_letters) sz = A) : Met l yX9_mustName wsX9_mustName ({ frames := 5, cells := 0, slots := 0, locals := 108 } : Room) (kPreS D cy ad [.ref aM] (wX9_mustName cy aM qM vM vM_letters) sz A) (kQv D cy A (wX9_mustName cy aM qM z_vM vM_letters)) 0 0 A := by
  refine Met.ofW (cc := cX9_mustName) (maxL := 1) (ret := none) (by decide) rfl ?_
  intro p e s m args below meth c s₁ B hml hv
  obtain ⟨rfl, ⟨hsz, hP, hK, hD0, hN⟩, hSt⟩ := hv
  have hx := B.exec
  have hb := B.bytes
  have hr := B.returns
  have ht0 : ∀ w ∈ W0, w.before _ s = true := fun w h => atoms_spec (ws := wsX9_mustName) B.pre w (List.mem_cons_of_mem _ h)
  have hown : s.vm.findClass RX9 = some m.cls := findClass_of_methodNamed B.named
  have hlocks := B.notSynchronized
  subst hsz
  have hD : va_D A (wX9_mustName cy aM qM vM vM_letters) := by rw [← hAe]; exact hD0.self
  have hA : ∀ q : Nat, s.heap.size ≤ q → A q := fun q h => by rw [← hAe]; exact Or.inr h
  have hS : va_S A s.heap s.heap [] := va_S.rf
  have hl := lv_entry ([.ref aM]) (n := 1) (Nat.le_of_ble_eq_true rfl)
  rw [lg_entry_eq]
  generalize (lg_sl ([.ref aM]) ++ List.replicate (1 - (lg_sl ([.ref aM])).length) Slot.unset).toArray = ls at hl ⊢
  have hl : lv_has ls 1 [(0, .ref aM)] := hl
  generalize hQe : MQ below (kQv D cy A (wX9_mustName cy aM qM z_vM vM_letters)) ([.ref aM] : List Value).toArray s 0 0 A = Q
  have J89 : ∀ (vM_89 : Nat → Int32), ∀ (H : Heap) (locs : List Loc) (ls : Array Slot), va_P D vwCl (wX9_mustName cy aM qM vM_89 vM_letters) H → va_D A (wX9_mustName cy aM qM vM_89 vM_letters) → va_S A s.heap H locs → lv_has ls 1 [] → fX9_mustName_J89 vM_89 = some z_vM → W p l e ({ frames := 5, cells := 0, slots := 0, locals := 108 } : Room) s m ([.ref aM] : List Value).toArray below meth c H locs 0 0 Q (F0 m 89 ls []) := by
    intro vM_89 H locs ls hP hD hS hl hok
    unfold fX9_mustName_J89 at hok
    cases hok
    subst hQe; exact W.vret hx hb hr (fun t ht hW => ⟨⟨(), rfl, trivial, by rw [ht]; exact hP, va_K.moved hW.alike hK, hD⟩, hS.F ht⟩) hS.2.2 dX9_mustName_89
  have J80 : ∀ (H : Heap) (locs : List Loc) (ls : Array Slot), va_P D vwCl (wX9_mustName cy aM qM vM vM_letters) H → va_D A (wX9_mustName cy aM qM vM vM_letters) → va_S A s.heap H locs → lv_has ls 1 [(0, .ref aM)] → fX9_mustName_J80 vM = some z_vM → W p l e ({ frames := 5, cells := 0, slots := 0, locals := 108 } : Room) s m ([.ref aM] : List Value).toArray below meth c H locs 0 0 Q (F0 m 80 ls []) := by
    intro  H locs ls hP hD hS hl hok
    unfold fX9_mustName_J80 at hok
    refine lv_aload_n hx hb dX9_mustName_80 rfl (lv_at hl 0 rfl) ?_
    refine lv_iconst (v := 1) hx hb dX9_mustName_81 (by decide) ?_
    refine lv_aload_n hx hb dX9_mustName_82 rfl (lv_at hl 0 rfl) ?_
    refine va_get (D := D) (ci := 8) (v := .int (vM 4)) (C := RX9) (T := TX9) (N := 29) hx hb ht0 niX9 hown hK hP 0 rfl rfl 4 (by decide) (ht0 _ wd756) (fun _ h9 => h9) rfl dX9_mustName_83 ?_
    obtain ⟨vM_86, hc86, hok⟩ := k_bind hok
    refine kCv (wc := (wX9_wrong cy aM qM vM)) (wc2 := (wX9_wrong cy aM qM vM_86)) (wr := [(qM 12, rI cy 8 vM_letters)]) (ws2 := (wX9_mustName cy aM qM vM_86 vM_letters)) (kRunV (As := [.int 1, .int (vM 4)]) (rest := []) ⟨hx, hb, hml, hown, ht0⟩ (kX9_wrong l D cy _ aM qM vM (1 : Int32) (vM 4) vM_86 hc86 _ rfl) (cwV 2 ht0 (gV wd774 wd775 wd776 wd744 wd777) rfl rfl rfl (by decide +kernel) ⟨Nat.le_of_ble_eq_true rfl, Nat.le_of_ble_eq_true rfl⟩) hK hN hP hD [0] rfl (by decide) 0 8 rfl rfl rfl hl.1 rfl (Nat.le_of_ble_eq_true rfl) dX9_mustName_86 ⟨Nat.zero_le _, Nat.zero_le _⟩) hP hD hS hA [0] [1] rfl rfl (by decide) (by decide) [1, 0] (by decide) rfl rfl (fun H locs hP hD hS => ?_)
    exact J89 vM_86 H locs ls hP hD hS (lv_sub hl [] rfl) hok
  unfold fX9_mustName at hok
  obtain ⟨H, hH⟩ : ∃ H, H = s.heap := ⟨_, rfl⟩
  obtain ⟨locs, hlc⟩ : ∃ x : List Loc, x = [] := ⟨_, rfl⟩
  have hP : va_P D vwCl (wX9_mustName cy aM qM vM vM_letters) H := by rw [hH]; exact hP
  have hS : va_S A s.heap H locs := by rw [hH, hlc]; exact hS
  rw [show W p l e _ s m _ below meth c s.heap [] = W p l e _ s m _ below meth c H locs from by rw [hH, hlc]]
  refine lv_aload_n hx hb dX9_mustName_0 rfl (lv_at hl 0 rfl) ?_
  refine va_get (D := D) (ci := 8) (v := .int (vM 6)) (C := RX9) (T := TX9) (N := 29) hx hb ht0 niX9 hown hK hP 0 rfl rfl 6 (by decide) (ht0 _ wd740) (fun _ h9 => h9) rfl dX9_mustName_1 ?_
  refine lv_iconst (v := 2) hx hb dX9_mustName_4 (by decide) ?_
  refine lv_icmp_ne (tgt := 80) hx hb dX9_mustName_5 (by decide) (fun c5 => ?_) (fun c5 => ?_)
  · have hok := k_neg c5 hok
    exact J80  H locs ls hP hD hS (lv_sub hl [0] rfl) hok
  · have hok := k_pos c5 hok
    refine lv_aload_n hx hb dX9_mustName_8 rfl (lv_at hl 0 rfl) ?_
    refine va_ldcS (own := RX9) (tx := "house") (index := 113) (q := ad.1 8) hx hb hown (hSt.2.1 (RX9, 113, "house", 8) (List.mem_of_getElem? (i := 22) rfl)) dX9_mustName_9 ?_
    obtain ⟨r11, hc11, hok⟩ := k_bind hok
    refine kCi (wc := (wX9_isWord cy aM qM vM vM_letters)) (wc2 := (wX9_isWord cy aM qM vM vM_letters)) (wr := []) (ws2 := (wX9_mustName cy aM qM vM vM_letters)) (kRunVS (As := [.ref (ad.1 8)]) (rest := []) ⟨hx, hb, hml, hown, ht0⟩ (kX9_isWord l D cy ad _ aM qM vM vM_letters 8 r11 hc11 _ rfl) (cwV 1 ht0 (gV wd762 wd763 wd764 wd744 wd765) rfl rfl rfl (by decide +kernel) ⟨Nat.le_of_ble_eq_true rfl, Nat.le_of_ble_eq_true rfl⟩) hK hN hP hD hSt hS hA [0, 1] rfl (by decide) 0 8 rfl rfl rfl hl.1 rfl (Nat.le_of_ble_eq_true rfl) dX9_mustName_11 ⟨Nat.zero_le _, Nat.zero_le _⟩) hP hD hS hA [0, 1] [] rfl rfl (by decide) (by decide) [0, 1] (by decide) rfl rfl (fun H locs hP hD hS => ?_)
    refine lv_if_ne (tgt := 80) hx hb dX9_mustName_14 (by decide) (fun c14 => ?_) (fun c14 => ?_)
    · have hok := k_neg c14 hok
      exact J80  H locs ls hP hD hS (lv_sub hl [0] rfl) hok
    · have hok := k_pos c14 hok
      refine lv_aload_n hx hb dX9_mustName_17 rfl (lv_at hl 0 rfl) ?_
      refine va_ldcS (own := RX9) (tx := "ring") (index := 115) (q := ad.1 18) hx hb hown (hSt.2.1 (RX9, 115, "ring", 18) (List.mem_of_getElem? (i := 23) rfl)) dX9_mustName_18 ?_
      obtain ⟨r20, hc20, hok⟩ := k_bind hok
      refine kCi (wc := (wX9_isWord cy aM qM vM vM_letters)) (wc2 := (wX9_isWord cy aM qM vM vM_letters)) (wr := []) (ws2 := (wX9_mustName cy aM qM vM vM_letters)) (kRunVS (As := [.ref (ad.1 18)]) (rest := []) ⟨hx, hb, hml, hown, ht0⟩ (kX9_isWord l D cy ad _ aM qM vM vM_letters 18 r20 hc20 _ rfl) (cwV 1 ht0 (gV wd762 wd763 wd764 wd744 wd765) rfl rfl rfl (by decide +kernel) ⟨Nat.le_of_ble_eq_true rfl, Nat.le_of_ble_eq_true rfl⟩) hK hN hP hD hSt hS hA [0, 1] rfl (by decide) 0 8 rfl rfl rfl hl.1 rfl (Nat.le_of_ble_eq_true rfl) dX9_mustName_20 ⟨Nat.zero_le _, Nat.zero_le _⟩) hP hD hS hA [0, 1] [] rfl rfl (by decide) (by decide) [0, 1] (by decide) rfl rfl (fun H locs hP hD hS => ?_)
      refine lv_if_ne (tgt := 80) hx hb dX9_mustName_23 (by decide) (fun c23 => ?_) (fun c23 => ?_)
      · have hok := k_neg c23 hok
        exact J80  H locs ls hP hD hS (lv_sub hl [0] rfl) hok
      · have hok := k_pos c23 hok
        refine lv_aload_n hx hb dX9_mustName_26 rfl (lv_at hl 0 rfl) ?_
        refine va_ldcS (own := RX9) (tx := "narrow") (index := 117) (q := ad.1 11) hx hb hown (hSt.2.1 (RX9, 117, "narrow", 11) (List.mem_of_getElem? (i := 24) rfl)) dX9_mustName_27 ?_
        obtain ⟨r29, hc29, hok⟩ := k_bind hok
        refine kCi (wc := (wX9_isWord cy aM qM vM vM_letters)) (wc2 := (wX9_isWord cy aM qM vM vM_letters)) (wr := []) (ws2 := (wX9_mustName cy aM qM vM vM_letters)) (kRunVS (As := [.ref (ad.1 11)]) (rest := []) ⟨hx, hb, hml, hown, ht0⟩ (kX9_isWord l D cy ad _ aM qM vM vM_letters 11 r29 hc29 _ rfl) (cwV 1 ht0 (gV wd762 wd763 wd764 wd744 wd765) rfl rfl rfl (by decide +kernel) ⟨Nat.le_of_ble_eq_true rfl, Nat.le_of_ble_eq_true rfl⟩) hK hN hP hD hSt hS hA [0, 1] rfl (by decide) 0 8 rfl rfl rfl hl.1 rfl (Nat.le_of_ble_eq_true rfl) dX9_mustName_29 ⟨Nat.zero_le _, Nat.zero_le _⟩) hP hD hS hA [0, 1] [] rfl rfl (by decide) (by decide) [0, 1] (by decide) rfl rfl (fun H locs hP hD hS => ?_)
        refine lv_if_ne (tgt := 80) hx hb dX9_mustName_32 (by decide) (fun c32 => ?_) (fun c32 => ?_)
        · have hok := k_neg c32 hok
          exact J80  H locs ls hP hD hS (lv_sub hl [0] rfl) hok
        · have hok := k_pos c32 hok
          refine lv_aload_n hx hb dX9_mustName_35 rfl (lv_at hl 0 rfl) ?_
          refine va_ldcS (own := RX9) (tx := "door") (index := 119) (q := ad.1 6) hx hb hown (hSt.2.1 (RX9, 119, "door", 6) (List.mem_of_getElem? (i := 25) rfl)) dX9_mustName_36 ?_
          obtain ⟨r38, hc38, hok⟩ := k_bind hok
          refine kCi (wc := (wX9_isWord cy aM qM vM vM_letters)) (wc2 := (wX9_isWord cy aM qM vM vM_letters)) (wr := []) (ws2 := (wX9_mustName cy aM qM vM vM_letters)) (kRunVS (As := [.ref (ad.1 6)]) (rest := []) ⟨hx, hb, hml, hown, ht0⟩ (kX9_isWord l D cy ad _ aM qM vM vM_letters 6 r38 hc38 _ rfl) (cwV 1 ht0 (gV wd762 wd763 wd764 wd744 wd765) rfl rfl rfl (by decide +kernel) ⟨Nat.le_of_ble_eq_true rfl, Nat.le_of_ble_eq_true rfl⟩) hK hN hP hD hSt hS hA [0, 1] rfl (by decide) 0 8 rfl rfl rfl hl.1 rfl (Nat.le_of_ble_eq_true rfl) dX9_mustName_38 ⟨Nat.zero_le _, Nat.zero_le _⟩) hP hD hS hA [0, 1] [] rfl rfl (by decide) (by decide) [0, 1] (by decide) rfl rfl (fun H locs hP hD hS => ?_)
          refine lv_if_ne (tgt := 80) hx hb dX9_mustName_41 (by decide) (fun c41 => ?_) (fun c41 => ?_)
          · have hok := k_neg c41 hok
            exact J80  H locs ls hP hD hS (lv_sub hl [0] rfl) hok
          · have hok := k_pos c41 hok
            refine lv_aload_n hx hb dX9_mustName_44 rfl (lv_at hl 0 rfl) ?_
            refine va_ldcS (own := RX9) (tx := "thing") (index := 121) (q := ad.1 20) hx hb hown (hSt.2.1 (RX9, 121, "thing", 20) (List.mem_of_getElem? (i := 26) rfl)) dX9_mustName_45 ?_
            obtain ⟨r47, hc47, hok⟩ := k_bind hok
            refine kCi (wc := (wX9_isWord cy aM qM vM vM_letters)) (wc2 := (wX9_isWord cy aM qM vM vM_letters)) (wr := []) (ws2 := (wX9_mustName cy aM qM vM vM_letters)) (kRunVS (As := [.ref (ad.1 20)]) (rest := []) ⟨hx, hb, hml, hown, ht0⟩ (kX9_isWord l D cy ad _ aM qM vM vM_letters 20 r47 hc47 _ rfl) (cwV 1 ht0 (gV wd762 wd763 wd764 wd744 wd765) rfl rfl rfl (by decide +kernel) ⟨Nat.le_of_ble_eq_true rfl, Nat.le_of_ble_eq_true rfl⟩) hK hN hP hD hSt hS hA [0, 1] rfl (by decide) 0 8 rfl rfl rfl hl.1 rfl (Nat.le_of_ble_eq_true rfl) dX9_mustName_47 ⟨Nat.zero_le _, Nat.zero_le _⟩) hP hD hS hA [0, 1] [] rfl rfl (by decide) (by decide) [0, 1] (by decide) rfl rfl (fun H locs hP hD hS => ?_)
            refine lv_if_ne (tgt := 80) hx hb dX9_mustName_50 (by decide) (fun c50 => ?_) (fun c50 => ?_)
            · have hok := k_neg c50 hok
              exact J80  H locs ls hP hD hS (lv_sub hl [0] rfl) hok
            · have hok := k_pos c50 hok
              refine lv_aload_n hx hb dX9_mustName_53 rfl (lv_at hl 0 rfl) ?_
              refine va_ldcS (own := RX9) (tx := "want") (index := 123) (q := ad.1 21) hx hb hown (hSt.2.1 (RX9, 123, "want", 21) (List.mem_of_getElem? (i := 27) rfl)) dX9_mustName_54 ?_
              obtain ⟨r56, hc56, hok⟩ := k_bind hok
              refine kCi (wc := (wX9_isWord cy aM qM vM vM_letters)) (wc2 := (wX9_isWord cy aM qM vM vM_letters)) (wr := []) (ws2 := (wX9_mustName cy aM qM vM vM_letters)) (kRunVS (As := [.ref (ad.1 21)]) (rest := []) ⟨hx, hb, hml, hown, ht0⟩ (kX9_isWord l D cy ad _ aM qM vM vM_letters 21 r56 hc56 _ rfl) (cwV 1 ht0 (gV wd762 wd763 wd764 wd744 wd765) rfl rfl rfl (by decide +kernel) ⟨Nat.le_of_ble_eq_true rfl, Nat.le_of_ble_eq_true rfl⟩) hK hN hP hD hSt hS hA [0, 1] rfl (by decide) 0 8 rfl rfl rfl hl.1 rfl (Nat.le_of_ble_eq_true rfl) dX9_mustName_56 ⟨Nat.zero_le _, Nat.zero_le _⟩) hP hD hS hA [0, 1] [] rfl rfl (by decide) (by decide) [0, 1] (by decide) rfl rfl (fun H locs hP hD hS => ?_)
              refine lv_if_ne (tgt := 80) hx hb dX9_mustName_59 (by decide) (fun c59 => ?_) (fun c59 => ?_)
              · have hok := k_neg c59 hok
                exact J80  H locs ls hP hD hS (lv_sub hl [0] rfl) hok
              · have hok := k_pos c59 hok
                refine lv_aload_n hx hb dX9_mustName_62 rfl (lv_at hl 0 rfl) ?_
                refine va_ldcS (own := RX9) (tx := "found") (index := 125) (q := ad.1 7) hx hb hown (hSt.2.1 (RX9, 125, "found", 7) (List.mem_of_getElem? (i := 28) rfl)) dX9_mustName_63 ?_
                obtain ⟨r65, hc65, hok⟩ := k_bind hok
                refine kCi (wc := (wX9_isWord cy aM qM vM vM_letters)) (wc2 := (wX9_isWord cy aM qM vM vM_letters)) (wr := []) (ws2 := (wX9_mustName cy aM qM vM vM_letters)) (kRunVS (As := [.ref (ad.1 7)]) (rest := []) ⟨hx, hb, hml, hown, ht0⟩ (kX9_isWord l D cy ad _ aM qM vM vM_letters 7 r65 hc65 _ rfl) (cwV 1 ht0 (gV wd762 wd763 wd764 wd744 wd765) rfl rfl rfl (by decide +kernel) ⟨Nat.le_of_ble_eq_true rfl, Nat.le_of_ble_eq_true rfl⟩) hK hN hP hD hSt hS hA [0, 1] rfl (by decide) 0 8 rfl rfl rfl hl.1 rfl (Nat.le_of_ble_eq_true rfl) dX9_mustName_65 ⟨Nat.zero_le _, Nat.zero_le _⟩) hP hD hS hA [0, 1] [] rfl rfl (by decide) (by decide) [0, 1] (by decide) rfl rfl (fun H locs hP hD hS => ?_)
                refine lv_if_ne (tgt := 80) hx hb dX9_mustName_68 (by decide) (fun c68 => ?_) (fun c68 => ?_)
                · have hok := k_neg c68 hok
                  exact J80  H locs ls hP hD hS (lv_sub hl [0] rfl) hok
                · have hok := k_pos c68 hok
                  refine lv_aload_n hx hb dX9_mustName_71 rfl (lv_at hl 0 rfl) ?_
                  refine va_ldcS (own := RX9) (tx := "lost") (index := 127) (q := ad.1 10) hx hb hown (hSt.2.1 (RX9, 127, "lost", 10) (List.mem_of_getElem? (i := 29) rfl)) dX9_mustName_72 ?_
                  obtain ⟨r74, hc74, hok⟩ := k_bind hok
                  refine kCi (wc := (wX9_isWord cy aM qM vM vM_letters)) (wc2 := (wX9_isWord cy aM qM vM vM_letters)) (wr := []) (ws2 := (wX9_mustName cy aM qM vM vM_letters)) (kRunVS (As := [.ref (ad.1 10)]) (rest := []) ⟨hx, hb, hml, hown, ht0⟩ (kX9_isWord l D cy ad _ aM qM vM vM_letters 10 r74 hc74 _ rfl) (cwV 1 ht0 (gV wd762 wd763 wd764 wd744 wd765) rfl rfl rfl (by decide +kernel) ⟨Nat.le_of_ble_eq_true rfl, Nat.le_of_ble_eq_true rfl⟩) hK hN hP hD hSt hS hA [0, 1] rfl (by decide) 0 8 rfl rfl rfl hl.1 rfl (Nat.le_of_ble_eq_true rfl) dX9_mustName_74 ⟨Nat.zero_le _, Nat.zero_le _⟩) hP hD hS hA [0, 1] [] rfl rfl (by decide) (by decide) [0, 1] (by decide) rfl rfl (fun H locs hP hD hS => ?_)
                  refine lv_if_eq (tgt := 89) hx hb dX9_mustName_77 (by decide) (fun c77 => ?_) (fun c77 => ?_)
                  · have hok := k_pos c77 hok
                    exact J89 vM H locs ls hP hD hS (lv_sub hl [] rfl) hok
                  · have hok := k_neg c77 hok
                    exact J80  H locs ls hP hD hS (lv_sub hl [0] rfl) hok
def wsX9_find : List Cond := .code yX9_find cX9_find 4 (some .int) :: W0
abbrev wX9_find (cy : Nat → ClassId) (aM : Nat) (qM : Nat → Nat) (vM : Nat → Int32) (vM_fresh : Nat → Int32) (vM_letters : Nat → Int32) : va_W := [(aM, oX9 vM qM), (qM 16, rI cy 224 vM_fresh), (qM 12, rI cy 8 vM_letters)]
set_option maxHeartbeats 4000000 in
set_option maxRecDepth 100000 in
theorem kX9_find (l : Launch) (D : va_G) (cy : Nat → ClassId) (sz : Nat) (aM : Nat) (qM : Nat → Nat) (vM : Nat → Int32) (vM_fresh : Nat → Int32) (vM_letters : Nat → Int32) (zr : Int32) (hok : fX9_find vM vM_fresh vM_letters = some zr) (A : Nat → Prop) (hAe : va_A (wX9_find cy aM qM vM vM_fresh vM_letters) sz = A) : Met l yX9_find wsX9_find ({ frames := 0, cells := 0, slots := 0, locals := 0 } : Room) (kPre D cy [.ref aM] (wX9_find cy aM qM vM vM_fresh vM_letters) sz) (kQi D cy zr A (wX9_find cy aM qM vM vM_fresh vM_letters)) 0 0 A := by
  refine Met.ofW (cc := cX9_find) (maxL := 4) (ret := (some .int)) (by decide) rfl ?_
  intro p e s m args below meth c s₁ B hml hv
  obtain ⟨rfl, hsz, hP, hK, hD0, hN⟩ := hv
  have hx := B.exec
  have hb := B.bytes
  have hr := B.returns
  have ht0 : ∀ w ∈ W0, w.before _ s = true := fun w h => atoms_spec (ws := wsX9_find) B.pre w (List.mem_cons_of_mem _ h)
  have hown : s.vm.findClass RX9 = some m.cls := findClass_of_methodNamed B.named
  have hlocks := B.notSynchronized
  subst hsz
  have hD : va_D A (wX9_find cy aM qM vM vM_fresh vM_letters) := by rw [← hAe]; exact hD0.self
  have hA : ∀ q : Nat, s.heap.size ≤ q → A q := fun q h => by rw [← hAe]; exact Or.inr h
  have hS : va_S A s.heap s.heap [] := va_S.rf
  have hl := lv_entry ([.ref aM]) (n := 4) (Nat.le_of_ble_eq_true rfl)
  rw [lg_entry_eq]
  generalize (lg_sl ([.ref aM]) ++ List.replicate (4 - (lg_sl ([.ref aM])).length) Slot.unset).toArray = ls at hl ⊢
  have hl : lv_has ls 4 [(0, .ref aM)] := hl
  generalize hQe : MQ below (kQi D cy zr A (wX9_find cy aM qM vM vM_fresh vM_letters)) ([.ref aM] : List Value).toArray s 0 0 A = Q
  have L2 : ∀ (fuel : Nat) (y1_2 : Int32), ∀ (H : Heap) (locs : List Loc) (ls : Array Slot), va_P D vwCl (wX9_find cy aM qM vM vM_fresh vM_letters) H → va_D A (wX9_find cy aM qM vM vM_fresh vM_letters) → va_S A s.heap H locs → lv_has ls 4 [(0, .ref aM), (1, .int y1_2)] → lp (fX9_find_B2 vM vM_fresh vM_letters) fuel y1_2 = some zr → W p l e ({ frames := 0, cells := 0, slots := 0, locals := 0 } : Room) s m ([.ref aM] : List Value).toArray below meth c H locs 0 0 Q (F0 m 2 ls []) := by
    intro fuel
    induction fuel with
    | zero => intro y1_2 H locs ls hP hD hS hl hok; exact (lp_0 hok).elim
    | succ fuel ih2 =>
      intro y1_2 H locs ls hP hD hS hl hok
      obtain ⟨y2, hok, hL2, hR2⟩ := lp_step hok
      have J92 : ∀ (y2_92 : Int32), ∀ (H : Heap) (locs : List Loc) (ls : Array Slot), va_P D vwCl (wX9_find cy aM qM vM vM_fresh vM_letters) H → va_D A (wX9_find cy aM qM vM vM_fresh vM_letters) → va_S A s.heap H locs → lv_has ls 4 [(0, .ref aM), (1, .int y1_2), (2, .int y2_92)] → fX9_find_J92 y1_2 y2_92 = some y2 → W p l e ({ frames := 0, cells := 0, slots := 0, locals := 0 } : Room) s m ([.ref aM] : List Value).toArray below meth c H locs 0 0 Q (F0 m 92 ls []) := by
        intro y2_92 H locs ls hP hD hS hl hok
        unfold fX9_find_J92 at hok
        refine lv_iload_n hx hb dX9_find_92 rfl (lv_at hl 2 rfl) ?_
        refine lv_if_eq (tgt := 98) hx hb dX9_find_93 (by decide) (fun c93 => ?_) (fun c93 => ?_)
        · have hok := k_pos c93 hok
          refine lv_iinc (v := (y1_2 + 1)) (lv' := [(1, .int (y1_2 + 1)), (0, .ref aM), (2, .int y2_92)]) hx hb dX9_find_98 hl (k := 1) rfl (by first | rfl | decide) (by decide) rfl (fun ls hl => ?_)
          refine lv_goto (tgt := 2) hx hb dX9_find_101 (by decide) ?_
          exact ih2 (y1_2 + 1) H locs ls hP hD hS (lv_sub hl [1, 0] rfl) (hR2 _ (Option.some.inj hok).symm)
        · have hok := k_neg c93 hok
          obtain ⟨e2, hok, he2⟩ := ex_some hok
          have hok := hok.trans (congrArg some (hL2 _ he2))
          refine lv_iload_n hx hb dX9_find_96 rfl (lv_at hl 1 rfl) ?_
          cases hok
          subst hQe; exact W.iret hx hb hr (fun t ht hW => ⟨⟨_, (), rfl, rfl, by rw [ht]; exact hP, va_K.moved hW.alike hK, hD⟩, hS.F ht⟩) hS.2.2 dX9_find_97
      have L44 : ∀ (fuel : Nat) (y2_44 : Int32) (y3_44 : Int32), ∀ (H : Heap) (locs : List Loc) (ls : Array Slot), va_P D vwCl (wX9_find cy aM qM vM vM_fresh vM_letters) H → va_D A (wX9_find cy aM qM vM vM_fresh vM_letters) → va_S A s.heap H locs → lv_has ls 4 [(0, .ref aM), (1, .int y1_2), (2, .int y2_44), (3, .int y3_44)] → lp (fX9_find_B44 vM vM_fresh vM_letters y1_2) fuel (y2_44, y3_44) = some y2 → W p l e ({ frames := 0, cells := 0, slots := 0, locals := 0 } : Room) s m ([.ref aM] : List Value).toArray below meth c H locs 0 0 Q (F0 m 44 ls []) := by
        intro fuel
        induction fuel with
        | zero => intro y2_44 y3_44 H locs ls hP hD hS hl hok; exact (lp_0 hok).elim
        | succ fuel ih44 =>
          intro y2_44 y3_44 H locs ls hP hD hS hl hok
          obtain ⟨y44, hok, hL44, hR44⟩ := lp_step hok
          have J85 : ∀ (t0_85 : Int32), ∀ (H : Heap) (locs : List Loc) (ls : Array Slot), va_P D vwCl (wX9_find cy aM qM vM vM_fresh vM_letters) H → va_D A (wX9_find cy aM qM vM vM_fresh vM_letters) → va_S A s.heap H locs → lv_has ls 4 [(0, .ref aM), (1, .int y1_2), (3, .int y3_44)] → fX9_find_J85 y3_44 t0_85 = some y44 → W p l e ({ frames := 0, cells := 0, slots := 0, locals := 0 } : Room) s m ([.ref aM] : List Value).toArray below meth c H locs 0 0 Q (F0 m 85 ls [.int t0_85]) := by
            intro t0_85 H locs ls hP hD hS hl hok
            unfold fX9_find_J85 at hok
            refine lv_istore_n (lv' := [(2, .int t0_85), (0, .ref aM), (1, .int y1_2), (3, .int y3_44)]) hx hb dX9_find_85 rfl hl (by decide) rfl (fun ls hl => ?_)
            refine lv_iinc (v := (y3_44 + 1)) (lv' := [(3, .int (y3_44 + 1)), (2, .int t0_85), (0, .ref aM), (1, .int y1_2)]) hx hb dX9_find_86 hl (k := 3) rfl (by first | rfl | decide) (by decide) rfl (fun ls hl => ?_)
            refine lv_goto (tgt := 44) hx hb dX9_find_89 (by decide) ?_
            exact ih44 t0_85 (y3_44 + 1) H locs ls hP hD hS (lv_sub hl [2, 3, 1, 0] rfl) (hR44 _ (Option.some.inj hok).symm)
          unfold fX9_find_B44 at hok
          try dsimp only at hok
          refine lv_iload_n hx hb dX9_find_44 rfl (lv_at hl 3 rfl) ?_
          refine lv_aload_n hx hb dX9_find_45 rfl (lv_at hl 0 rfl) ?_
          refine va_get (D := D) (ci := 8) (v := .int (vM 8)) (C := RX9) (T := TX9) (N := 29) hx hb ht0 niX9 hown hK hP 0 rfl rfl 8 (by decide) (ht0 _ wd751) (fun _ h9 => h9) rfl dX9_find_46 ?_
          refine lv_icmp_ge (tgt := 92) hx hb dX9_find_49 (by decide) (fun c49 => ?_) (fun c49 => ?_)
          · have hok := k_pos c49 hok
            obtain ⟨e44, hok, he44⟩ := ex_some hok
            have hok := hok.trans (congrArg some (hL44 _ he44))
            exact J92 y2_44 H locs ls hP hD hS (lv_sub hl [0, 1, 2] rfl) hok
          · have hok := k_neg c49 hok
            refine lv_iload_n hx hb dX9_find_52 rfl (lv_at hl 2 rfl) ?_
            refine lv_if_eq (tgt := 92) hx hb dX9_find_53 (by decide) (fun c53 => ?_) (fun c53 => ?_)
            · have hok := k_pos c53 hok
              obtain ⟨e44, hok, he44⟩ := ex_some hok
              have hok := hok.trans (congrArg some (hL44 _ he44))
              exact J92 y2_44 H locs ls hP hD hS (lv_sub hl [0, 1, 2] rfl) hok
            · have hok := k_neg c53 hok
              refine lv_aload_n hx hb dX9_find_56 rfl (lv_at hl 0 rfl) ?_
              refine va_get (D := D) (ci := 8) (v := .ref (qM 16)) (C := RX9) (T := TX9) (N := 29) hx hb ht0 niX9 hown hK hP 0 rfl rfl 16 (by decide) (ht0 _ wd778) (fun _ h9 => h9) rfl dX9_find_57 ?_
              refine lv_sipush (v := 136) hx hb dX9_find_60 (by decide) ?_
              refine lv_bipush (v := 8) hx hb dX9_find_63 (by decide) ?_
              refine lv_iload_n hx hb dX9_find_65 rfl (lv_at hl 1 rfl) ?_
              refine lv_imul hx hb dX9_find_66 ?_
              refine lv_iadd hx hb dX9_find_67 ?_
              refine lv_iload_n hx hb dX9_find_68 rfl (lv_at hl 3 rfl) ?_
              refine lv_iadd hx hb dX9_find_69 ?_
              obtain ⟨g70, hok⟩ := gd_some hok
              refine va_iald hx hb hK hP 1 0 rfl rfl (okI_in g70) dX9_find_70 ?_
              refine lv_aload_n hx hb dX9_find_71 rfl (lv_at hl 0 rfl) ?_
              refine va_get (D := D) (ci := 8) (v := .ref (qM 12)) (C := RX9) (T := TX9) (N := 29) hx hb ht0 niX9 hown hK hP 0 rfl rfl 12 (by decide) (ht0 _ wd755) (fun _ h9 => h9) rfl dX9_find_72 ?_
              refine lv_iload_n hx hb dX9_find_75 rfl (lv_at hl 3 rfl) ?_
              obtain ⟨g76, hok⟩ := gd_some hok
              refine va_iald hx hb hK hP 2 0 rfl rfl (okI_in g76) dX9_find_76 ?_
              refine lv_icmp_ne (tgt := 84) hx hb dX9_find_77 (by decide) (fun c77 => ?_) (fun c77 => ?_)
              · have hok := k_neg c77 hok
                refine lv_iconst (v := 0) hx hb dX9_find_84 (by decide) ?_
                exact J85 (0 : Int32) H locs ls hP hD hS (lv_sub hl [0, 1, 3] rfl) hok
              · have hok := k_pos c77 hok
                refine lv_iconst (v := 1) hx hb dX9_find_80 (by decide) ?_
                refine lv_goto (tgt := 85) hx hb dX9_find_81 (by decide) ?_
                exact J85 (1 : Int32) H locs ls hP hD hS (lv_sub hl [0, 1, 3] rfl) hok
      have J41 : ∀ (t0_41 : Int32), ∀ (H : Heap) (locs : List Loc) (ls : Array Slot), va_P D vwCl (wX9_find cy aM qM vM vM_fresh vM_letters) H → va_D A (wX9_find cy aM qM vM vM_fresh vM_letters) → va_S A s.heap H locs → lv_has ls 4 [(0, .ref aM), (1, .int y1_2)] → fX9_find_J41 vM vM_fresh vM_letters y1_2 t0_41 = some y2 → W p l e ({ frames := 0, cells := 0, slots := 0, locals := 0 } : Room) s m ([.ref aM] : List Value).toArray below meth c H locs 0 0 Q (F0 m 41 ls [.int t0_41]) := by
        intro t0_41 H locs ls hP hD hS hl hok
        unfold fX9_find_J41 at hok
        refine lv_istore_n (lv' := [(2, .int t0_41), (0, .ref aM), (1, .int y1_2)]) hx hb dX9_find_41 rfl hl (by decide) rfl (fun ls hl => ?_)
        refine lv_iconst (v := 0) hx hb dX9_find_42 (by decide) ?_
        refine lv_istore_n (lv' := [(3, .int 0), (2, .int t0_41), (0, .ref aM), (1, .int y1_2)]) hx hb dX9_find_43 rfl hl (by decide) rfl (fun ls hl => ?_)
        exact L44 5000 t0_41 (0 : Int32) H locs ls hP hD hS (lv_sub hl [2, 3, 1, 0] rfl) hok
      have J40 : ∀ (H : Heap) (locs : List Loc) (ls : Array Slot), va_P D vwCl (wX9_find cy aM qM vM vM_fresh vM_letters) H → va_D A (wX9_find cy aM qM vM vM_fresh vM_letters) → va_S A s.heap H locs → lv_has ls 4 [(0, .ref aM), (1, .int y1_2)] → fX9_find_J40 vM vM_fresh vM_letters y1_2 = some y2 → W p l e ({ frames := 0, cells := 0, slots := 0, locals := 0 } : Room) s m ([.ref aM] : List Value).toArray below meth c H locs 0 0 Q (F0 m 40 ls []) := by
        intro  H locs ls hP hD hS hl hok
        unfold fX9_find_J40 at hok
        refine lv_iconst (v := 0) hx hb dX9_find_40 (by decide) ?_
        exact J41 (0 : Int32) H locs ls hP hD hS (lv_sub hl [0, 1] rfl) hok
      unfold fX9_find_B2 at hok
      refine lv_iload_n hx hb dX9_find_2 rfl (lv_at hl 1 rfl) ?_
      refine lv_bipush (v := 11) hx hb dX9_find_3 (by decide) ?_
      refine lv_icmp_ge (tgt := 104) hx hb dX9_find_5 (by decide) (fun c5 => ?_) (fun c5 => ?_)
      · have hok := k_pos c5 hok
        obtain ⟨e2, hok, he2⟩ := ex_some hok
        have hok := hok.trans (congrArg some (hL2 _ he2))
        refine lv_iconst (v := -1) hx hb dX9_find_104 (by decide) ?_
        cases hok
        subst hQe; exact W.iret hx hb hr (fun t ht hW => ⟨⟨_, (), rfl, rfl, by rw [ht]; exact hP, va_K.moved hW.alike hK, hD⟩, hS.F ht⟩) hS.2.2 dX9_find_105
      · have hok := k_neg c5 hok
        refine lv_aload_n hx hb dX9_find_8 rfl (lv_at hl 0 rfl) ?_
        refine va_get (D := D) (ci := 8) (v := .ref (qM 16)) (C := RX9) (T := TX9) (N := 29) hx hb ht0 niX9 hown hK hP 0 rfl rfl 16 (by decide) (ht0 _ wd778) (fun _ h9 => h9) rfl dX9_find_9 ?_
        refine lv_bipush (v := 125) hx hb dX9_find_12 (by decide) ?_
        refine lv_iload_n hx hb dX9_find_14 rfl (lv_at hl 1 rfl) ?_
        refine lv_iadd hx hb dX9_find_15 ?_
        obtain ⟨g16, hok⟩ := gd_some hok
        refine va_iald hx hb hK hP 1 0 rfl rfl (okI_in g16) dX9_find_16 ?_
        refine lv_if_le (tgt := 40) hx hb dX9_find_17 (by decide) (fun c17 => ?_) (fun c17 => ?_)
        · have hok := k_pos c17 hok
          exact J40  H locs ls hP hD hS (lv_sub hl [0, 1] rfl) hok
        · have hok := k_neg c17 hok
          refine lv_aload_n hx hb dX9_find_20 rfl (lv_at hl 0 rfl) ?_
          refine va_get (D := D) (ci := 8) (v := .ref (qM 16)) (C := RX9) (T := TX9) (N := 29) hx hb ht0 niX9 hown hK hP 0 rfl rfl 16 (by decide) (ht0 _ wd778) (fun _ h9 => h9) rfl dX9_find_21 ?_
          refine lv_bipush (v := 125) hx hb dX9_find_24 (by decide) ?_
          refine lv_iload_n hx hb dX9_find_26 rfl (lv_at hl 1 rfl) ?_
          refine lv_iadd hx hb dX9_find_27 ?_
          obtain ⟨g28, hok⟩ := gd_some hok
          refine va_iald hx hb hK hP 1 0 rfl rfl (okI_in g28) dX9_find_28 ?_
          refine lv_aload_n hx hb dX9_find_29 rfl (lv_at hl 0 rfl) ?_
          refine va_get (D := D) (ci := 8) (v := .int (vM 8)) (C := RX9) (T := TX9) (N := 29) hx hb ht0 niX9 hown hK hP 0 rfl rfl 8 (by decide) (ht0 _ wd751) (fun _ h9 => h9) rfl dX9_find_30 ?_
          refine lv_icmp_ne (tgt := 40) hx hb dX9_find_33 (by decide) (fun c33 => ?_) (fun c33 => ?_)
          · have hok := k_neg c33 hok
            exact J40  H locs ls hP hD hS (lv_sub hl [0, 1] rfl) hok
          · have hok := k_pos c33 hok
            refine lv_iconst (v := 1) hx hb dX9_find_36 (by decide) ?_
            refine lv_goto (tgt := 41) hx hb dX9_find_37 (by decide) ?_
            exact J41 (1 : Int32) H locs ls hP hD hS (lv_sub hl [0, 1] rfl) hok
  unfold fX9_find at hok
  obtain ⟨H, hH⟩ : ∃ H, H = s.heap := ⟨_, rfl⟩
  obtain ⟨locs, hlc⟩ : ∃ x : List Loc, x = [] := ⟨_, rfl⟩
  have hP : va_P D vwCl (wX9_find cy aM qM vM vM_fresh vM_letters) H := by rw [hH]; exact hP
  have hS : va_S A s.heap H locs := by rw [hH, hlc]; exact hS
  rw [show W p l e _ s m _ below meth c s.heap [] = W p l e _ s m _ below meth c H locs from by rw [hH, hlc]]
  refine lv_iconst (v := 0) hx hb dX9_find_0 (by decide) ?_
  refine lv_istore_n (lv' := [(1, .int 0), (0, .ref aM)]) hx hb dX9_find_1 rfl hl (by decide) rfl (fun ls hl => ?_)
  exact L2 5000 (0 : Int32) H locs ls hP hD hS (lv_sub hl [1, 0] rfl) hok
def wsX9_newName : List Cond := .code yX9_newName cX9_newName 3 none :: W0
abbrev wX9_newName (cy : Nat → ClassId) (aM : Nat) (qM : Nat → Nat) (vM : Nat → Int32) (vM_letters : Nat → Int32) (vM_fresh : Nat → Int32) (vM_tape : Nat → Int32) : va_W := [(aM, oX9 vM qM), (qM 12, rI cy 8 vM_letters), (qM 16, rI cy 224 vM_fresh), (qM 1, rI cy 900 vM_tape)]
set_option maxHeartbeats 4000000 in
set_option maxRecDepth 100000 in
theorem kX9_newName (l : Launch) (D : va_G) (cy : Nat → ClassId) (ad : (Nat → Nat) × (Nat → Nat)) (sz : Nat) (aM : Nat) (qM : Nat → Nat) (vM : Nat → Int32) (vM_letters : Nat → Int32) (vM_fresh : Nat → Int32) (vM_tape : Nat → Int32) (x1 : Int32) (z_vM : Nat → Int32) (z_vM_letters : Nat → Int32) (z_vM_fresh : Nat → Int32) (hok : fX9_newName vM vM_letters vM_fresh vM_tape x1 = some (z_vM, z_vM_letters, z_vM_fresh)) (A : Nat → Prop) (hAe : va_A (wX9_newName cy aM qM vM vM_letters vM_fresh vM_tape) sz = A) : Met l yX9_newName wsX9_newName ({ frames := 6, cells := 0, slots := 0, locals := 128 } : Room) (kPreS D cy ad [.ref aM, .int x1] (wX9_newName cy aM qM vM vM_letters vM_fresh vM_tape) sz A) (kQv D cy A (wX9_newName cy aM qM z_vM z_vM_letters z_vM_fresh vM_tape)) 0 0 A := by
  refine Met.ofW (cc := cX9_newName) (maxL := 3) (ret := none) (by decide) rfl ?_
  intro p e s m args below meth c s₁ B hml hv
  obtain ⟨rfl, ⟨hsz, hP, hK, hD0, hN⟩, hSt⟩ := hv
  have hx := B.exec
  have hb := B.bytes
  have hr := B.returns
  have ht0 : ∀ w ∈ W0, w.before _ s = true := fun w h => atoms_spec (ws := wsX9_newName) B.pre w (List.mem_cons_of_mem _ h)
  have hown : s.vm.findClass RX9 = some m.cls := findClass_of_methodNamed B.named
  have hlocks := B.notSynchronized
  subst hsz
  have hD : va_D A (wX9_newName cy aM qM vM vM_letters vM_fresh vM_tape) := by rw [← hAe]; exact hD0.self
  have hA : ∀ q : Nat, s.heap.size ≤ q → A q := fun q h => by rw [← hAe]; exact Or.inr h
  have hS : va_S A s.heap s.heap [] := va_S.rf
  have hl := lv_entry ([.ref aM, .int x1]) (n := 3) (Nat.le_of_ble_eq_true rfl)
  rw [lg_entry_eq]
  generalize (lg_sl ([.ref aM, .int x1]) ++ List.replicate (3 - (lg_sl ([.ref aM, .int x1])).length) Slot.unset).toArray = ls at hl ⊢
  have hl : lv_has ls 3 [(0, .ref aM), (1, .int x1)] := hl
  generalize hQe : MQ below (kQv D cy A (wX9_newName cy aM qM z_vM z_vM_letters z_vM_fresh vM_tape)) ([.ref aM, .int x1] : List Value).toArray s 0 0 A = Q
  have L45 : ∀ (fuel : Nat) (y2_45 : Int32) (vM_fresh_45 : Nat → Int32) (vM_45 : Nat → Int32), ∀ (H : Heap) (locs : List Loc) (ls : Array Slot), va_P D vwCl (wX9_newName cy aM qM vM_45 vM_letters vM_fresh_45 vM_tape) H → va_D A (wX9_newName cy aM qM vM_45 vM_letters vM_fresh_45 vM_tape) → va_S A s.heap H locs → lv_has ls 3 [(0, .ref aM), (1, .int x1), (2, .int y2_45)] → lp (fX9_newName_B45 vM_letters vM_tape x1) fuel (y2_45, vM_fresh_45, vM_45) = some (z_vM, z_vM_letters, z_vM_fresh) → W p l e ({ frames := 6, cells := 0, slots := 0, locals := 128 } : Room) s m ([.ref aM, .int x1] : List Value).toArray below meth c H locs 0 0 Q (F0 m 45 ls []) := by
    intro fuel
    induction fuel with
    | zero => intro y2_45 vM_fresh_45 vM_45 H locs ls hP hD hS hl hok; exact (lp_0 hok).elim
    | succ fuel ih45 =>
      intro y2_45 vM_fresh_45 vM_45 H locs ls hP hD hS hl hok
      obtain ⟨y45, hok, hL45, hR45⟩ := lp_step hok
      unfold fX9_newName_B45 at hok
      try dsimp only at hok
      refine lv_iload_n hx hb dX9_newName_45 rfl (lv_at hl 2 rfl) ?_
      refine lv_aload_n hx hb dX9_newName_46 rfl (lv_at hl 0 rfl) ?_
      refine va_get (D := D) (ci := 8) (v := .int (vM_45 8)) (C := RX9) (T := TX9) (N := 29) hx hb ht0 niX9 hown hK hP 0 rfl rfl 8 (by decide) (ht0 _ wd751) (fun _ h9 => h9) rfl dX9_newName_47 ?_
      refine lv_icmp_ge (tgt := 80) hx hb dX9_newName_50 (by decide) (fun c50 => ?_) (fun c50 => ?_)
      · have hok := k_pos c50 hok
        obtain ⟨e45, hok, he45⟩ := ex_some hok
        have hok := hok.trans (congrArg some (hL45 _ he45))
        refine lv_aload_n hx hb dX9_newName_80 rfl (lv_at hl 0 rfl) ?_
        refine va_get (D := D) (ci := 8) (v := .ref (qM 16)) (C := RX9) (T := TX9) (N := 29) hx hb ht0 niX9 hown hK hP 0 rfl rfl 16 (by decide) (ht0 _ wd778) (fun _ h9 => h9) rfl dX9_newName_81 ?_
        refine lv_bipush (v := 125) hx hb dX9_newName_84 (by decide) ?_
        refine lv_iload_n hx hb dX9_newName_86 rfl (lv_at hl 1 rfl) ?_
        refine lv_iadd hx hb dX9_newName_87 ?_
        refine lv_aload_n hx hb dX9_newName_88 rfl (lv_at hl 0 rfl) ?_
        refine va_get (D := D) (ci := 8) (v := .int (vM_45 8)) (C := RX9) (T := TX9) (N := 29) hx hb ht0 niX9 hown hK hP 0 rfl rfl 8 (by decide) (ht0 _ wd751) (fun _ h9 => h9) rfl dX9_newName_89 ?_
        obtain ⟨g92, hok⟩ := gd_some hok
        refine va_iast hx hb hK hP hD hS 2 0 rfl rfl (okI_in g92) dX9_newName_92 (fun H locs hP hD hS => ?_)
        have hP : va_P D vwCl (wX9_newName cy aM qM vM_45 vM_letters (upd vM_fresh_45 ((125 : Int32) + x1).toNatClampNeg (vM_45 8)) vM_tape) H := hP
        have hD : va_D A (wX9_newName cy aM qM vM_45 vM_letters (upd vM_fresh_45 ((125 : Int32) + x1).toNatClampNeg (vM_45 8)) vM_tape) := hD
        refine lv_aload_n hx hb dX9_newName_93 rfl (lv_at hl 0 rfl) ?_
        obtain ⟨⟨vM_94, vM_letters_94⟩, hc94, hok⟩ := k_bind hok
        try dsimp only at hok
        refine kCv (wc := (wX9_next cy aM qM vM_45 vM_tape vM_letters)) (wc2 := (wX9_next cy aM qM vM_94 vM_tape vM_letters_94)) (wr := [(qM 16, rI cy 224 (upd vM_fresh_45 ((125 : Int32) + x1).toNatClampNeg (vM_45 8)))]) (ws2 := (wX9_newName cy aM qM vM_94 vM_letters_94 (upd vM_fresh_45 ((125 : Int32) + x1).toNatClampNeg (vM_45 8)) vM_tape)) (kRunV (As := []) (rest := []) ⟨hx, hb, hml, hown, ht0⟩ (kX9_next l D cy _ aM qM vM_45 vM_tape vM_letters vM_94 vM_letters_94 hc94 _ rfl) (cwV 0 ht0 (gV wd766 wd767 wd768 wd744 wd769) rfl rfl rfl (by decide +kernel) ⟨Nat.le_of_ble_eq_true rfl, Nat.le_of_ble_eq_true rfl⟩) hK hN hP hD [0, 3, 1] rfl (by decide) 0 8 rfl rfl rfl hl.1 rfl (Nat.le_of_ble_eq_true rfl) dX9_newName_94 ⟨Nat.zero_le _, Nat.zero_le _⟩) hP hD hS hA [0, 3, 1] [2] rfl rfl (by decide) (by decide) [1, 3, 0, 2] (by decide) rfl rfl (fun H locs hP hD hS => ?_)
        cases hok
        subst hQe; exact W.vret hx hb hr (fun t ht hW => ⟨⟨(), rfl, trivial, by rw [ht]; exact hP, va_K.moved hW.alike hK, hD⟩, hS.F ht⟩) hS.2.2 dX9_newName_97
      · have hok := k_neg c50 hok
        refine lv_aload_n hx hb dX9_newName_53 rfl (lv_at hl 0 rfl) ?_
        refine va_get (D := D) (ci := 8) (v := .ref (qM 16)) (C := RX9) (T := TX9) (N := 29) hx hb ht0 niX9 hown hK hP 0 rfl rfl 16 (by decide) (ht0 _ wd778) (fun _ h9 => h9) rfl dX9_newName_54 ?_
        refine lv_sipush (v := 136) hx hb dX9_newName_57 (by decide) ?_
        refine lv_bipush (v := 8) hx hb dX9_newName_60 (by decide) ?_
        refine lv_iload_n hx hb dX9_newName_62 rfl (lv_at hl 1 rfl) ?_
        refine lv_imul hx hb dX9_newName_63 ?_
        refine lv_iadd hx hb dX9_newName_64 ?_
        refine lv_iload_n hx hb dX9_newName_65 rfl (lv_at hl 2 rfl) ?_
        refine lv_iadd hx hb dX9_newName_66 ?_
        refine lv_aload_n hx hb dX9_newName_67 rfl (lv_at hl 0 rfl) ?_
        refine va_get (D := D) (ci := 8) (v := .ref (qM 12)) (C := RX9) (T := TX9) (N := 29) hx hb ht0 niX9 hown hK hP 0 rfl rfl 12 (by decide) (ht0 _ wd755) (fun _ h9 => h9) rfl dX9_newName_68 ?_
        refine lv_iload_n hx hb dX9_newName_71 rfl (lv_at hl 2 rfl) ?_
        obtain ⟨g72, hok⟩ := gd_some hok
        refine va_iald hx hb hK hP 1 0 rfl rfl (okI_in g72) dX9_newName_72 ?_
        obtain ⟨g73, hok⟩ := gd_some hok
        refine va_iast hx hb hK hP hD hS 2 0 rfl rfl (okI_in g73) dX9_newName_73 (fun H locs hP hD hS => ?_)
        have hP : va_P D vwCl (wX9_newName cy aM qM vM_45 vM_letters (upd vM_fresh_45 (((136 : Int32) + ((8 : Int32) * x1)) + y2_45).toNatClampNeg (vM_letters y2_45.toNatClampNeg)) vM_tape) H := hP
        have hD : va_D A (wX9_newName cy aM qM vM_45 vM_letters (upd vM_fresh_45 (((136 : Int32) + ((8 : Int32) * x1)) + y2_45).toNatClampNeg (vM_letters y2_45.toNatClampNeg)) vM_tape) := hD
        refine lv_iinc (v := (y2_45 + 1)) (lv' := [(2, .int (y2_45 + 1)), (0, .ref aM), (1, .int x1)]) hx hb dX9_newName_74 hl (k := 2) rfl (by first | rfl | decide) (by decide) rfl (fun ls hl => ?_)
        refine lv_goto (tgt := 45) hx hb dX9_newName_77 (by decide) ?_
        exact ih45 (y2_45 + 1) (upd vM_fresh_45 (((136 : Int32) + ((8 : Int32) * x1)) + y2_45).toNatClampNeg (vM_letters y2_45.toNatClampNeg)) vM_45 H locs ls hP hD hS (lv_sub hl [1, 2, 0] rfl) (hR45 _ (Option.some.inj hok).symm)
  have J35 : ∀ (vM_35 : Nat → Int32), ∀ (H : Heap) (locs : List Loc) (ls : Array Slot), va_P D vwCl (wX9_newName cy aM qM vM_35 vM_letters vM_fresh vM_tape) H → va_D A (wX9_newName cy aM qM vM_35 vM_letters vM_fresh vM_tape) → va_S A s.heap H locs → lv_has ls 3 [(0, .ref aM), (1, .int x1)] → fX9_newName_J35 vM_letters vM_fresh vM_tape x1 vM_35 = some (z_vM, z_vM_letters, z_vM_fresh) → W p l e ({ frames := 6, cells := 0, slots := 0, locals := 128 } : Room) s m ([.ref aM, .int x1] : List Value).toArray below meth c H locs 0 0 Q (F0 m 35 ls []) := by
    intro vM_35 H locs ls hP hD hS hl hok
    unfold fX9_newName_J35 at hok
    refine lv_aload_n hx hb dX9_newName_35 rfl (lv_at hl 0 rfl) ?_
    refine va_get (D := D) (ci := 8) (v := .int (vM_35 13)) (C := RX9) (T := TX9) (N := 29) hx hb ht0 niX9 hown hK hP 0 rfl rfl 13 (by decide) (ht0 _ wd757) (fun _ h9 => h9) rfl dX9_newName_36 ?_
    refine lv_if_eq (tgt := 43) hx hb dX9_newName_39 (by decide) (fun c39 => ?_) (fun c39 => ?_)
    · have hok := k_pos c39 hok
      refine lv_iconst (v := 0) hx hb dX9_newName_43 (by decide) ?_
      refine lv_istore_n (lv' := [(2, .int 0), (0, .ref aM), (1, .int x1)]) hx hb dX9_newName_44 rfl hl (by decide) rfl (fun ls hl => ?_)
      exact L45 5000 (0 : Int32) vM_fresh vM_35 H locs ls hP hD hS (lv_sub hl [1, 2, 0] rfl) hok
    · have hok := k_neg c39 hok
      cases hok
      subst hQe; exact W.vret hx hb hr (fun t ht hW => ⟨⟨(), rfl, trivial, by rw [ht]; exact hP, va_K.moved hW.alike hK, hD⟩, hS.F ht⟩) hS.2.2 dX9_newName_42
  unfold fX9_newName at hok
  obtain ⟨H, hH⟩ : ∃ H, H = s.heap := ⟨_, rfl⟩
  obtain ⟨locs, hlc⟩ : ∃ x : List Loc, x = [] := ⟨_, rfl⟩
  have hP : va_P D vwCl (wX9_newName cy aM qM vM vM_letters vM_fresh vM_tape) H := by rw [hH]; exact hP
  have hS : va_S A s.heap H locs := by rw [hH, hlc]; exact hS
  rw [show W p l e _ s m _ below meth c s.heap [] = W p l e _ s m _ below meth c H locs from by rw [hH, hlc]]
  refine lv_aload_n hx hb dX9_newName_0 rfl (lv_at hl 0 rfl) ?_
  refine va_get (D := D) (ci := 8) (v := .int (vM 13)) (C := RX9) (T := TX9) (N := 29) hx hb ht0 niX9 hown hK hP 0 rfl rfl 13 (by decide) (ht0 _ wd757) (fun _ h9 => h9) rfl dX9_newName_1 ?_
  refine lv_if_eq (tgt := 8) hx hb dX9_newName_4 (by decide) (fun c4 => ?_) (fun c4 => ?_)
  · have hok := k_pos c4 hok
    refine lv_aload_n hx hb dX9_newName_8 rfl (lv_at hl 0 rfl) ?_
    obtain ⟨vM_9, hc9, hok⟩ := k_bind hok
    refine kCv (wc := (wX9_mustName cy aM qM vM vM_letters)) (wc2 := (wX9_mustName cy aM qM vM_9 vM_letters)) (wr := [(qM 16, rI cy 224 vM_fresh), (qM 1, rI cy 900 vM_tape)]) (ws2 := (wX9_newName cy aM qM vM_9 vM_letters vM_fresh vM_tape)) (kRunVS (As := []) (rest := []) ⟨hx, hb, hml, hown, ht0⟩ (kX9_mustName l D cy ad _ aM qM vM vM_letters vM_9 hc9 _ rfl) (cwV 0 ht0 (gV wd779 wd780 wd781 wd744 wd782) rfl rfl rfl (by decide +kernel) ⟨Nat.le_of_ble_eq_true rfl, Nat.le_of_ble_eq_true rfl⟩) hK hN hP hD hSt hS hA [0, 1] rfl (by decide) 0 8 rfl rfl rfl hl.1 rfl (Nat.le_of_ble_eq_true rfl) dX9_newName_9 ⟨Nat.zero_le _, Nat.zero_le _⟩) hP hD hS hA [0, 1] [2, 3] rfl rfl (by decide) (by decide) [2, 3, 0, 1] (by decide) rfl rfl (fun H locs hP hD hS => ?_)
    refine lv_aload_n hx hb dX9_newName_12 rfl (lv_at hl 0 rfl) ?_
    refine va_get (D := D) (ci := 8) (v := .int (vM_9 13)) (C := RX9) (T := TX9) (N := 29) hx hb ht0 niX9 hown hK hP 0 rfl rfl 13 (by decide) (ht0 _ wd757) (fun _ h9 => h9) rfl dX9_newName_13 ?_
    refine lv_if_ne (tgt := 35) hx hb dX9_newName_16 (by decide) (fun c16 => ?_) (fun c16 => ?_)
    · have hok := k_neg c16 hok
      exact J35 vM_9 H locs ls hP hD hS (lv_sub hl [0, 1] rfl) hok
    · have hok := k_pos c16 hok
      refine lv_aload_n hx hb dX9_newName_19 rfl (lv_at hl 0 rfl) ?_
      obtain ⟨r20, hc20, hok⟩ := k_bind hok
      refine kCi (wc := (wX9_find cy aM qM vM_9 vM_fresh vM_letters)) (wc2 := (wX9_find cy aM qM vM_9 vM_fresh vM_letters)) (wr := [(qM 1, rI cy 900 vM_tape)]) (ws2 := (wX9_newName cy aM qM vM_9 vM_letters vM_fresh vM_tape)) (kRunV (As := []) (rest := []) ⟨hx, hb, hml, hown, ht0⟩ (kX9_find l D cy _ aM qM vM_9 vM_fresh vM_letters r20 hc20 _ rfl) (cwV 0 ht0 (gV wd783 wd784 wd785 wd744 wd786) rfl rfl rfl (by decide +kernel) ⟨Nat.le_of_ble_eq_true rfl, Nat.le_of_ble_eq_true rfl⟩) hK hN hP hD [0, 2, 1] rfl (by decide) 0 8 rfl rfl rfl hl.1 rfl (Nat.le_of_ble_eq_true rfl) dX9_newName_20 ⟨Nat.zero_le _, Nat.zero_le _⟩) hP hD hS hA [0, 2, 1] [3] rfl rfl (by decide) (by decide) [1, 3, 2, 0] (by decide) rfl rfl (fun H locs hP hD hS => ?_)
      refine lv_if_lt (tgt := 35) hx hb dX9_newName_23 (by decide) (fun c23 => ?_) (fun c23 => ?_)
      · have hok := k_pos c23 hok
        exact J35 vM_9 H locs ls hP hD hS (lv_sub hl [0, 1] rfl) hok
      · have hok := k_neg c23 hok
        refine lv_aload_n hx hb dX9_newName_26 rfl (lv_at hl 0 rfl) ?_
        refine lv_iconst (v := 3) hx hb dX9_newName_27 (by decide) ?_
        refine lv_aload_n hx hb dX9_newName_28 rfl (lv_at hl 0 rfl) ?_
        refine va_get (D := D) (ci := 8) (v := .int (vM_9 4)) (C := RX9) (T := TX9) (N := 29) hx hb ht0 niX9 hown hK hP 0 rfl rfl 4 (by decide) (ht0 _ wd756) (fun _ h9 => h9) rfl dX9_newName_29 ?_
        obtain ⟨vM_32, hc32, hok⟩ := k_bind hok
        refine kCv (wc := (wX9_wrong cy aM qM vM_9)) (wc2 := (wX9_wrong cy aM qM vM_32)) (wr := [(qM 12, rI cy 8 vM_letters), (qM 16, rI cy 224 vM_fresh), (qM 1, rI cy 900 vM_tape)]) (ws2 := (wX9_newName cy aM qM vM_32 vM_letters vM_fresh vM_tape)) (kRunV (As := [.int 3, .int (vM_9 4)]) (rest := []) ⟨hx, hb, hml, hown, ht0⟩ (kX9_wrong l D cy _ aM qM vM_9 (3 : Int32) (vM_9 4) vM_32 hc32 _ rfl) (cwV 2 ht0 (gV wd774 wd775 wd776 wd744 wd777) rfl rfl rfl (by decide +kernel) ⟨Nat.le_of_ble_eq_true rfl, Nat.le_of_ble_eq_true rfl⟩) hK hN hP hD [0] rfl (by decide) 0 8 rfl rfl rfl hl.1 rfl (Nat.le_of_ble_eq_true rfl) dX9_newName_32 ⟨Nat.zero_le _, Nat.zero_le _⟩) hP hD hS hA [0] [1, 2, 3] rfl rfl (by decide) (by decide) [3, 0, 1, 2] (by decide) rfl rfl (fun H locs hP hD hS => ?_)
        exact J35 vM_32 H locs ls hP hD hS (lv_sub hl [0, 1] rfl) hok
  · have hok := k_neg c4 hok
    cases hok
    subst hQe; exact W.vret hx hb hr (fun t ht hW => ⟨⟨(), rfl, trivial, by rw [ht]; exact hP, va_K.moved hW.alike hK, hD⟩, hS.F ht⟩) hS.2.2 dX9_newName_7
def wsX9_named : List Cond := .code yX9_named cX9_named 4 (some .int) :: W0
abbrev wX9_named (cy : Nat → ClassId) (aM : Nat) (qM : Nat → Nat) (vM : Nat → Int32) (vM_letters : Nat → Int32) (vM_fresh : Nat → Int32) (vM_tape : Nat → Int32) : va_W := [(aM, oX9 vM qM), (qM 12, rI cy 8 vM_letters), (qM 16, rI cy 224 vM_fresh), (qM 1, rI cy 900 vM_tape)]
set_option maxHeartbeats 4000000 in
set_option maxRecDepth 100000 in
theorem kX9_named (l : Launch) (D : va_G) (cy : Nat → ClassId) (ad : (Nat → Nat) × (Nat → Nat)) (sz : Nat) (aM : Nat) (qM : Nat → Nat) (vM : Nat → Int32) (vM_letters : Nat → Int32) (vM_fresh : Nat → Int32) (vM_tape : Nat → Int32) (x1 : Int32) (x2 : Int32) (zr : Int32) (z_vM : Nat → Int32) (z_vM_letters : Nat → Int32) (hok : fX9_named vM vM_letters vM_fresh vM_tape x1 x2 = some (zr, z_vM, z_vM_letters)) (A : Nat → Prop) (hAe : va_A (wX9_named cy aM qM vM vM_letters vM_fresh vM_tape) sz = A) : Met l yX9_named wsX9_named ({ frames := 6, cells := 0, slots := 0, locals := 128 } : Room) (kPreS D cy ad [.ref aM, .int x1, .int x2] (wX9_named cy aM qM vM vM_letters vM_fresh vM_tape) sz A) (kQi D cy zr A (wX9_named cy aM qM z_vM z_vM_letters vM_fresh vM_tape)) 0 0 A := by
  refine Met.ofW (cc := cX9_named) (maxL := 4) (ret := (some .int)) (by decide) rfl ?_
  intro p e s m args below meth c s₁ B hml hv
  obtain ⟨rfl, ⟨hsz, hP, hK, hD0, hN⟩, hSt⟩ := hv
  have hx := B.exec
  have hb := B.bytes
  have hr := B.returns
  have ht0 : ∀ w ∈ W0, w.before _ s = true := fun w h => atoms_spec (ws := wsX9_named) B.pre w (List.mem_cons_of_mem _ h)
  have hown : s.vm.findClass RX9 = some m.cls := findClass_of_methodNamed B.named
  have hlocks := B.notSynchronized
  subst hsz
  have hD : va_D A (wX9_named cy aM qM vM vM_letters vM_fresh vM_tape) := by rw [← hAe]; exact hD0.self
  have hA : ∀ q : Nat, s.heap.size ≤ q → A q := fun q h => by rw [← hAe]; exact Or.inr h
  have hS : va_S A s.heap s.heap [] := va_S.rf
  have hl := lv_entry ([.ref aM, .int x1, .int x2]) (n := 4) (Nat.le_of_ble_eq_true rfl)
  rw [lg_entry_eq]
  generalize (lg_sl ([.ref aM, .int x1, .int x2]) ++ List.replicate (4 - (lg_sl ([.ref aM, .int x1, .int x2])).length) Slot.unset).toArray = ls at hl ⊢
  have hl : lv_has ls 4 [(0, .ref aM), (1, .int x1), (2, .int x2)] := hl
  generalize hQe : MQ below (kQi D cy zr A (wX9_named cy aM qM z_vM z_vM_letters vM_fresh vM_tape)) ([.ref aM, .int x1, .int x2] : List Value).toArray s 0 0 A = Q
  have J45 : ∀ (y3_45 : Int32) (vM_45 : Nat → Int32), ∀ (H : Heap) (locs : List Loc) (ls : Array Slot), va_P D vwCl (wX9_named cy aM qM vM_45 vM_letters vM_fresh vM_tape) H → va_D A (wX9_named cy aM qM vM_45 vM_letters vM_fresh vM_tape) → va_S A s.heap H locs → lv_has ls 4 [(0, .ref aM), (1, .int x1), (3, .int y3_45)] → fX9_named_J45 vM_letters vM_tape x1 y3_45 vM_45 = some (zr, z_vM, z_vM_letters) → W p l e ({ frames := 6, cells := 0, slots := 0, locals := 128 } : Room) s m ([.ref aM, .int x1, .int x2] : List Value).toArray below meth c H locs 0 0 Q (F0 m 45 ls []) := by
    intro y3_45 vM_45 H locs ls hP hD hS hl hok
    unfold fX9_named_J45 at hok
    refine lv_aload_n hx hb dX9_named_45 rfl (lv_at hl 0 rfl) ?_
    refine va_get (D := D) (ci := 8) (v := .int (vM_45 13)) (C := RX9) (T := TX9) (N := 29) hx hb ht0 niX9 hown hK hP 0 rfl rfl 13 (by decide) (ht0 _ wd757) (fun _ h9 => h9) rfl dX9_named_46 ?_
    refine lv_if_eq (tgt := 54) hx hb dX9_named_49 (by decide) (fun c49 => ?_) (fun c49 => ?_)
    · have hok := k_pos c49 hok
      refine lv_aload_n hx hb dX9_named_54 rfl (lv_at hl 0 rfl) ?_
      obtain ⟨⟨vM_55, vM_letters_55⟩, hc55, hok⟩ := k_bind hok
      try dsimp only at hok
      refine kCv (wc := (wX9_next cy aM qM vM_45 vM_tape vM_letters)) (wc2 := (wX9_next cy aM qM vM_55 vM_tape vM_letters_55)) (wr := [(qM 16, rI cy 224 vM_fresh)]) (ws2 := (wX9_named cy aM qM vM_55 vM_letters_55 vM_fresh vM_tape)) (kRunV (As := []) (rest := []) ⟨hx, hb, hml, hown, ht0⟩ (kX9_next l D cy _ aM qM vM_45 vM_tape vM_letters vM_55 vM_letters_55 hc55 _ rfl) (cwV 0 ht0 (gV wd766 wd767 wd768 wd744 wd769) rfl rfl rfl (by decide +kernel) ⟨Nat.le_of_ble_eq_true rfl, Nat.le_of_ble_eq_true rfl⟩) hK hN hP hD [0, 3, 1] rfl (by decide) 0 8 rfl rfl rfl hl.1 rfl (Nat.le_of_ble_eq_true rfl) dX9_named_55 ⟨Nat.zero_le _, Nat.zero_le _⟩) hP hD hS hA [0, 3, 1] [2] rfl rfl (by decide) (by decide) [1, 3, 0, 2] (by decide) rfl rfl (fun H locs hP hD hS => ?_)
      refine lv_iload_n hx hb dX9_named_58 rfl (lv_at hl 2 rfl) ?_
      refine lv_iload_n hx hb dX9_named_59 rfl (lv_at hl 1 rfl) ?_
      refine lv_isub hx hb dX9_named_60 ?_
      cases hok
      subst hQe; exact W.iret hx hb hr (fun t ht hW => ⟨⟨_, (), rfl, rfl, by rw [ht]; exact hP, va_K.moved hW.alike hK, hD⟩, hS.F ht⟩) hS.2.2 dX9_named_61
    · have hok := k_neg c49 hok
      refine lv_iconst (v := 0) hx hb dX9_named_52 (by decide) ?_
      cases hok
      subst hQe; exact W.iret hx hb hr (fun t ht hW => ⟨⟨_, (), rfl, rfl, by rw [ht]; exact hP, va_K.moved hW.alike hK, hD⟩, hS.F ht⟩) hS.2.2 dX9_named_53
  unfold fX9_named at hok
  obtain ⟨H, hH⟩ : ∃ H, H = s.heap := ⟨_, rfl⟩
  obtain ⟨locs, hlc⟩ : ∃ x : List Loc, x = [] := ⟨_, rfl⟩
  have hP : va_P D vwCl (wX9_named cy aM qM vM vM_letters vM_fresh vM_tape) H := by rw [hH]; exact hP
  have hS : va_S A s.heap H locs := by rw [hH, hlc]; exact hS
  rw [show W p l e _ s m _ below meth c s.heap [] = W p l e _ s m _ below meth c H locs from by rw [hH, hlc]]
  refine lv_aload_n hx hb dX9_named_0 rfl (lv_at hl 0 rfl) ?_
  refine va_get (D := D) (ci := 8) (v := .int (vM 13)) (C := RX9) (T := TX9) (N := 29) hx hb ht0 niX9 hown hK hP 0 rfl rfl 13 (by decide) (ht0 _ wd757) (fun _ h9 => h9) rfl dX9_named_1 ?_
  refine lv_if_eq (tgt := 9) hx hb dX9_named_4 (by decide) (fun c4 => ?_) (fun c4 => ?_)
  · have hok := k_pos c4 hok
    refine lv_aload_n hx hb dX9_named_9 rfl (lv_at hl 0 rfl) ?_
    obtain ⟨vM_10, hc10, hok⟩ := k_bind hok
    refine kCv (wc := (wX9_mustName cy aM qM vM vM_letters)) (wc2 := (wX9_mustName cy aM qM vM_10 vM_letters)) (wr := [(qM 16, rI cy 224 vM_fresh), (qM 1, rI cy 900 vM_tape)]) (ws2 := (wX9_named cy aM qM vM_10 vM_letters vM_fresh vM_tape)) (kRunVS (As := []) (rest := []) ⟨hx, hb, hml, hown, ht0⟩ (kX9_mustName l D cy ad _ aM qM vM vM_letters vM_10 hc10 _ rfl) (cwV 0 ht0 (gV wd779 wd780 wd781 wd744 wd782) rfl rfl rfl (by decide +kernel) ⟨Nat.le_of_ble_eq_true rfl, Nat.le_of_ble_eq_true rfl⟩) hK hN hP hD hSt hS hA [0, 1] rfl (by decide) 0 8 rfl rfl rfl hl.1 rfl (Nat.le_of_ble_eq_true rfl) dX9_named_10 ⟨Nat.zero_le _, Nat.zero_le _⟩) hP hD hS hA [0, 1] [2, 3] rfl rfl (by decide) (by decide) [2, 3, 0, 1] (by decide) rfl rfl (fun H locs hP hD hS => ?_)
    refine lv_aload_n hx hb dX9_named_13 rfl (lv_at hl 0 rfl) ?_
    refine va_get (D := D) (ci := 8) (v := .int (vM_10 13)) (C := RX9) (T := TX9) (N := 29) hx hb ht0 niX9 hown hK hP 0 rfl rfl 13 (by decide) (ht0 _ wd757) (fun _ h9 => h9) rfl dX9_named_14 ?_
    refine lv_if_eq (tgt := 22) hx hb dX9_named_17 (by decide) (fun c17 => ?_) (fun c17 => ?_)
    · have hok := k_pos c17 hok
      refine lv_aload_n hx hb dX9_named_22 rfl (lv_at hl 0 rfl) ?_
      obtain ⟨r23, hc23, hok⟩ := k_bind hok
      refine kCi (wc := (wX9_find cy aM qM vM_10 vM_fresh vM_letters)) (wc2 := (wX9_find cy aM qM vM_10 vM_fresh vM_letters)) (wr := [(qM 1, rI cy 900 vM_tape)]) (ws2 := (wX9_named cy aM qM vM_10 vM_letters vM_fresh vM_tape)) (kRunV (As := []) (rest := []) ⟨hx, hb, hml, hown, ht0⟩ (kX9_find l D cy _ aM qM vM_10 vM_fresh vM_letters r23 hc23 _ rfl) (cwV 0 ht0 (gV wd783 wd784 wd785 wd744 wd786) rfl rfl rfl (by decide +kernel) ⟨Nat.le_of_ble_eq_true rfl, Nat.le_of_ble_eq_true rfl⟩) hK hN hP hD [0, 2, 1] rfl (by decide) 0 8 rfl rfl rfl hl.1 rfl (Nat.le_of_ble_eq_true rfl) dX9_named_23 ⟨Nat.zero_le _, Nat.zero_le _⟩) hP hD hS hA [0, 2, 1] [3] rfl rfl (by decide) (by decide) [1, 3, 2, 0] (by decide) rfl rfl (fun H locs hP hD hS => ?_)
      refine lv_istore_n (lv' := [(3, .int r23), (0, .ref aM), (1, .int x1), (2, .int x2)]) hx hb dX9_named_26 rfl hl (by decide) rfl (fun ls hl => ?_)
      refine lv_iload_n hx hb dX9_named_27 rfl (lv_at hl 0 rfl) ?_
      refine lv_iload_n hx hb dX9_named_28 rfl (lv_at hl 2 rfl) ?_
      refine lv_iload_n hx hb dX9_named_29 rfl (lv_at hl 3 rfl) ?_
      obtain ⟨r30, hc30, hok⟩ := k_bind hok
      refine kCi (wc := (wX9_in cy )) (wc2 := (wX9_in cy )) (wr := [(aM, oX9 vM_10 qM), (qM 12, rI cy 8 vM_letters), (qM 16, rI cy 224 vM_fresh), (qM 1, rI cy 900 vM_tape)]) (ws2 := (wX9_named cy aM qM vM_10 vM_letters vM_fresh vM_tape)) (kRunS (As := [.int r23, .int x1, .int x2]) (rest := []) ⟨hx, hb, hml, hown, ht0⟩ (kX9_in l D cy _ r23 x1 x2 r30 hc30 _ rfl) (va_cwS 3 ht0 (gS wd787 wd788 wd744 wd789) rfl rfl rfl (by decide +kernel) ⟨Nat.le_of_ble_eq_true rfl, Nat.le_of_ble_eq_true rfl⟩) hK hN hP hD [] rfl (by decide) rfl hl.1 rfl (Nat.le_of_ble_eq_true rfl) dX9_named_30 ⟨Nat.zero_le _, Nat.zero_le _⟩) hP hD hS hA [] [0, 1, 2, 3] rfl rfl (by decide) (by decide) [0, 1, 2, 3] (by decide) rfl rfl (fun H locs hP hD hS => ?_)
      refine lv_if_ne (tgt := 45) hx hb dX9_named_33 (by decide) (fun c33 => ?_) (fun c33 => ?_)
      · have hok := k_neg c33 hok
        exact J45 r23 vM_10 H locs ls hP hD hS (lv_sub hl [1, 2, 0] rfl) hok
      · have hok := k_pos c33 hok
        refine lv_aload_n hx hb dX9_named_36 rfl (lv_at hl 1 rfl) ?_
        refine lv_iconst (v := 2) hx hb dX9_named_37 (by decide) ?_
        refine lv_aload_n hx hb dX9_named_38 rfl (lv_at hl 1 rfl) ?_
        refine va_get (D := D) (ci := 8) (v := .int (vM_10 4)) (C := RX9) (T := TX9) (N := 29) hx hb ht0 niX9 hown hK hP 0 rfl rfl 4 (by decide) (ht0 _ wd756) (fun _ h9 => h9) rfl dX9_named_39 ?_
        obtain ⟨vM_42, hc42, hok⟩ := k_bind hok
        refine kCv (wc := (wX9_wrong cy aM qM vM_10)) (wc2 := (wX9_wrong cy aM qM vM_42)) (wr := [(qM 12, rI cy 8 vM_letters), (qM 16, rI cy 224 vM_fresh), (qM 1, rI cy 900 vM_tape)]) (ws2 := (wX9_named cy aM qM vM_42 vM_letters vM_fresh vM_tape)) (kRunV (As := [.int 2, .int (vM_10 4)]) (rest := []) ⟨hx, hb, hml, hown, ht0⟩ (kX9_wrong l D cy _ aM qM vM_10 (2 : Int32) (vM_10 4) vM_42 hc42 _ rfl) (cwV 2 ht0 (gV wd774 wd775 wd776 wd744 wd777) rfl rfl rfl (by decide +kernel) ⟨Nat.le_of_ble_eq_true rfl, Nat.le_of_ble_eq_true rfl⟩) hK hN hP hD [0] rfl (by decide) 0 8 rfl rfl rfl hl.1 rfl (Nat.le_of_ble_eq_true rfl) dX9_named_42 ⟨Nat.zero_le _, Nat.zero_le _⟩) hP hD hS hA [0] [1, 2, 3] rfl rfl (by decide) (by decide) [3, 0, 1, 2] (by decide) rfl rfl (fun H locs hP hD hS => ?_)
        exact J45 r23 vM_42 H locs ls hP hD hS (lv_sub hl [1, 2, 0] rfl) hok
    · have hok := k_neg c17 hok
      refine lv_iconst (v := 0) hx hb dX9_named_20 (by decide) ?_
      cases hok
      subst hQe; exact W.iret hx hb hr (fun t ht hW => ⟨⟨_, (), rfl, rfl, by rw [ht]; exact hP, va_K.moved hW.alike hK, hD⟩, hS.F ht⟩) hS.2.2 dX9_named_21
  · have hok := k_neg c4 hok
    refine lv_iconst (v := 0) hx hb dX9_named_7 (by decide) ?_
    cases hok
    subst hQe; exact W.iret hx hb hr (fun t ht hW => ⟨⟨_, (), rfl, rfl, by rw [ht]; exact hP, va_K.moved hW.alike hK, hD⟩, hS.F ht⟩) hS.2.2 dX9_named_8
def wsX9_ringName : List Cond := .code yX9_ringName cX9_ringName 1 (some .int) :: W0
abbrev wX9_ringName (cy : Nat → ClassId) (aM : Nat) (qM : Nat → Nat) (vM : Nat → Int32) (vM_letters : Nat → Int32) (vM_fresh : Nat → Int32) (vM_tape : Nat → Int32) : va_W := [(aM, oX9 vM qM), (qM 12, rI cy 8 vM_letters), (qM 16, rI cy 224 vM_fresh), (qM 1, rI cy 900 vM_tape)]
set_option maxHeartbeats 4000000 in
set_option maxRecDepth 100000 in
theorem kX9_ringName (l : Launch) (D : va_G) (cy : Nat → ClassId) (ad : (Nat → Nat) × (Nat → Nat)) (sz : Nat) (aM : Nat) (qM : Nat → Nat) (vM : Nat → Int32) (vM_letters : Nat → Int32) (vM_fresh : Nat → Int32) (vM_tape : Nat → Int32) (zr : Int32) (z_vM : Nat → Int32) (z_vM_letters : Nat → Int32) (hok : fX9_ringName vM vM_letters vM_fresh vM_tape = some (zr, z_vM, z_vM_letters)) (A : Nat → Prop) (hAe : va_A (wX9_ringName cy aM qM vM vM_letters vM_fresh vM_tape) sz = A) : Met l yX9_ringName wsX9_ringName ({ frames := 7, cells := 0, slots := 0, locals := 151 } : Room) (kPreS D cy ad [.ref aM] (wX9_ringName cy aM qM vM vM_letters vM_fresh vM_tape) sz A) (kQi D cy zr A (wX9_ringName cy aM qM z_vM z_vM_letters vM_fresh vM_tape)) 0 0 A := by
  refine Met.ofW (cc := cX9_ringName) (maxL := 1) (ret := (some .int)) (by decide) rfl ?_
  intro p e s m args below meth c s₁ B hml hv
  obtain ⟨rfl, ⟨hsz, hP, hK, hD0, hN⟩, hSt⟩ := hv
  have hx := B.exec
  have hb := B.bytes
  have hr := B.returns
  have ht0 : ∀ w ∈ W0, w.before _ s = true := fun w h => atoms_spec (ws := wsX9_ringName) B.pre w (List.mem_cons_of_mem _ h)
  have hown : s.vm.findClass RX9 = some m.cls := findClass_of_methodNamed B.named
  have hlocks := B.notSynchronized
  subst hsz
  have hD : va_D A (wX9_ringName cy aM qM vM vM_letters vM_fresh vM_tape) := by rw [← hAe]; exact hD0.self
  have hA : ∀ q : Nat, s.heap.size ≤ q → A q := fun q h => by rw [← hAe]; exact Or.inr h
  have hS : va_S A s.heap s.heap [] := va_S.rf
  have hl := lv_entry ([.ref aM]) (n := 1) (Nat.le_of_ble_eq_true rfl)
  rw [lg_entry_eq]
  generalize (lg_sl ([.ref aM]) ++ List.replicate (1 - (lg_sl ([.ref aM])).length) Slot.unset).toArray = ls at hl ⊢
  have hl : lv_has ls 1 [(0, .ref aM)] := hl
  unfold fX9_ringName at hok
  obtain ⟨H, hH⟩ : ∃ H, H = s.heap := ⟨_, rfl⟩
  obtain ⟨locs, hlc⟩ : ∃ x : List Loc, x = [] := ⟨_, rfl⟩
  have hP : va_P D vwCl (wX9_ringName cy aM qM vM vM_letters vM_fresh vM_tape) H := by rw [hH]; exact hP
  have hS : va_S A s.heap H locs := by rw [hH, hlc]; exact hS
  rw [show W p l e _ s m _ below meth c s.heap [] = W p l e _ s m _ below meth c H locs from by rw [hH, hlc]]
  refine lv_aload_n hx hb dX9_ringName_0 rfl (lv_at hl 0 rfl) ?_
  refine lv_iconst (v := 0) hx hb dX9_ringName_1 (by decide) ?_
  refine lv_iconst (v := 3) hx hb dX9_ringName_2 (by decide) ?_
  obtain ⟨⟨r3, vM_3, vM_letters_3⟩, hc3, hok⟩ := k_bind hok
  try dsimp only at hok
  refine kCi (wc := (wX9_named cy aM qM vM vM_letters vM_fresh vM_tape)) (wc2 := (wX9_named cy aM qM vM_3 vM_letters_3 vM_fresh vM_tape)) (wr := []) (ws2 := (wX9_ringName cy aM qM vM_3 vM_letters_3 vM_fresh vM_tape)) (kRunVS (As := [.int 0, .int 3]) (rest := []) ⟨hx, hb, hml, hown, ht0⟩ (kX9_named l D cy ad _ aM qM vM vM_letters vM_fresh vM_tape (0 : Int32) (3 : Int32) r3 vM_3 vM_letters_3 hc3 _ rfl) (cwV 2 ht0 (gV wd790 wd791 wd792 wd744 wd793) rfl rfl rfl (by decide +kernel) ⟨Nat.le_of_ble_eq_true rfl, Nat.le_of_ble_eq_true rfl⟩) hK hN hP hD hSt hS hA [0, 1, 2, 3] rfl (by decide) 0 8 rfl rfl rfl hl.1 rfl (Nat.le_of_ble_eq_true rfl) dX9_ringName_3 ⟨Nat.zero_le _, Nat.zero_le _⟩) hP hD hS hA [0, 1, 2, 3] [] rfl rfl (by decide) (by decide) [0, 1, 2, 3] (by decide) rfl rfl (fun H locs hP hD hS => ?_)
  cases hok
  exact W.iret hx hb hr (fun t ht hW => ⟨⟨_, (), rfl, rfl, by rw [ht]; exact hP, va_K.moved hW.alike hK, hD⟩, hS.F ht⟩) hS.2.2 dX9_ringName_6
def wsX9_numberHere : List Cond := .code yX9_numberHere cX9_numberHere 3 (some .int) :: W0
abbrev wX9_numberHere (cy : Nat → ClassId) (aM : Nat) (qM : Nat → Nat) (vM : Nat → Int32) : va_W := [(aM, oX9 vM qM)]
set_option maxHeartbeats 4000000 in
set_option maxRecDepth 100000 in
theorem kX9_numberHere (l : Launch) (D : va_G) (cy : Nat → ClassId) (sz : Nat) (aM : Nat) (qM : Nat → Nat) (vM : Nat → Int32) (x1 : Int32) (x2 : Int32) (zr : Int32) (z_vM : Nat → Int32) (hok : fX9_numberHere vM x1 x2 = some (zr, z_vM)) (A : Nat → Prop) (hAe : va_A (wX9_numberHere cy aM qM vM) sz = A) : Met l yX9_numberHere wsX9_numberHere ({ frames := 1, cells := 0, slots := 0, locals := 22 } : Room) (kPre D cy [.ref aM, .int x1, .int x2] (wX9_numberHere cy aM qM vM) sz) (kQi D cy zr A (wX9_numberHere cy aM qM z_vM)) 0 0 A := by
  refine Met.ofW (cc := cX9_numberHere) (maxL := 3) (ret := (some .int)) (by decide) rfl ?_
  intro p e s m args below meth c s₁ B hml hv
  obtain ⟨rfl, hsz, hP, hK, hD0, hN⟩ := hv
  have hx := B.exec
  have hb := B.bytes
  have hr := B.returns
  have ht0 : ∀ w ∈ W0, w.before _ s = true := fun w h => atoms_spec (ws := wsX9_numberHere) B.pre w (List.mem_cons_of_mem _ h)
  have hown : s.vm.findClass RX9 = some m.cls := findClass_of_methodNamed B.named
  have hlocks := B.notSynchronized
  subst hsz
  have hD : va_D A (wX9_numberHere cy aM qM vM) := by rw [← hAe]; exact hD0.self
  have hA : ∀ q : Nat, s.heap.size ≤ q → A q := fun q h => by rw [← hAe]; exact Or.inr h
  have hS : va_S A s.heap s.heap [] := va_S.rf
  have hl := lv_entry ([.ref aM, .int x1, .int x2]) (n := 3) (Nat.le_of_ble_eq_true rfl)
  rw [lg_entry_eq]
  generalize (lg_sl ([.ref aM, .int x1, .int x2]) ++ List.replicate (3 - (lg_sl ([.ref aM, .int x1, .int x2])).length) Slot.unset).toArray = ls at hl ⊢
  have hl : lv_has ls 3 [(0, .ref aM), (1, .int x1), (2, .int x2)] := hl
  generalize hQe : MQ below (kQi D cy zr A (wX9_numberHere cy aM qM z_vM)) ([.ref aM, .int x1, .int x2] : List Value).toArray s 0 0 A = Q
  have J65 : ∀ (t0_65 : Int32) (vM_65 : Nat → Int32), ∀ (H : Heap) (locs : List Loc) (ls : Array Slot), va_P D vwCl (wX9_numberHere cy aM qM vM_65) H → va_D A (wX9_numberHere cy aM qM vM_65) → va_S A s.heap H locs → lv_has ls 3 [] → fX9_numberHere_J65 t0_65 vM_65 = some (zr, z_vM) → W p l e ({ frames := 1, cells := 0, slots := 0, locals := 22 } : Room) s m ([.ref aM, .int x1, .int x2] : List Value).toArray below meth c H locs 0 0 Q (F0 m 65 ls [.int t0_65]) := by
    intro t0_65 vM_65 H locs ls hP hD hS hl hok
    unfold fX9_numberHere_J65 at hok
    cases hok
    subst hQe; exact W.iret hx hb hr (fun t ht hW => ⟨⟨_, (), rfl, rfl, by rw [ht]; exact hP, va_K.moved hW.alike hK, hD⟩, hS.F ht⟩) hS.2.2 dX9_numberHere_65
  have J50 : ∀ (vM_50 : Nat → Int32), ∀ (H : Heap) (locs : List Loc) (ls : Array Slot), va_P D vwCl (wX9_numberHere cy aM qM vM_50) H → va_D A (wX9_numberHere cy aM qM vM_50) → va_S A s.heap H locs → lv_has ls 3 [(0, .ref aM), (1, .int x1)] → fX9_numberHere_J50 x1 vM_50 = some (zr, z_vM) → W p l e ({ frames := 1, cells := 0, slots := 0, locals := 22 } : Room) s m ([.ref aM, .int x1, .int x2] : List Value).toArray below meth c H locs 0 0 Q (F0 m 50 ls []) := by
    intro vM_50 H locs ls hP hD hS hl hok
    unfold fX9_numberHere_J50 at hok
    refine lv_aload_n hx hb dX9_numberHere_50 rfl (lv_at hl 0 rfl) ?_
    refine va_get (D := D) (ci := 8) (v := .int (vM_50 13)) (C := RX9) (T := TX9) (N := 29) hx hb ht0 niX9 hown hK hP 0 rfl rfl 13 (by decide) (ht0 _ wd757) (fun _ h9 => h9) rfl dX9_numberHere_51 ?_
    refine lv_if_eq (tgt := 61) hx hb dX9_numberHere_54 (by decide) (fun c54 => ?_) (fun c54 => ?_)
    · have hok := k_pos c54 hok
      refine lv_aload_n hx hb dX9_numberHere_61 rfl (lv_at hl 0 rfl) ?_
      refine va_get (D := D) (ci := 8) (v := .int (vM_50 7)) (C := RX9) (T := TX9) (N := 29) hx hb ht0 niX9 hown hK hP 0 rfl rfl 7 (by decide) (ht0 _ wd750) (fun _ h9 => h9) rfl dX9_numberHere_62 ?_
      exact J65 (vM_50 7) vM_50 H locs ls hP hD hS (lv_sub hl [] rfl) hok
    · have hok := k_neg c54 hok
      refine lv_iload_n hx hb dX9_numberHere_57 rfl (lv_at hl 1 rfl) ?_
      refine lv_goto (tgt := 65) hx hb dX9_numberHere_58 (by decide) ?_
      exact J65 x1 vM_50 H locs ls hP hD hS (lv_sub hl [] rfl) hok
  unfold fX9_numberHere at hok
  obtain ⟨H, hH⟩ : ∃ H, H = s.heap := ⟨_, rfl⟩
  obtain ⟨locs, hlc⟩ : ∃ x : List Loc, x = [] := ⟨_, rfl⟩
  have hP : va_P D vwCl (wX9_numberHere cy aM qM vM) H := by rw [hH]; exact hP
  have hS : va_S A s.heap H locs := by rw [hH, hlc]; exact hS
  rw [show W p l e _ s m _ below meth c s.heap [] = W p l e _ s m _ below meth c H locs from by rw [hH, hlc]]
  refine lv_aload_n hx hb dX9_numberHere_0 rfl (lv_at hl 0 rfl) ?_
  refine va_get (D := D) (ci := 8) (v := .int (vM 13)) (C := RX9) (T := TX9) (N := 29) hx hb ht0 niX9 hown hK hP 0 rfl rfl 13 (by decide) (ht0 _ wd757) (fun _ h9 => h9) rfl dX9_numberHere_1 ?_
  refine lv_if_eq (tgt := 9) hx hb dX9_numberHere_4 (by decide) (fun c4 => ?_) (fun c4 => ?_)
  · have hok := k_pos c4 hok
    refine lv_aload_n hx hb dX9_numberHere_9 rfl (lv_at hl 0 rfl) ?_
    refine va_get (D := D) (ci := 8) (v := .int (vM 6)) (C := RX9) (T := TX9) (N := 29) hx hb ht0 niX9 hown hK hP 0 rfl rfl 6 (by decide) (ht0 _ wd740) (fun _ h9 => h9) rfl dX9_numberHere_10 ?_
    refine lv_iconst (v := 3) hx hb dX9_numberHere_13 (by decide) ?_
    refine lv_icmp_eq (tgt := 29) hx hb dX9_numberHere_14 (by decide) (fun c14 => ?_) (fun c14 => ?_)
    · have hok := k_pos c14 hok
      refine lv_aload_n hx hb dX9_numberHere_29 rfl (lv_at hl 0 rfl) ?_
      refine va_get (D := D) (ci := 8) (v := .int (vM 7)) (C := RX9) (T := TX9) (N := 29) hx hb ht0 niX9 hown hK hP 0 rfl rfl 7 (by decide) (ht0 _ wd750) (fun _ h9 => h9) rfl dX9_numberHere_30 ?_
      refine lv_iload_n hx hb dX9_numberHere_33 rfl (lv_at hl 1 rfl) ?_
      refine lv_iload_n hx hb dX9_numberHere_34 rfl (lv_at hl 2 rfl) ?_
      obtain ⟨r35, hc35, hok⟩ := k_bind hok
      refine kCi (wc := (wX9_in cy )) (wc2 := (wX9_in cy )) (wr := [(aM, oX9 vM qM)]) (ws2 := (wX9_numberHere cy aM qM vM)) (kRunS (As := [.int (vM 7), .int x1, .int x2]) (rest := []) ⟨hx, hb, hml, hown, ht0⟩ (kX9_in l D cy _ (vM 7) x1 x2 r35 hc35 _ rfl) (va_cwS 3 ht0 (gS wd787 wd788 wd744 wd789) rfl rfl rfl (by decide +kernel) ⟨Nat.le_of_ble_eq_true rfl, Nat.le_of_ble_eq_true rfl⟩) hK hN hP hD [] rfl (by decide) rfl hl.1 rfl (Nat.le_of_ble_eq_true rfl) dX9_numberHere_35 ⟨Nat.zero_le _, Nat.zero_le _⟩) hP hD hS hA [] [0] rfl rfl (by decide) (by decide) [0] (by decide) rfl rfl (fun H locs hP hD hS => ?_)
      refine lv_if_ne (tgt := 50) hx hb dX9_numberHere_38 (by decide) (fun c38 => ?_) (fun c38 => ?_)
      · have hok := k_neg c38 hok
        exact J50 vM H locs ls hP hD hS (lv_sub hl [0, 1] rfl) hok
      · have hok := k_pos c38 hok
        refine lv_aload_n hx hb dX9_numberHere_41 rfl (lv_at hl 0 rfl) ?_
        refine lv_iconst (v := 4) hx hb dX9_numberHere_42 (by decide) ?_
        refine lv_aload_n hx hb dX9_numberHere_43 rfl (lv_at hl 0 rfl) ?_
        refine va_get (D := D) (ci := 8) (v := .int (vM 4)) (C := RX9) (T := TX9) (N := 29) hx hb ht0 niX9 hown hK hP 0 rfl rfl 4 (by decide) (ht0 _ wd756) (fun _ h9 => h9) rfl dX9_numberHere_44 ?_
        obtain ⟨vM_47, hc47, hok⟩ := k_bind hok
        refine kCv (wc := (wX9_wrong cy aM qM vM)) (wc2 := (wX9_wrong cy aM qM vM_47)) (wr := []) (ws2 := (wX9_numberHere cy aM qM vM_47)) (kRunV (As := [.int 4, .int (vM 4)]) (rest := []) ⟨hx, hb, hml, hown, ht0⟩ (kX9_wrong l D cy _ aM qM vM (4 : Int32) (vM 4) vM_47 hc47 _ rfl) (cwV 2 ht0 (gV wd774 wd775 wd776 wd744 wd777) rfl rfl rfl (by decide +kernel) ⟨Nat.le_of_ble_eq_true rfl, Nat.le_of_ble_eq_true rfl⟩) hK hN hP hD [0] rfl (by decide) 0 8 rfl rfl rfl hl.1 rfl (Nat.le_of_ble_eq_true rfl) dX9_numberHere_47 ⟨Nat.zero_le _, Nat.zero_le _⟩) hP hD hS hA [0] [] rfl rfl (by decide) (by decide) [0] (by decide) rfl rfl (fun H locs hP hD hS => ?_)
        exact J50 vM_47 H locs ls hP hD hS (lv_sub hl [0, 1] rfl) hok
    · have hok := k_neg c14 hok
      refine lv_aload_n hx hb dX9_numberHere_17 rfl (lv_at hl 0 rfl) ?_
      refine lv_iconst (v := 1) hx hb dX9_numberHere_18 (by decide) ?_
      refine lv_aload_n hx hb dX9_numberHere_19 rfl (lv_at hl 0 rfl) ?_
      refine va_get (D := D) (ci := 8) (v := .int (vM 4)) (C := RX9) (T := TX9) (N := 29) hx hb ht0 niX9 hown hK hP 0 rfl rfl 4 (by decide) (ht0 _ wd756) (fun _ h9 => h9) rfl dX9_numberHere_20 ?_
      obtain ⟨vM_23, hc23, hok⟩ := k_bind hok
      refine kCv (wc := (wX9_wrong cy aM qM vM)) (wc2 := (wX9_wrong cy aM qM vM_23)) (wr := []) (ws2 := (wX9_numberHere cy aM qM vM_23)) (kRunV (As := [.int 1, .int (vM 4)]) (rest := []) ⟨hx, hb, hml, hown, ht0⟩ (kX9_wrong l D cy _ aM qM vM (1 : Int32) (vM 4) vM_23 hc23 _ rfl) (cwV 2 ht0 (gV wd774 wd775 wd776 wd744 wd777) rfl rfl rfl (by decide +kernel) ⟨Nat.le_of_ble_eq_true rfl, Nat.le_of_ble_eq_true rfl⟩) hK hN hP hD [0] rfl (by decide) 0 8 rfl rfl rfl hl.1 rfl (Nat.le_of_ble_eq_true rfl) dX9_numberHere_23 ⟨Nat.zero_le _, Nat.zero_le _⟩) hP hD hS hA [0] [] rfl rfl (by decide) (by decide) [0] (by decide) rfl rfl (fun H locs hP hD hS => ?_)
      refine lv_goto (tgt := 50) hx hb dX9_numberHere_26 (by decide) ?_
      exact J50 vM_23 H locs ls hP hD hS (lv_sub hl [0, 1] rfl) hok
  · have hok := k_neg c4 hok
    refine lv_iload_n hx hb dX9_numberHere_7 rfl (lv_at hl 1 rfl) ?_
    cases hok
    subst hQe; exact W.iret hx hb hr (fun t ht hW => ⟨⟨_, (), rfl, rfl, by rw [ht]; exact hP, va_K.moved hW.alike hK, hD⟩, hS.F ht⟩) hS.2.2 dX9_numberHere_8
def wsX9_number : List Cond := .code yX9_number cX9_number 4 (some .int) :: W0
abbrev wX9_number (cy : Nat → ClassId) (aM : Nat) (qM : Nat → Nat) (vM : Nat → Int32) (vM_tape : Nat → Int32) (vM_letters : Nat → Int32) : va_W := [(aM, oX9 vM qM), (qM 1, rI cy 900 vM_tape), (qM 12, rI cy 8 vM_letters)]
set_option maxHeartbeats 4000000 in
set_option maxRecDepth 100000 in
theorem kX9_number (l : Launch) (D : va_G) (cy : Nat → ClassId) (sz : Nat) (aM : Nat) (qM : Nat → Nat) (vM : Nat → Int32) (vM_tape : Nat → Int32) (vM_letters : Nat → Int32) (x1 : Int32) (x2 : Int32) (zr : Int32) (z_vM : Nat → Int32) (z_vM_letters : Nat → Int32) (hok : fX9_number vM vM_tape vM_letters x1 x2 = some (zr, z_vM, z_vM_letters)) (A : Nat → Prop) (hAe : va_A (wX9_number cy aM qM vM vM_tape vM_letters) sz = A) : Met l yX9_number wsX9_number ({ frames := 2, cells := 0, slots := 0, locals := 44 } : Room) (kPre D cy [.ref aM, .int x1, .int x2] (wX9_number cy aM qM vM vM_tape vM_letters) sz) (kQi D cy zr A (wX9_number cy aM qM z_vM vM_tape z_vM_letters)) 0 0 A := by
  refine Met.ofW (cc := cX9_number) (maxL := 4) (ret := (some .int)) (by decide) rfl ?_
  intro p e s m args below meth c s₁ B hml hv
  obtain ⟨rfl, hsz, hP, hK, hD0, hN⟩ := hv
  have hx := B.exec
  have hb := B.bytes
  have hr := B.returns
  have ht0 : ∀ w ∈ W0, w.before _ s = true := fun w h => atoms_spec (ws := wsX9_number) B.pre w (List.mem_cons_of_mem _ h)
  have hown : s.vm.findClass RX9 = some m.cls := findClass_of_methodNamed B.named
  have hlocks := B.notSynchronized
  subst hsz
  have hD : va_D A (wX9_number cy aM qM vM vM_tape vM_letters) := by rw [← hAe]; exact hD0.self
  have hA : ∀ q : Nat, s.heap.size ≤ q → A q := fun q h => by rw [← hAe]; exact Or.inr h
  have hS : va_S A s.heap s.heap [] := va_S.rf
  have hl := lv_entry ([.ref aM, .int x1, .int x2]) (n := 4) (Nat.le_of_ble_eq_true rfl)
  rw [lg_entry_eq]
  generalize (lg_sl ([.ref aM, .int x1, .int x2]) ++ List.replicate (4 - (lg_sl ([.ref aM, .int x1, .int x2])).length) Slot.unset).toArray = ls at hl ⊢
  have hl : lv_has ls 4 [(0, .ref aM), (1, .int x1), (2, .int x2)] := hl
  generalize hQe : MQ below (kQi D cy zr A (wX9_number cy aM qM z_vM vM_tape z_vM_letters)) ([.ref aM, .int x1, .int x2] : List Value).toArray s 0 0 A = Q
  have J18 : ∀ (y3_18 : Int32) (vM_letters_18 : Nat → Int32) (vM_18 : Nat → Int32), ∀ (H : Heap) (locs : List Loc) (ls : Array Slot), va_P D vwCl (wX9_number cy aM qM vM_18 vM_tape vM_letters_18) H → va_D A (wX9_number cy aM qM vM_18 vM_tape vM_letters_18) → va_S A s.heap H locs → lv_has ls 4 [(3, .int y3_18)] → fX9_number_J18 y3_18 vM_letters_18 vM_18 = some (zr, z_vM, z_vM_letters) → W p l e ({ frames := 2, cells := 0, slots := 0, locals := 44 } : Room) s m ([.ref aM, .int x1, .int x2] : List Value).toArray below meth c H locs 0 0 Q (F0 m 18 ls []) := by
    intro y3_18 vM_letters_18 vM_18 H locs ls hP hD hS hl hok
    unfold fX9_number_J18 at hok
    refine lv_iload_n hx hb dX9_number_18 rfl (lv_at hl 0 rfl) ?_
    cases hok
    subst hQe; exact W.iret hx hb hr (fun t ht hW => ⟨⟨_, (), rfl, rfl, by rw [ht]; exact hP, va_K.moved hW.alike hK, hD⟩, hS.F ht⟩) hS.2.2 dX9_number_19
  unfold fX9_number at hok
  obtain ⟨H, hH⟩ : ∃ H, H = s.heap := ⟨_, rfl⟩
  obtain ⟨locs, hlc⟩ : ∃ x : List Loc, x = [] := ⟨_, rfl⟩
  have hP : va_P D vwCl (wX9_number cy aM qM vM vM_tape vM_letters) H := by rw [hH]; exact hP
  have hS : va_S A s.heap H locs := by rw [hH, hlc]; exact hS
  rw [show W p l e _ s m _ below meth c s.heap [] = W p l e _ s m _ below meth c H locs from by rw [hH, hlc]]
  refine lv_aload_n hx hb dX9_number_0 rfl (lv_at hl 0 rfl) ?_
  refine lv_iload_n hx hb dX9_number_1 rfl (lv_at hl 1 rfl) ?_
  refine lv_iload_n hx hb dX9_number_2 rfl (lv_at hl 2 rfl) ?_
  obtain ⟨⟨r3, vM_3⟩, hc3, hok⟩ := k_bind hok
  try dsimp only at hok
  refine kCi (wc := (wX9_numberHere cy aM qM vM)) (wc2 := (wX9_numberHere cy aM qM vM_3)) (wr := [(qM 1, rI cy 900 vM_tape), (qM 12, rI cy 8 vM_letters)]) (ws2 := (wX9_number cy aM qM vM_3 vM_tape vM_letters)) (kRunV (As := [.int x1, .int x2]) (rest := []) ⟨hx, hb, hml, hown, ht0⟩ (kX9_numberHere l D cy _ aM qM vM x1 x2 r3 vM_3 hc3 _ rfl) (cwV 2 ht0 (gV wd794 wd795 wd796 wd744 wd797) rfl rfl rfl (by decide +kernel) ⟨Nat.le_of_ble_eq_true rfl, Nat.le_of_ble_eq_true rfl⟩) hK hN hP hD [0] rfl (by decide) 0 8 rfl rfl rfl hl.1 rfl (Nat.le_of_ble_eq_true rfl) dX9_number_3 ⟨Nat.zero_le _, Nat.zero_le _⟩) hP hD hS hA [0] [1, 2] rfl rfl (by decide) (by decide) [2, 0, 1] (by decide) rfl rfl (fun H locs hP hD hS => ?_)
  refine lv_istore_n (lv' := [(3, .int r3), (0, .ref aM), (1, .int x1), (2, .int x2)]) hx hb dX9_number_6 rfl hl (by decide) rfl (fun ls hl => ?_)
  refine lv_aload_n hx hb dX9_number_7 rfl (lv_at hl 1 rfl) ?_
  refine va_get (D := D) (ci := 8) (v := .int (vM_3 13)) (C := RX9) (T := TX9) (N := 29) hx hb ht0 niX9 hown hK hP 0 rfl rfl 13 (by decide) (ht0 _ wd757) (fun _ h9 => h9) rfl dX9_number_8 ?_
  refine lv_if_ne (tgt := 18) hx hb dX9_number_11 (by decide) (fun c11 => ?_) (fun c11 => ?_)
  · have hok := k_neg c11 hok
    exact J18 r3 vM_letters vM_3 H locs ls hP hD hS (lv_sub hl [0] rfl) hok
  · have hok := k_pos c11 hok
    refine lv_aload_n hx hb dX9_number_14 rfl (lv_at hl 1 rfl) ?_
    obtain ⟨⟨vM_15, vM_letters_15⟩, hc15, hok⟩ := k_bind hok
    try dsimp only at hok
    refine kCv (wc := (wX9_next cy aM qM vM_3 vM_tape vM_letters)) (wc2 := (wX9_next cy aM qM vM_15 vM_tape vM_letters_15)) (wr := []) (ws2 := (wX9_number cy aM qM vM_15 vM_tape vM_letters_15)) (kRunV (As := []) (rest := []) ⟨hx, hb, hml, hown, ht0⟩ (kX9_next l D cy _ aM qM vM_3 vM_tape vM_letters vM_15 vM_letters_15 hc15 _ rfl) (cwV 0 ht0 (gV wd766 wd767 wd768 wd744 wd769) rfl rfl rfl (by decide +kernel) ⟨Nat.le_of_ble_eq_true rfl, Nat.le_of_ble_eq_true rfl⟩) hK hN hP hD [0, 1, 2] rfl (by decide) 0 8 rfl rfl rfl hl.1 rfl (Nat.le_of_ble_eq_true rfl) dX9_number_15 ⟨Nat.zero_le _, Nat.zero_le _⟩) hP hD hS hA [0, 1, 2] [] rfl rfl (by decide) (by decide) [0, 1, 2] (by decide) rfl rfl (fun H locs hP hD hS => ?_)
    exact J18 r3 vM_letters_15 vM_15 H locs ls hP hD hS (lv_sub hl [0] rfl) hok
def wsX9_after : List Cond := .code yX9_after cX9_after 4 (some .int) :: W0
abbrev wX9_after (cy : Nat → ClassId) (aM : Nat) (qM : Nat → Nat) (vM : Nat → Int32) (vM_letters : Nat → Int32) (vM_tape : Nat → Int32) : va_W := [(aM, oX9 vM qM), (qM 12, rI cy 8 vM_letters), (qM 1, rI cy 900 vM_tape)]
set_option maxHeartbeats 4000000 in
set_option maxRecDepth 100000 in
theorem kX9_after (l : Launch) (D : va_G) (cy : Nat → ClassId) (ad : (Nat → Nat) × (Nat → Nat)) (sz : Nat) (aM : Nat) (qM : Nat → Nat) (vM : Nat → Int32) (vM_letters : Nat → Int32) (vM_tape : Nat → Int32) (x1 : Nat) (x2 : Int32) (x3 : Int32) (zr : Int32) (z_vM : Nat → Int32) (z_vM_letters : Nat → Int32) (hok : fX9_after vM vM_letters vM_tape x1 x2 x3 = some (zr, z_vM, z_vM_letters)) (A : Nat → Prop) (hAe : va_A (wX9_after cy aM qM vM vM_letters vM_tape) sz = A) : Met l yX9_after wsX9_after ({ frames := 7, cells := 0, slots := 0, locals := 150 } : Room) (kPreS D cy ad [.ref aM, .ref (ad.1 x1), .int x2, .int x3] (wX9_after cy aM qM vM vM_letters vM_tape) sz A) (kQi D cy zr A (wX9_after cy aM qM z_vM z_vM_letters vM_tape)) 0 0 A := by
  refine Met.ofW (cc := cX9_after) (maxL := 4) (ret := (some .int)) (by decide) rfl ?_
  intro p e s m args below meth c s₁ B hml hv
  obtain ⟨rfl, ⟨hsz, hP, hK, hD0, hN⟩, hSt⟩ := hv
  have hx := B.exec
  have hb := B.bytes
  have hr := B.returns
  have ht0 : ∀ w ∈ W0, w.before _ s = true := fun w h => atoms_spec (ws := wsX9_after) B.pre w (List.mem_cons_of_mem _ h)
  have hown : s.vm.findClass RX9 = some m.cls := findClass_of_methodNamed B.named
  have hlocks := B.notSynchronized
  subst hsz
  have hD : va_D A (wX9_after cy aM qM vM vM_letters vM_tape) := by rw [← hAe]; exact hD0.self
  have hA : ∀ q : Nat, s.heap.size ≤ q → A q := fun q h => by rw [← hAe]; exact Or.inr h
  have hS : va_S A s.heap s.heap [] := va_S.rf
  have hl := lv_entry ([.ref aM, .ref (ad.1 x1), .int x2, .int x3]) (n := 4) (Nat.le_of_ble_eq_true rfl)
  rw [lg_entry_eq]
  generalize (lg_sl ([.ref aM, .ref (ad.1 x1), .int x2, .int x3]) ++ List.replicate (4 - (lg_sl ([.ref aM, .ref (ad.1 x1), .int x2, .int x3])).length) Slot.unset).toArray = ls at hl ⊢
  have hl : lv_has ls 4 [(0, .ref aM), (1, .ref (ad.1 x1)), (2, .int x2), (3, .int x3)] := hl
  unfold fX9_after at hok
  obtain ⟨H, hH⟩ : ∃ H, H = s.heap := ⟨_, rfl⟩
  obtain ⟨locs, hlc⟩ : ∃ x : List Loc, x = [] := ⟨_, rfl⟩
  have hP : va_P D vwCl (wX9_after cy aM qM vM vM_letters vM_tape) H := by rw [hH]; exact hP
  have hS : va_S A s.heap H locs := by rw [hH, hlc]; exact hS
  rw [show W p l e _ s m _ below meth c s.heap [] = W p l e _ s m _ below meth c H locs from by rw [hH, hlc]]
  refine lv_aload_n hx hb dX9_after_0 rfl (lv_at hl 0 rfl) ?_
  refine lv_aload_n hx hb dX9_after_1 rfl (lv_at hl 1 rfl) ?_
  obtain ⟨⟨vM_2, vM_letters_2⟩, hc2, hok⟩ := k_bind hok
  try dsimp only at hok
  refine kCv (wc := (wX9_must cy aM qM vM vM_letters vM_tape)) (wc2 := (wX9_must cy aM qM vM_2 vM_letters_2 vM_tape)) (wr := []) (ws2 := (wX9_after cy aM qM vM_2 vM_letters_2 vM_tape)) (kRunVS (As := [.ref (ad.1 x1)]) (rest := []) ⟨hx, hb, hml, hown, ht0⟩ (kX9_must l D cy ad _ aM qM vM vM_letters vM_tape x1 vM_2 vM_letters_2 hc2 _ rfl) (cwV 1 ht0 (gV wd798 wd799 wd800 wd744 wd801) rfl rfl rfl (by decide +kernel) ⟨Nat.le_of_ble_eq_true rfl, Nat.le_of_ble_eq_true rfl⟩) hK hN hP hD hSt hS hA [0, 1, 2] rfl (by decide) 0 8 rfl rfl rfl hl.1 rfl (Nat.le_of_ble_eq_true rfl) dX9_after_2 ⟨Nat.zero_le _, Nat.zero_le _⟩) hP hD hS hA [0, 1, 2] [] rfl rfl (by decide) (by decide) [0, 1, 2] (by decide) rfl rfl (fun H locs hP hD hS => ?_)
  refine lv_aload_n hx hb dX9_after_5 rfl (lv_at hl 0 rfl) ?_
  refine lv_iload_n hx hb dX9_after_6 rfl (lv_at hl 2 rfl) ?_
  refine lv_iload_n hx hb dX9_after_7 rfl (lv_at hl 3 rfl) ?_
  obtain ⟨⟨r8, vM_8, vM_letters_8⟩, hc8, hok⟩ := k_bind hok
  try dsimp only at hok
  refine kCi (wc := (wX9_number cy aM qM vM_2 vM_tape vM_letters_2)) (wc2 := (wX9_number cy aM qM vM_8 vM_tape vM_letters_8)) (wr := []) (ws2 := (wX9_after cy aM qM vM_8 vM_letters_8 vM_tape)) (kRunV (As := [.int x2, .int x3]) (rest := []) ⟨hx, hb, hml, hown, ht0⟩ (kX9_number l D cy _ aM qM vM_2 vM_tape vM_letters_2 x2 x3 r8 vM_8 vM_letters_8 hc8 _ rfl) (cwV 2 ht0 (gV wd802 wd803 wd804 wd744 wd805) rfl rfl rfl (by decide +kernel) ⟨Nat.le_of_ble_eq_true rfl, Nat.le_of_ble_eq_true rfl⟩) hK hN hP hD [0, 2, 1] rfl (by decide) 0 8 rfl rfl rfl hl.1 rfl (Nat.le_of_ble_eq_true rfl) dX9_after_8 ⟨Nat.zero_le _, Nat.zero_le _⟩) hP hD hS hA [0, 2, 1] [] rfl rfl (by decide) (by decide) [0, 2, 1] (by decide) rfl rfl (fun H locs hP hD hS => ?_)
  cases hok
  exact W.iret hx hb hr (fun t ht hW => ⟨⟨_, (), rfl, rfl, by rw [ht]; exact hP, va_K.moved hW.alike hK, hD⟩, hS.F ht⟩) hS.2.2 dX9_after_11
def wsX9_placeHere : List Cond := .code yX9_placeHere cX9_placeHere 2 (some .int) :: W0
abbrev wX9_placeHere (cy : Nat → ClassId) (aM : Nat) (qM : Nat → Nat) (vM : Nat → Int32) (vM_fresh : Nat → Int32) : va_W := [(aM, oX9 vM qM), (qM 16, rI cy 224 vM_fresh)]
set_option maxHeartbeats 4000000 in
set_option maxRecDepth 100000 in
theorem kX9_placeHere (l : Launch) (D : va_G) (cy : Nat → ClassId) (sz : Nat) (aM : Nat) (qM : Nat → Nat) (vM : Nat → Int32) (vM_fresh : Nat → Int32) (x1 : Int32) (zr : Int32) (z_vM : Nat → Int32) (hok : fX9_placeHere vM vM_fresh x1 = some (zr, z_vM)) (A : Nat → Prop) (hAe : va_A (wX9_placeHere cy aM qM vM vM_fresh) sz = A) : Met l yX9_placeHere wsX9_placeHere ({ frames := 2, cells := 0, slots := 0, locals := 44 } : Room) (kPre D cy [.ref aM, .int x1] (wX9_placeHere cy aM qM vM vM_fresh) sz) (kQi D cy zr A (wX9_placeHere cy aM qM z_vM vM_fresh)) 0 0 A := by
  refine Met.ofW (cc := cX9_placeHere) (maxL := 2) (ret := (some .int)) (by decide) rfl ?_
  intro p e s m args below meth c s₁ B hml hv
  obtain ⟨rfl, hsz, hP, hK, hD0, hN⟩ := hv
  have hx := B.exec
  have hb := B.bytes
  have hr := B.returns
  have ht0 : ∀ w ∈ W0, w.before _ s = true := fun w h => atoms_spec (ws := wsX9_placeHere) B.pre w (List.mem_cons_of_mem _ h)
  have hown : s.vm.findClass RX9 = some m.cls := findClass_of_methodNamed B.named
  have hlocks := B.notSynchronized
  subst hsz
  have hD : va_D A (wX9_placeHere cy aM qM vM vM_fresh) := by rw [← hAe]; exact hD0.self
  have hA : ∀ q : Nat, s.heap.size ≤ q → A q := fun q h => by rw [← hAe]; exact Or.inr h
  have hS : va_S A s.heap s.heap [] := va_S.rf
  have hl := lv_entry ([.ref aM, .int x1]) (n := 2) (Nat.le_of_ble_eq_true rfl)
  rw [lg_entry_eq]
  generalize (lg_sl ([.ref aM, .int x1]) ++ List.replicate (2 - (lg_sl ([.ref aM, .int x1])).length) Slot.unset).toArray = ls at hl ⊢
  have hl : lv_has ls 2 [(0, .ref aM), (1, .int x1)] := hl
  unfold fX9_placeHere at hok
  obtain ⟨H, hH⟩ : ∃ H, H = s.heap := ⟨_, rfl⟩
  obtain ⟨locs, hlc⟩ : ∃ x : List Loc, x = [] := ⟨_, rfl⟩
  have hP : va_P D vwCl (wX9_placeHere cy aM qM vM vM_fresh) H := by rw [hH]; exact hP
  have hS : va_S A s.heap H locs := by rw [hH, hlc]; exact hS
  rw [show W p l e _ s m _ below meth c s.heap [] = W p l e _ s m _ below meth c H locs from by rw [hH, hlc]]
  refine lv_bipush (v := 9) hx hb dX9_placeHere_0 (by decide) ?_
  refine lv_iload_n hx hb dX9_placeHere_2 rfl (lv_at hl 1 rfl) ?_
  refine lv_imul hx hb dX9_placeHere_3 ?_
  refine lv_aload_n hx hb dX9_placeHere_4 rfl (lv_at hl 0 rfl) ?_
  refine lv_iconst (v := 0) hx hb dX9_placeHere_5 (by decide) ?_
  refine lv_aload_n hx hb dX9_placeHere_6 rfl (lv_at hl 0 rfl) ?_
  refine va_get (D := D) (ci := 8) (v := .ref (qM 16)) (C := RX9) (T := TX9) (N := 29) hx hb ht0 niX9 hown hK hP 0 rfl rfl 16 (by decide) (ht0 _ wd778) (fun _ h9 => h9) rfl dX9_placeHere_7 ?_
  refine lv_bipush (v := 8) hx hb dX9_placeHere_10 (by decide) ?_
  refine lv_iconst (v := 2) hx hb dX9_placeHere_12 (by decide) ?_
  refine lv_iload_n hx hb dX9_placeHere_13 rfl (lv_at hl 1 rfl) ?_
  refine lv_imul hx hb dX9_placeHere_14 ?_
  refine lv_iadd hx hb dX9_placeHere_15 ?_
  refine lv_iconst (v := 1) hx hb dX9_placeHere_16 (by decide) ?_
  refine lv_iadd hx hb dX9_placeHere_17 ?_
  obtain ⟨g18, hok⟩ := gd_some hok
  refine va_iald hx hb hK hP 1 0 rfl rfl (okI_in g18) dX9_placeHere_18 ?_
  refine lv_iconst (v := 1) hx hb dX9_placeHere_19 (by decide) ?_
  refine lv_isub hx hb dX9_placeHere_20 ?_
  obtain ⟨⟨r21, vM_21⟩, hc21, hok⟩ := k_bind hok
  try dsimp only at hok
  refine kCi (wc := (wX9_numberHere cy aM qM vM)) (wc2 := (wX9_numberHere cy aM qM vM_21)) (wr := [(qM 16, rI cy 224 vM_fresh)]) (ws2 := (wX9_placeHere cy aM qM vM_21 vM_fresh)) (kRunV (As := [.int 0, .int ((vM_fresh (((8 : Int32) + ((2 : Int32) * x1)) + (1 : Int32)).toNatClampNeg) - (1 : Int32))]) (rest := [.int ((9 : Int32) * x1)]) ⟨hx, hb, hml, hown, ht0⟩ (kX9_numberHere l D cy _ aM qM vM (0 : Int32) ((vM_fresh (((8 : Int32) + ((2 : Int32) * x1)) + (1 : Int32)).toNatClampNeg) - (1 : Int32)) r21 vM_21 hc21 _ rfl) (cwV 2 ht0 (gV wd794 wd795 wd796 wd744 wd797) rfl rfl rfl (by decide +kernel) ⟨Nat.le_of_ble_eq_true rfl, Nat.le_of_ble_eq_true rfl⟩) hK hN hP hD [0] rfl (by decide) 0 8 rfl rfl rfl hl.1 rfl (Nat.le_of_ble_eq_true rfl) dX9_placeHere_21 ⟨Nat.zero_le _, Nat.zero_le _⟩) hP hD hS hA [0] [1] rfl rfl (by decide) (by decide) [1, 0] (by decide) rfl rfl (fun H locs hP hD hS => ?_)
  refine lv_iadd hx hb dX9_placeHere_24 ?_
  cases hok
  exact W.iret hx hb hr (fun t ht hW => ⟨⟨_, (), rfl, rfl, by rw [ht]; exact hP, va_K.moved hW.alike hK, hD⟩, hS.F ht⟩) hS.2.2 dX9_placeHere_25
