/-! the law's own led -/
theorem wk0 : Cond.classLink RL 13 "java/util/NoSuchElementException" ∈ W0 := memW (List.mem_append_right _ (List.mem_append_right _ (List.mem_append_right _ (List.mem_append_right _ (List.mem_append_right _ (List.mem_append_right _ (List.mem_append_left _ (List.mem_of_getElem? (i := 2) rfl)))))))) rfl
theorem wk1 : Cond.methodLink RL 7 yX8_led ∈ W0 := memW (List.mem_append_right _ (List.mem_append_right _ (List.mem_append_right _ (List.mem_append_right _ (List.mem_append_right _ (List.mem_append_right _ (List.mem_append_left _ (List.mem_of_getElem? (i := 3) rfl)))))))) rfl
theorem wk2 : Cond.instanceMethod yX8_led ∈ W0 := memW (List.mem_append_right _ (List.mem_append_right _ (List.mem_append_right _ (List.mem_append_right _ (List.mem_append_right _ (List.mem_append_right _ (List.mem_append_left _ (List.mem_of_getElem? (i := 4) rfl)))))))) rfl
theorem wk3 : Cond.selects RX8 yX8_led yX8_led ∈ W0 := memW (List.mem_append_right _ (List.mem_append_right _ (List.mem_append_right _ (List.mem_append_right _ (List.mem_append_right _ (List.mem_append_right _ (List.mem_append_left _ (List.mem_of_getElem? (i := 5) rfl)))))))) rfl
theorem wk4 : Cond.initialized RX8 ∈ W0 := memW (List.mem_append_right _ (List.mem_append_left _ (List.mem_of_getElem? (i := 1) rfl))) rfl
theorem wk5 : Cond.code yX8_led cX8_led 4 (some .int) ∈ W0 := memW (List.mem_append_right _ (List.mem_append_right _ (List.mem_append_right _ (List.mem_append_right _ (List.mem_append_right _ (List.mem_append_right _ (List.mem_append_left _ (List.mem_of_getElem? (i := 6) rfl)))))))) rfl
def wsL_led : List Cond := .codeWith yL_led cL_led 4 (some .int) [(0, 9, 12, 13)] :: W0
def ledK (zr : Option Int32) : Int32 := match zr with
  | some _ => 0
  | none => 1
def ledO (zr : Option Int32) (f : Nat → Int64) : Nat → Int64 := match zr with
  | some r => vp_updL f 0 r.toInt64
  | none => f
set_option maxHeartbeats 4000000 in
set_option maxRecDepth 100000 in
theorem kL_led (l : Launch) (hfl : l.stackTraces = false) (sa : Nat) (D : va_G) (cy : Nat → ClassId) (sz : Nat) (aO : Nat) (pO : Nat → Int64) (aN : Nat) (qN : Nat → Nat) (aH : Nat) (qH : Nat → Nat) (qD : Nat → Nat) (vN : Nat → Int32) (vH : Nat → Int32) (vD : Nat → Int32) (vD_now : Nat → Int32) (x1 : Int32) (zr : Option Int32) (hok : fX8_led vN vH vD vD_now x1 = some zr) (A : Nat → Prop) (hAe : va_A ((aO, rJ cy 1 pO) :: wX8_led cy aN qN aH qH qD aH vN vH vD vD_now) sz = A) :
    Met l yL_led wsL_led ({ frames := 7, cells := 1, slots := 6, locals := 120 } : Room) (kPreL D cy sa [.ref aN, .int x1, .ref aO] ((aO, rJ cy 1 pO) :: wX8_led cy aN qN aH qH qD aH vN vH vD vD_now) sz A) (kQi D cy (ledK zr) A ((aO, rJ cy 1 (ledO zr pO)) :: wX8_led cy aN qN aH qH qD aH vN vH vD vD_now)) 1 6 A := by
  refine va_MetW (cc := cL_led) (maxL := 4) (ret := some .int) (hh := [(0, 9, 12, 13)]) (by decide) rfl ?_
  intro p e s m args below meth c s₁ B hml hv
  obtain ⟨rfl, ⟨hsz, hP, hK, hD0, hN⟩, hLd⟩ := hv
  have hx := B.exec
  have hb := B.bytes
  have hr := B.returns
  have hpre := atoms_spec (ws := wsL_led) B.pre
  have ht0 : ∀ w ∈ W0, w.before _ s = true := fun w h => hpre w (List.mem_cons_of_mem _ h)
  have hown : s.vm.findClass RL = some m.cls := findClass_of_methodNamed B.named
  have hlocks := B.notSynchronized
  have htab := vx_table (x := yL_led) B (hpre _ List.mem_cons_self)
  subst hsz
  have hD : va_D A ((aO, rJ cy 1 pO) :: wX8_led cy aN qN aH qH qD aH vN vH vD vD_now) := by rw [← hAe]; exact hD0.self
  have hA : ∀ q : Nat, s.heap.size ≤ q → A q := fun q h => by rw [← hAe]; exact Or.inr h
  have hS : va_S A s.heap s.heap [] := va_S.rf
  have hl := lv_entry ([.ref aN, .int x1, .ref aO]) (n := 4) (Nat.le_of_ble_eq_true rfl)
  rw [lg_entry_eq]
  generalize (lg_sl ([.ref aN, .int x1, .ref aO]) ++ List.replicate (4 - (lg_sl ([.ref aN, .int x1, .ref aO])).length) Slot.unset).toArray = ls at hl ⊢
  have hl : lv_has ls 4 [(0, .ref aN), (1, .int x1), (2, .ref aO)] := hl
  refine lv_aload_n hx hb dL_led_0 rfl (lv_at hl 2 rfl) ?_
  refine lv_iconst (v := 0) hx hb dL_led_1 (by decide) ?_
  refine lv_aload_n hx hb dL_led_2 rfl (lv_at hl 0 rfl) ?_
  refine lv_iload_n hx hb dL_led_3 rfl (lv_at hl 1 rfl) ?_
  have hF := va_free (wc := wX8_led cy aN qN aH qH qD aH vN vH vD vD_now) hD hS hA [1, 2, 3, 4] rfl
  have hLc : ∀ U : State, U.heap = s.heap → s.WarmedH U.vm → kPreL D cy sa [.ref aN, .int x1] (wX8_led cy aN qN aH qH qD aH vN vH vD vD_now) s.heap.size (va_A (wX8_led cy aN qN aH qH qD aH vN vH vD vD_now) s.heap.size) ([.ref aN, .int x1] : List Value).toArray U := fun U hU hW => ⟨rfl, kStart hK hN hP hD [1, 2, 3, 4] rfl (by decide) U hU hW, by rw [hU]; exact hLd.at hS hF hW⟩
  refine vx_calli (vx_runV (As := [.int x1]) (rest := [.int 0, .ref aO]) ⟨hx, hb, hml, hown, ht0⟩ (kX8_led l hfl sa D cy _ aN qN aH qH qD vN vH vD vD_now x1 zr hok _ rfl) (cwV 1 ht0 (gV wk1 wk2 wk3 wk4 wk5) rfl rfl rfl (by decide +kernel) ⟨Nat.le_of_ble_eq_true rfl, Nat.le_of_ble_eq_true rfl⟩) ⟨kPreL.blind, va_recv hK hP (ci := 7) (q0 := 1) rfl rfl, hLc⟩ rfl rfl hl.1 rfl (lv_room (Nat.le_of_ble_eq_true rfl)) dL_led_4 ⟨Nat.le_of_ble_eq_true rfl, Nat.le_of_ble_eq_true rfl⟩) hS (fun q _ h => hF q h) hF (fun q _ h => hF q h) (fun E ce q9 u t H1 locs1 ht hvm hpx hBX hz1 hk1 hS1 hc1 hc2 hc3 => ?_) (fun r u t H1 locs1 ht hvm hw hB hz1 hk1 hS1 => ?_)
  · obtain ⟨rfl, hB⟩ := hBX
    subst hpx
    obtain ⟨hP, hD⟩ := kAft (wr := [(aO, rJ cy 1 pO)]) (ws2 := (aO, rJ cy 1 pO) :: wX8_led cy aN qN aH qH qD aH vN vH vD vD_now) hP hD [1, 2, 3, 4] [0] rfl rfl (by decide) (by decide) hF ht hB hk1 [0, 1, 2, 3, 4] (by decide) rfl rfl
    refine vx_catch (own := RL) (name := nse) (E := nse) hown [] ((tableOf [(0, 9, 12, 13)]).head (by decide)) [] htab (fun z hz => nomatch hz) (by decide) (by decide) (ht0 _ wk0) (va_Nw.use rfl (hLd.2.1 (.castable nse nse) (List.mem_of_getElem? (i := 3) rfl))) hc1 hc2 hc3 ?_
    refine lv_astore_n (lv' := [(3, .ref q9), (0, .ref aN), (1, .int x1), (2, .ref aO)]) hx hb dL_led_12 rfl hl (by decide) rfl (fun ls hl => ?_)
    refine lv_iconst (v := 1) hx hb dL_led_13 (by decide) ?_
    exact W.iret hx hb hr (fun t ht hW => ⟨⟨_, (), rfl, rfl, by rw [ht]; exact hP, va_K.moved hW.alike hK, hD⟩, hS1.F ht⟩) hS1.2.2 dL_led_14
  · subst hw
    obtain ⟨hP, hD⟩ := kAft (wr := [(aO, rJ cy 1 pO)]) (ws2 := (aO, rJ cy 1 pO) :: wX8_led cy aN qN aH qH qD aH vN vH vD vD_now) hP hD [1, 2, 3, 4] [0] rfl rfl (by decide) (by decide) hF ht hB hk1 [0, 1, 2, 3, 4] (by decide) rfl rfl
    refine lv_i2l (v := r.toInt64) hx hb dL_led_7 rfl ?_
    refine va_last hx hb hK hP hD hS1 0 2 rfl rfl (okI_in (by decide)) dL_led_8 (fun H locs hP hD hS => ?_)
    refine lv_goto (tgt := 15) hx hb dL_led_9 (by decide) ?_
    refine lv_iconst (v := 0) hx hb dL_led_15 (by decide) ?_
    exact W.iret hx hb hr (fun t ht hW => ⟨⟨_, (), rfl, rfl, by rw [ht]; exact hP, va_K.moved hW.alike hK, hD⟩, hS.F ht⟩) hS.2.2 dL_led_16
