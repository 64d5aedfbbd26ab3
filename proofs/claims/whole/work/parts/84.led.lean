/-! led: what its throw needs of the start; its contract -/
def ledB : List Cond := [.declares (Bundle.initS rte), .declares (Bundle.initS "java/lang/Exception"), .declares (Bundle.initS Bundle.tN), .castable nse nse]
theorem ledIn : ∀ w ∈ ((ledA RX8 307).filter vx_no).filter goodWord, w ∈ lw_tbl := by decide +kernel
theorem ledBad : ∀ w ∈ ((ledA RX8 307).filter vx_no).filter (fun w => !goodWord w), w ∈ ledB := by decide +kernel
theorem ledGood : ∀ w ∈ Cond.classLink RX8 303 nse :: Cond.initialized nse :: (ledA RX8 307).filter vx_no, vx_ot w = true := by decide +kernel
def kLB (U : State) : Prop := ∀ w ∈ ledB, va_Nw w U
theorem kLB.warm {s U : State} (hW : s.WarmedH U.vm) (h : kLB s) : kLB U := by
  intro w hw
  have h0 := h w hw
  simp only [ledB, List.mem_cons, List.not_mem_nil, or_false] at hw
  rcases hw with rfl | rfl | rfl | rfl
  · exact va_Nw.warmD hW h0
  · exact va_Nw.warmD hW h0
  · exact va_Nw.warmD hW h0
  · exact va_Nw.warmC hW h0
theorem kLB.same {u U : State} (hv : u.vm = U.vm) (h : kLB u) : kLB U := fun w hw => va_Nw.same (by simp only [ledB, List.mem_cons, List.not_mem_nil, or_false] at hw; rcases hw with rfl | rfl | rfl | rfl <;> rfl) hv (h w hw)
theorem ledHat {args : Array Value} {s : State} (ht0 : ∀ w ∈ W0, w.before args s = true) (hB : kLB s) : ∀ w ∈ (ledA RX8 307).filter vx_no, w.before args s = true :=
  vx_hat (B := ledB) (fun w hw => ht0 w (List.mem_filter.mpr ⟨ledIn w hw, (List.mem_filter.mp hw).2⟩)) ledBad (fun w hw => va_Nw.use (by simp only [ledB, List.mem_cons, List.not_mem_nil, or_false] at hw; rcases hw with rfl | rfl | rfl | rfl <;> rfl) (hB w hw))
/-- what led's throw needs of the start -/
def kLd (sa : Nat) (A : Nat → Prop) (U : State) (H : Heap) : Prop := vk_R RX8 305 "no such held thing" sa U ∧ kLB U ∧ vx_Zq Bundle.tN "UNASSIGNED_STACK" Bundle.steD A U H ∧ vx_Zq Bundle.tN "SUPPRESSED_SENTINEL" Bundle.listD A U H
theorem kLd.at {sa : Nat} {A B : Nat → Prop} {s U : State} {H : Heap} {locs : List Loc} (h : kLd sa A s s.heap) (hS : va_S A s.heap H locs) (hB : ∀ q, B q → A q) (hW : s.WarmedH U.vm) : kLd sa B U H :=
  ⟨h.1.warm hW, h.2.1.warm hW, ((h.2.2.1.kept hS.2.1).narrow hB).moved hW.alike, ((h.2.2.2.kept hS.2.1).narrow hB).moved hW.alike⟩
abbrev kPreL (D : va_G) (cy : Nat → ClassId) (sa : Nat) (av : List Value) (ws : va_W) (sz : Nat) (A : Nat → Prop) : Array Value → State → Prop := va_Pc av (fun U => kU D cy ws sz U ∧ kLd sa A U U.heap)
theorem kPreL.blind {D : va_G} {cy : Nat → ClassId} {sa : Nat} {av : List Value} {ws : va_W} {sz : Nat} {A : Nat → Prop} : FrameBlind (kPreL D cy sa av ws sz A) := fun a U g mk q => by
  obtain ⟨q0, ⟨q1, qP, qK, qD, qN⟩, qS⟩ := q
  have hA : U.vm.Alike (U.calling g mk a).vm := Vm.Alike.refl U.vm
  exact ⟨q0, ⟨q1, qP, va_K.moved (u := U) (U := U.calling g mk a) hA qK, qD, kN.same (u := U) (U := U.calling g mk a) rfl qN⟩, vk_R.same (u := U) (U := U.calling g mk a) rfl qS.1, kLB.same (u := U) (U := U.calling g mk a) rfl qS.2.1, qS.2.2.1.moved hA, qS.2.2.2.moved hA⟩
theorem wl0 : Cond.classLink RX8 303 nse ∈ W0 := memW (List.mem_append_right _ (List.mem_append_right _ (List.mem_append_right _ (List.mem_append_right _ (List.mem_append_right _ (List.mem_append_right _ (List.mem_append_left _ (List.mem_of_getElem? (i := 7) rfl)))))))) rfl
theorem wl1 : Cond.initialized nse ∈ W0 := memW (List.mem_append_right _ (List.mem_append_left _ (List.mem_of_getElem? (i := 22) rfl))) rfl

def wsX8_led : List Cond := .code yX8_led cX8_led 4 (some .int) :: W0
abbrev wX8_led (cy : Nat → ClassId) (aN : Nat) (qN : Nat → Nat) (aH : Nat) (qH : Nat → Nat) (qD : Nat → Nat) (fvN_5 : Nat) (vN : Nat → Int32) (vH : Nat → Int32) (vD : Nat → Int32) (vD_now : Nat → Int32) : va_W := [(aN, oX8 vN qN fvN_5), (aH, oX4 vH qH), (qN 1, oX1 vD qD), (qD 0, rI cy 9 vD_now)]
def fX8_led_J45 : Option (Option Int32) := (some none)
def fX8_led_J39 (y3_4 : Int32) (y2_39 : Int32) : Option ((Option Int32) ⊕ (Int32 × Int32)) := (some (.inr (y2_39, (y3_4 + 1))))
def fX8_led_B4 (vH : Nat → Int32) (vD : Nat → Int32) (vD_now : Nat → Int32) : (Int32 × Int32) → Option ((Option Int32) ⊕ (Int32 × Int32)) := fun (y2_4, y3_4) => (if (vH 5) ≤ y3_4 then (ex (fX8_led_J45)) else (if y2_4 < 0 then (ex (fX8_led_J45)) else (Option.bind (fX1_isHeld vD vD_now y3_4) fun r24 => (if r24 = 0 then (fX8_led_J39 y3_4 y2_4) else (if y2_4 = 0 then (ex (some (some y3_4))) else (fX8_led_J39 y3_4 (y2_4 + (-1))))))))
def fX8_led (vN : Nat → Int32) (vH : Nat → Int32) (vD : Nat → Int32) (vD_now : Nat → Int32) (x1 : Int32) : Option (Option Int32) := (lp (fX8_led_B4 vH vD vD_now) 5000 (x1, (0 : Int32)))
set_option maxHeartbeats 4000000 in
set_option maxRecDepth 100000 in
theorem kX8_led (l : Launch) (hfl : l.stackTraces = false) (sa : Nat) (D : va_G) (cy : Nat → ClassId) (sz : Nat) (aN : Nat) (qN : Nat → Nat) (aH : Nat) (qH : Nat → Nat) (qD : Nat → Nat) (vN : Nat → Int32) (vH : Nat → Int32) (vD : Nat → Int32) (vD_now : Nat → Int32) (x1 : Int32) (zr : Option Int32) (hok : fX8_led vN vH vD vD_now x1 = some zr) (A : Nat → Prop) (hAe : va_A (wX8_led cy aN qN aH qH qD aH vN vH vD vD_now) sz = A) : vx_Met l yX8_led wsX8_led ({ frames := 6, cells := 1, slots := 6, locals := 90 } : Room) (kPreL D cy sa [.ref aN, .int x1] (wX8_led cy aN qN aH qH qD aH vN vH vD vD_now) sz A) (va_Qi (fun r' (_ : Unit) => zr = some r') (kB D cy A (wX8_led cy aN qN aH qH qD aH vN vH vD vD_now)) A) (vx_X (fun (_ : Unit) => zr = none) (fun E _ t => E = nse ∧ kB D cy A (wX8_led cy aN qN aH qH qD aH vN vH vD vD_now) () t) A) 1 6 A := by
  refine vx_ofW (cc := cX8_led) (maxL := 4) (ret := (some .int)) (by decide) rfl ?_
  intro p e s m args below meth c s₁ B hml hex hv
  obtain ⟨rfl, ⟨hsz, hP, hK, hD0, hN⟩, hLd⟩ := hv
  have hx := B.exec
  have hb := B.bytes
  have hr := B.returns
  have ht0 : ∀ w ∈ W0, w.before _ s = true := fun w h => atoms_spec (ws := wsX8_led) B.pre w (List.mem_cons_of_mem _ h)
  have hown : s.vm.findClass RX8 = some m.cls := findClass_of_methodNamed B.named
  have hlocks := B.notSynchronized
  subst hsz
  have hD : va_D A (wX8_led cy aN qN aH qH qD aH vN vH vD vD_now) := by rw [← hAe]; exact hD0.self
  have hA : ∀ q : Nat, s.heap.size ≤ q → A q := fun q h => by rw [← hAe]; exact Or.inr h
  have hS : va_S A s.heap s.heap [] := va_S.rf
  have hl := lv_entry ([.ref aN, .int x1]) (n := 4) (Nat.le_of_ble_eq_true rfl)
  rw [lg_entry_eq]
  generalize (lg_sl ([.ref aN, .int x1]) ++ List.replicate (4 - (lg_sl ([.ref aN, .int x1])).length) Slot.unset).toArray = ls at hl ⊢
  have hl : lv_has ls 4 [(0, .ref aN), (1, .int x1)] := hl
  generalize hQe : vx_MQ below (va_Qi (fun r' (_ : Unit) => zr = some r') (kB D cy A (wX8_led cy aN qN aH qH qD aH vN vH vD vD_now)) A) (vx_X (fun (_ : Unit) => zr = none) (fun E _ t => E = nse ∧ kB D cy A (wX8_led cy aN qN aH qH qD aH vN vH vD vD_now) () t) A) ([.ref aN, .int x1] : List Value).toArray s 1 6 A = Q
  have J45 : ∀ (H : Heap) (locs : List Loc) (ls : Array Slot), va_P D vwCl (wX8_led cy aN qN aH qH qD aH vN vH vD vD_now) H → va_D A (wX8_led cy aN qN aH qH qD aH vN vH vD vD_now) → va_S A s.heap H locs → lv_has ls 4 [] → fX8_led_J45 = some zr → W p l e ({ frames := 6, cells := 1, slots := 6, locals := 90 } : Room) s m ([.ref aN, .int x1] : List Value).toArray below meth c H locs 0 0 Q (F0 m 45 ls []) := by
    intro  H locs ls hP hD hS hl hok
    unfold fX8_led_J45 at hok
    cases hok
    subst hQe; exact ledRow (A := A) hx hb hfl hown (ht0 _ wl0) (ht0 _ wl1) hLd.1 (ledHat ht0 hLd.2.1) ledGood hLd.2.2.1 hLd.2.2.2 hS (hl.1.trans hml.symm) dX8_led_45 dX8_led_48 dX8_led_49 dX8_led_52 dX8_led_55 (fun x hx => (hex x hx).elim) (by decide) (by decide) (by decide) (by decide) hlocks (fun t hv h1 h2 => ⟨(), rfl, ⟨rfl, hP.kept (fun k x hx => h2 x.1 ((hP k x hx).lt)), va_K.moved hv hK, hD⟩, Nat.le_trans hS.1 h1, fun q hq ha => (h2 q (Nat.lt_of_lt_of_le hq hS.1)).trans (hS.2.1 q hq ha)⟩) hS.2.2 (by decide) (by decide)
  have L4 : ∀ (fuel : Nat) (y2_4 : Int32) (y3_4 : Int32), ∀ (H : Heap) (locs : List Loc) (ls : Array Slot), va_P D vwCl (wX8_led cy aN qN aH qH qD aH vN vH vD vD_now) H → va_D A (wX8_led cy aN qN aH qH qD aH vN vH vD vD_now) → va_S A s.heap H locs → lv_has ls 4 [(0, .ref aN), (2, .int y2_4), (3, .int y3_4)] → lp (fX8_led_B4 vH vD vD_now) fuel (y2_4, y3_4) = some zr → W p l e ({ frames := 6, cells := 1, slots := 6, locals := 90 } : Room) s m ([.ref aN, .int x1] : List Value).toArray below meth c H locs 0 0 Q (F0 m 4 ls []) := by
    intro fuel
    induction fuel with
    | zero => intro y2_4 y3_4 H locs ls hP hD hS hl hok; exact (lp_0 hok).elim
    | succ fuel ih4 =>
      intro y2_4 y3_4 H locs ls hP hD hS hl hok
      obtain ⟨y4, hok, hL4, hR4⟩ := lp_step hok
      have J39 : ∀ (y2_39 : Int32), ∀ (H : Heap) (locs : List Loc) (ls : Array Slot), va_P D vwCl (wX8_led cy aN qN aH qH qD aH vN vH vD vD_now) H → va_D A (wX8_led cy aN qN aH qH qD aH vN vH vD vD_now) → va_S A s.heap H locs → lv_has ls 4 [(0, .ref aN), (2, .int y2_39), (3, .int y3_4)] → fX8_led_J39 y3_4 y2_39 = some y4 → W p l e ({ frames := 6, cells := 1, slots := 6, locals := 90 } : Room) s m ([.ref aN, .int x1] : List Value).toArray below meth c H locs 0 0 Q (F0 m 39 ls []) := by
        intro y2_39 H locs ls hP hD hS hl hok
        unfold fX8_led_J39 at hok
        refine lv_iinc (v := (y3_4 + 1)) (lv' := [(3, .int (y3_4 + 1)), (0, .ref aN), (2, .int y2_39)]) hx hb dX8_led_39 hl (k := 2) rfl (by first | rfl | decide) (by decide) rfl (fun ls hl => ?_)
        refine lv_goto (tgt := 4) hx hb dX8_led_42 (by decide) ?_
        exact ih4 y2_39 (y3_4 + 1) H locs ls hP hD hS (lv_sub hl [1, 2, 0] rfl) (hR4 _ (Option.some.inj hok).symm)
      unfold fX8_led_B4 at hok
      try dsimp only at hok
      refine lv_iload_n hx hb dX8_led_4 rfl (lv_at hl 2 rfl) ?_
      refine lv_aload_n hx hb dX8_led_5 rfl (lv_at hl 0 rfl) ?_
      refine va_get (D := D) (ci := 7) (v := .ref aH) (C := RX8) (T := TX8) (N := 9) hx hb ht0 niX8 hown hK hP 0 rfl rfl 5 (by decide) (ht0 _ wd522) (fun _ h9 => h9) rfl dX8_led_6 ?_
      refine va_get (D := D) (ci := 3) (v := .int (vH 5)) (C := RX4) (T := TX4) (N := 20) hx hb ht0 niX4 hown hK hP 1 rfl rfl 5 (by decide) (ht0 _ wd543) (fun _ h9 => h9) rfl dX8_led_9 ?_
      refine lv_icmp_ge (tgt := 45) hx hb dX8_led_12 (by decide) (fun c12 => ?_) (fun c12 => ?_)
      · have hok := k_pos c12 hok
        obtain ⟨e4, hok, he4⟩ := ex_some hok
        have hok := hok.trans (congrArg some (hL4 _ he4))
        exact J45  H locs ls hP hD hS (lv_sub hl [] rfl) hok
      · have hok := k_neg c12 hok
        refine lv_iload_n hx hb dX8_led_15 rfl (lv_at hl 1 rfl) ?_
        refine lv_if_lt (tgt := 45) hx hb dX8_led_16 (by decide) (fun c16 => ?_) (fun c16 => ?_)
        · have hok := k_pos c16 hok
          obtain ⟨e4, hok, he4⟩ := ex_some hok
          have hok := hok.trans (congrArg some (hL4 _ he4))
          exact J45  H locs ls hP hD hS (lv_sub hl [] rfl) hok
        · have hok := k_neg c16 hok
          refine lv_aload_n hx hb dX8_led_19 rfl (lv_at hl 0 rfl) ?_
          refine va_get (D := D) (ci := 7) (v := .ref (qN 1)) (C := RX8) (T := TX8) (N := 9) hx hb ht0 niX8 hown hK hP 0 rfl rfl 1 (by decide) (ht0 _ wd527) (fun _ h9 => h9) rfl dX8_led_20 ?_
          refine lv_iload_n hx hb dX8_led_23 rfl (lv_at hl 2 rfl) ?_
          obtain ⟨r24, hc24, hok⟩ := k_bind hok
          refine kCi (wc := (wX1_isHeld cy (qN 1) qD vD vD_now)) (wc2 := (wX1_isHeld cy (qN 1) qD vD vD_now)) (wr := [(aN, oX8 vN qN aH), (aH, oX4 vH qH)]) (ws2 := (wX8_led cy aN qN aH qH qD aH vN vH vD vD_now)) (kRunV (As := [.int y3_4]) (rest := []) ⟨hx, hb, hml, hown, ht0⟩ (kX1_isHeld l D cy _ (qN 1) qD vD vD_now y3_4 r24 hc24 _ rfl) (cwV 1 ht0 (gV wd565 wd72 wd73 wd74 wd75) rfl rfl rfl (by decide +kernel) ⟨Nat.le_of_ble_eq_true rfl, Nat.le_of_ble_eq_true rfl⟩) hK hN hP hD [2, 3] rfl (by decide) 2 1 rfl rfl rfl hl.1 rfl (Nat.le_of_ble_eq_true rfl) dX8_led_24 ⟨Nat.zero_le _, Nat.zero_le _⟩) hP hD hS hA [2, 3] [0, 1] rfl rfl (by decide) (by decide) [0, 1, 2, 3] (by decide) rfl rfl (fun H locs hP hD hS => ?_)
          refine lv_if_eq (tgt := 39) hx hb dX8_led_27 (by decide) (fun c27 => ?_) (fun c27 => ?_)
          · have hok := k_pos c27 hok
            exact J39 y2_4 H locs ls hP hD hS (lv_sub hl [0, 1, 2] rfl) hok
          · have hok := k_neg c27 hok
            refine lv_iload_n hx hb dX8_led_30 rfl (lv_at hl 1 rfl) ?_
            refine lv_if_ne (tgt := 36) hx hb dX8_led_31 (by decide) (fun c31 => ?_) (fun c31 => ?_)
            · have hok := k_neg c31 hok
              refine lv_iinc (v := (y2_4 + (-1))) (lv' := [(2, .int (y2_4 + (-1))), (0, .ref aN), (3, .int y3_4)]) hx hb dX8_led_36 hl (k := 1) rfl (by first | rfl | decide) (by decide) rfl (fun ls hl => ?_)
              exact J39 (y2_4 + (-1)) H locs ls hP hD hS (lv_sub hl [1, 0, 2] rfl) hok
            · have hok := k_pos c31 hok
              obtain ⟨e4, hok, he4⟩ := ex_some hok
              have hok := hok.trans (congrArg some (hL4 _ he4))
              refine lv_iload_n hx hb dX8_led_34 rfl (lv_at hl 2 rfl) ?_
              cases hok
              subst hQe; exact vx_ret (W.widen (k := 1) (n := 6) (by decide) (by decide) (W.iret hx hb hr (fun t ht hW => ⟨⟨_, (), rfl, rfl, by rw [ht]; exact hP, va_K.moved hW.alike hK, hD⟩, hS.F ht⟩) hS.2.2 dX8_led_35))
  unfold fX8_led at hok
  obtain ⟨H, hH⟩ : ∃ H, H = s.heap := ⟨_, rfl⟩
  obtain ⟨locs, hlc⟩ : ∃ x : List Loc, x = [] := ⟨_, rfl⟩
  have hP : va_P D vwCl (wX8_led cy aN qN aH qH qD aH vN vH vD vD_now) H := by rw [hH]; exact hP
  have hS : va_S A s.heap H locs := by rw [hH, hlc]; exact hS
  rw [show W p l e _ s m _ below meth c s.heap [] = W p l e _ s m _ below meth c H locs from by rw [hH, hlc]]
  refine lv_iload_n hx hb dX8_led_0 rfl (lv_at hl 1 rfl) ?_
  refine lv_istore_n (lv' := [(2, .int x1), (0, .ref aN), (1, .int x1)]) hx hb dX8_led_1 rfl hl (by decide) rfl (fun ls hl => ?_)
  refine lv_iconst (v := 0) hx hb dX8_led_2 (by decide) ?_
  refine lv_istore_n (lv' := [(3, .int 0), (2, .int x1), (0, .ref aN), (1, .int x1)]) hx hb dX8_led_3 rfl hl (by decide) rfl (fun ls hl => ?_)
  exact L4 5000 x1 (0 : Int32) H locs ls hP hD hS (lv_sub hl [2, 1, 0] rfl) hok
