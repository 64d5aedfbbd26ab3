def wsX8_size : List Cond := .code yX8_size cX8_size 2 (some .int) :: W0
abbrev wX8_size (cy : Nat → ClassId) (aN : Nat) (qN : Nat → Nat) (aH : Nat) (qH : Nat → Nat) (qU : Nat → Nat) (qD : Nat → Nat) (qR : Nat → Nat) (aH0 : Nat) (vN : Nat → Int32) (vH : Nat → Int32) (vH_places : Nat → Int32) (vU : Nat → Int32) (vD : Nat → Int32) (vD_now : Nat → Int32) (vR_j11 : Int64) (vR : Nat → Int32) : va_W := [(aN, oX8 vN qN aH), (aH, oX4 vH qH), (qH 9, rI cy 4 vH_places), (qH 7, oX7 vU qU), (qN 1, oX1 vD qD), (qD 0, rI cy 9 vD_now), (qN 0, oX5 vR qR vR_j11 aH0)]
set_option maxHeartbeats 4000000 in
set_option maxRecDepth 100000 in
theorem kX8_size (l : Launch) (D : va_G) (cy : Nat → ClassId) (sz : Nat) (aN : Nat) (qN : Nat → Nat) (aH : Nat) (qH : Nat → Nat) (qU : Nat → Nat) (qD : Nat → Nat) (qR : Nat → Nat) (aH0 : Nat) (vN : Nat → Int32) (vH : Nat → Int32) (vH_places : Nat → Int32) (vU : Nat → Int32) (vD : Nat → Int32) (vD_now : Nat → Int32) (vR_j11 : Int64) (vR : Nat → Int32) (x1 : Int32) (zr : Int32) (hok : fX8_size vN vH vH_places vU vD vD_now vR_j11 vR x1 = some zr) (A : Nat → Prop) (hAe : va_A (wX8_size cy aN qN aH qH qU qD qR aH0 vN vH vH_places vU vD vD_now vR_j11 vR) sz = A) : Met l yX8_size wsX8_size ({ frames := 3, cells := 0, slots := 0, locals := 64 } : Room) (kPre D cy [.ref aN, .int x1] (wX8_size cy aN qN aH qH qU qD qR aH0 vN vH vH_places vU vD vD_now vR_j11 vR) sz) (kQi D cy zr A (wX8_size cy aN qN aH qH qU qD qR aH0 vN vH vH_places vU vD vD_now vR_j11 vR)) 0 0 A := by
  refine Met.ofW (cc := cX8_size) (maxL := 2) (ret := (some .int)) (by decide) rfl ?_
  intro p e s m args below meth c s₁ B hml hv
  obtain ⟨rfl, hsz, hP, hK, hD0, hN⟩ := hv
  have hx := B.exec
  have hb := B.bytes
  have hr := B.returns
  have ht0 : ∀ w ∈ W0, w.before _ s = true := fun w h => atoms_spec (ws := wsX8_size) B.pre w (List.mem_cons_of_mem _ h)
  have hown : s.vm.findClass RX8 = some m.cls := findClass_of_methodNamed B.named
  have hlocks := B.notSynchronized
  subst hsz
  have hD : va_D A (wX8_size cy aN qN aH qH qU qD qR aH0 vN vH vH_places vU vD vD_now vR_j11 vR) := by rw [← hAe]; exact hD0.self
  have hA : ∀ q : Nat, s.heap.size ≤ q → A q := fun q h => by rw [← hAe]; exact Or.inr h
  have hS : va_S A s.heap s.heap [] := va_S.rf
  have hl := lv_entry ([.ref aN, .int x1]) (n := 2) (Nat.le_of_ble_eq_true rfl)
  rw [lg_entry_eq]
  generalize (lg_sl ([.ref aN, .int x1]) ++ List.replicate (2 - (lg_sl ([.ref aN, .int x1])).length) Slot.unset).toArray = ls at hl ⊢
  have hl : lv_has ls 2 [(0, .ref aN), (1, .int x1)] := hl
  unfold fX8_size at hok
  obtain ⟨H, hH⟩ : ∃ H, H = s.heap := ⟨_, rfl⟩
  obtain ⟨locs, hlc⟩ : ∃ x : List Loc, x = [] := ⟨_, rfl⟩
  have hP : va_P D vwCl (wX8_size cy aN qN aH qH qU qD qR aH0 vN vH vH_places vU vD vD_now vR_j11 vR) H := by rw [hH]; exact hP
  have hS : va_S A s.heap H locs := by rw [hH, hlc]; exact hS
  rw [show W p l e _ s m _ below meth c s.heap [] = W p l e _ s m _ below meth c H locs from by rw [hH, hlc]]
  refine lv_iload_n hx hb dX8_size_0 rfl (lv_at hl 1 rfl) ?_
  by_cases c1_0 : x1 = 0
  · have hok := k_pos c1_0 hok
    refine lv_tableIn (tgt := 68) (off := 67) hx hb dX8_size_1 (by rw [c1_0]; decide) (by rw [c1_0]; decide) (by rw [c1_0]; decide) (by decide) ?_
    refine lv_aload_n hx hb dX8_size_68 rfl (lv_at hl 0 rfl) ?_
    refine va_get (D := D) (ci := 7) (v := .ref aH) (C := RX8) (T := TX8) (N := 9) hx hb ht0 niX8 hown hK hP 0 rfl rfl 5 (by decide) (ht0 _ wd522) (fun _ h9 => h9) rfl dX8_size_69 ?_
    refine va_get (D := D) (ci := 3) (v := .int (vH 0)) (C := RX4) (T := TX4) (N := 20) hx hb ht0 niX4 hown hK hP 1 rfl rfl 0 (by decide) (ht0 _ wd717) (fun _ h9 => h9) rfl dX8_size_72 ?_
    cases hok
    exact W.iret hx hb hr (fun t ht hW => ⟨⟨_, (), rfl, rfl, by rw [ht]; exact hP, va_K.moved hW.alike hK, hD⟩, hS.F ht⟩) hS.2.2 dX8_size_75
  have hok := k_neg c1_0 hok
  by_cases c1_1 : x1 = 1
  · have hok := k_pos c1_1 hok
    refine lv_tableIn (tgt := 76) (off := 75) hx hb dX8_size_1 (by rw [c1_1]; decide) (by rw [c1_1]; decide) (by rw [c1_1]; decide) (by decide) ?_
    refine lv_aload_n hx hb dX8_size_76 rfl (lv_at hl 0 rfl) ?_
    refine va_get (D := D) (ci := 7) (v := .ref aH) (C := RX8) (T := TX8) (N := 9) hx hb ht0 niX8 hown hK hP 0 rfl rfl 5 (by decide) (ht0 _ wd522) (fun _ h9 => h9) rfl dX8_size_77 ?_
    refine va_get (D := D) (ci := 3) (v := .int (vH 1)) (C := RX4) (T := TX4) (N := 20) hx hb ht0 niX4 hown hK hP 1 rfl rfl 1 (by decide) (ht0 _ wd718) (fun _ h9 => h9) rfl dX8_size_80 ?_
    cases hok
    exact W.iret hx hb hr (fun t ht hW => ⟨⟨_, (), rfl, rfl, by rw [ht]; exact hP, va_K.moved hW.alike hK, hD⟩, hS.F ht⟩) hS.2.2 dX8_size_83
  have hok := k_neg c1_1 hok
  by_cases c1_2 : x1 = 2
  · have hok := k_pos c1_2 hok
    refine lv_tableIn (tgt := 84) (off := 83) hx hb dX8_size_1 (by rw [c1_2]; decide) (by rw [c1_2]; decide) (by rw [c1_2]; decide) (by decide) ?_
    refine lv_aload_n hx hb dX8_size_84 rfl (lv_at hl 0 rfl) ?_
    refine va_get (D := D) (ci := 7) (v := .ref aH) (C := RX8) (T := TX8) (N := 9) hx hb ht0 niX8 hown hK hP 0 rfl rfl 5 (by decide) (ht0 _ wd522) (fun _ h9 => h9) rfl dX8_size_85 ?_
    refine va_get (D := D) (ci := 3) (v := .int (vH 2)) (C := RX4) (T := TX4) (N := 20) hx hb ht0 niX4 hown hK hP 1 rfl rfl 2 (by decide) (ht0 _ wd537) (fun _ h9 => h9) rfl dX8_size_88 ?_
    cases hok
    exact W.iret hx hb hr (fun t ht hW => ⟨⟨_, (), rfl, rfl, by rw [ht]; exact hP, va_K.moved hW.alike hK, hD⟩, hS.F ht⟩) hS.2.2 dX8_size_91
  have hok := k_neg c1_2 hok
  by_cases c1_3 : x1 = 3
  · have hok := k_pos c1_3 hok
    refine lv_tableIn (tgt := 92) (off := 91) hx hb dX8_size_1 (by rw [c1_3]; decide) (by rw [c1_3]; decide) (by rw [c1_3]; decide) (by decide) ?_
    refine lv_aload_n hx hb dX8_size_92 rfl (lv_at hl 0 rfl) ?_
    refine va_get (D := D) (ci := 7) (v := .ref aH) (C := RX8) (T := TX8) (N := 9) hx hb ht0 niX8 hown hK hP 0 rfl rfl 5 (by decide) (ht0 _ wd522) (fun _ h9 => h9) rfl dX8_size_93 ?_
    obtain ⟨r96, hc96, hok⟩ := k_bind hok
    refine kCi (wc := (wX4_placesOfAll cy aH qH vH vH_places)) (wc2 := (wX4_placesOfAll cy aH qH vH vH_places)) (wr := [(aN, oX8 vN qN aH), (qH 7, oX7 vU qU), (qN 1, oX1 vD qD), (qD 0, rI cy 9 vD_now), (qN 0, oX5 vR qR vR_j11 aH0)]) (ws2 := (wX8_size cy aN qN aH qH qU qD qR aH0 vN vH vH_places vU vD vD_now vR_j11 vR)) (kRunV (As := []) (rest := []) ⟨hx, hb, hml, hown, ht0⟩ (kX4_placesOfAll l D cy _ aH qH vH vH_places r96 hc96 _ rfl) (cwV 0 ht0 (gV wd719 wd720 wd721 wd9 wd722) rfl rfl rfl (by decide +kernel) ⟨Nat.le_of_ble_eq_true rfl, Nat.le_of_ble_eq_true rfl⟩) hK hN hP hD [1, 2] rfl (by decide) 1 3 rfl rfl rfl hl.1 rfl (Nat.le_of_ble_eq_true rfl) dX8_size_96 ⟨Nat.zero_le _, Nat.zero_le _⟩) hP hD hS hA [1, 2] [0, 3, 4, 5, 6] rfl rfl (by decide) (by decide) [0, 5, 6, 1, 2, 3, 4] (by decide) rfl rfl (fun H locs hP hD hS => ?_)
    cases hok
    exact W.iret hx hb hr (fun t ht hW => ⟨⟨_, (), rfl, rfl, by rw [ht]; exact hP, va_K.moved hW.alike hK, hD⟩, hS.F ht⟩) hS.2.2 dX8_size_99
  have hok := k_neg c1_3 hok
  by_cases c1_4 : x1 = 4
  · have hok := k_pos c1_4 hok
    refine lv_tableIn (tgt := 100) (off := 99) hx hb dX8_size_1 (by rw [c1_4]; decide) (by rw [c1_4]; decide) (by rw [c1_4]; decide) (by decide) ?_
    refine lv_aload_n hx hb dX8_size_100 rfl (lv_at hl 0 rfl) ?_
    refine va_get (D := D) (ci := 7) (v := .ref aH) (C := RX8) (T := TX8) (N := 9) hx hb ht0 niX8 hown hK hP 0 rfl rfl 5 (by decide) (ht0 _ wd522) (fun _ h9 => h9) rfl dX8_size_101 ?_
    refine va_get (D := D) (ci := 3) (v := .int (vH 5)) (C := RX4) (T := TX4) (N := 20) hx hb ht0 niX4 hown hK hP 1 rfl rfl 5 (by decide) (ht0 _ wd543) (fun _ h9 => h9) rfl dX8_size_104 ?_
    cases hok
    exact W.iret hx hb hr (fun t ht hW => ⟨⟨_, (), rfl, rfl, by rw [ht]; exact hP, va_K.moved hW.alike hK, hD⟩, hS.F ht⟩) hS.2.2 dX8_size_107
  have hok := k_neg c1_4 hok
  by_cases c1_5 : x1 = 5
  · have hok := k_pos c1_5 hok
    refine lv_tableIn (tgt := 108) (off := 107) hx hb dX8_size_1 (by rw [c1_5]; decide) (by rw [c1_5]; decide) (by rw [c1_5]; decide) (by decide) ?_
    refine lv_aload_n hx hb dX8_size_108 rfl (lv_at hl 0 rfl) ?_
    refine va_get (D := D) (ci := 7) (v := .ref aH) (C := RX8) (T := TX8) (N := 9) hx hb ht0 niX8 hown hK hP 0 rfl rfl 5 (by decide) (ht0 _ wd522) (fun _ h9 => h9) rfl dX8_size_109 ?_
    refine va_get (D := D) (ci := 3) (v := .int (vH 3)) (C := RX4) (T := TX4) (N := 20) hx hb ht0 niX4 hown hK hP 1 rfl rfl 3 (by decide) (ht0 _ wd723) (fun _ h9 => h9) rfl dX8_size_112 ?_
    cases hok
    exact W.iret hx hb hr (fun t ht hW => ⟨⟨_, (), rfl, rfl, by rw [ht]; exact hP, va_K.moved hW.alike hK, hD⟩, hS.F ht⟩) hS.2.2 dX8_size_115
  have hok := k_neg c1_5 hok
  by_cases c1_6 : x1 = 6
  · have hok := k_pos c1_6 hok
    refine lv_tableIn (tgt := 116) (off := 115) hx hb dX8_size_1 (by rw [c1_6]; decide) (by rw [c1_6]; decide) (by rw [c1_6]; decide) (by decide) ?_
    refine lv_aload_n hx hb dX8_size_116 rfl (lv_at hl 0 rfl) ?_
    refine va_get (D := D) (ci := 7) (v := .ref aH) (C := RX8) (T := TX8) (N := 9) hx hb ht0 niX8 hown hK hP 0 rfl rfl 5 (by decide) (ht0 _ wd522) (fun _ h9 => h9) rfl dX8_size_117 ?_
    refine va_get (D := D) (ci := 3) (v := .int (vH 4)) (C := RX4) (T := TX4) (N := 20) hx hb ht0 niX4 hown hK hP 1 rfl rfl 4 (by decide) (ht0 _ wd724) (fun _ h9 => h9) rfl dX8_size_120 ?_
    cases hok
    exact W.iret hx hb hr (fun t ht hW => ⟨⟨_, (), rfl, rfl, by rw [ht]; exact hP, va_K.moved hW.alike hK, hD⟩, hS.F ht⟩) hS.2.2 dX8_size_123
  have hok := k_neg c1_6 hok
  by_cases c1_7 : x1 = 7
  · have hok := k_pos c1_7 hok
    refine lv_tableIn (tgt := 124) (off := 123) hx hb dX8_size_1 (by rw [c1_7]; decide) (by rw [c1_7]; decide) (by rw [c1_7]; decide) (by decide) ?_
    refine lv_aload_n hx hb dX8_size_124 rfl (lv_at hl 0 rfl) ?_
    refine va_get (D := D) (ci := 7) (v := .ref aH) (C := RX8) (T := TX8) (N := 9) hx hb ht0 niX8 hown hK hP 0 rfl rfl 5 (by decide) (ht0 _ wd522) (fun _ h9 => h9) rfl dX8_size_125 ?_
    refine va_get (D := D) (ci := 3) (v := .ref (qH 7)) (C := RX4) (T := TX4) (N := 20) hx hb ht0 niX4 hown hK hP 1 rfl rfl 7 (by decide) (ht0 _ wd633) (fun _ h9 => h9) rfl dX8_size_128 ?_
    obtain ⟨r131, hc131, hok⟩ := k_bind hok
    refine kCi (wc := (wX7_count cy (qH 7) qU vU)) (wc2 := (wX7_count cy (qH 7) qU vU)) (wr := [(aN, oX8 vN qN aH), (aH, oX4 vH qH), (qH 9, rI cy 4 vH_places), (qN 1, oX1 vD qD), (qD 0, rI cy 9 vD_now), (qN 0, oX5 vR qR vR_j11 aH0)]) (ws2 := (wX8_size cy aN qN aH qH qU qD qR aH0 vN vH vH_places vU vD vD_now vR_j11 vR)) (kRunV (As := []) (rest := []) ⟨hx, hb, hml, hown, ht0⟩ (kX7_count l D cy _ (qH 7) qU vU r131 hc131 _ rfl) (cwV 0 ht0 (gV wd725 wd354 wd355 wd218 wd356) rfl rfl rfl (by decide +kernel) ⟨Nat.le_of_ble_eq_true rfl, Nat.le_of_ble_eq_true rfl⟩) hK hN hP hD [3] rfl (by decide) 3 6 rfl rfl rfl hl.1 rfl (Nat.le_of_ble_eq_true rfl) dX8_size_131 ⟨Nat.zero_le _, Nat.zero_le _⟩) hP hD hS hA [3] [0, 1, 2, 4, 5, 6] rfl rfl (by decide) (by decide) [0, 1, 2, 6, 3, 4, 5] (by decide) rfl rfl (fun H locs hP hD hS => ?_)
    cases hok
    exact W.iret hx hb hr (fun t ht hW => ⟨⟨_, (), rfl, rfl, by rw [ht]; exact hP, va_K.moved hW.alike hK, hD⟩, hS.F ht⟩) hS.2.2 dX8_size_134
  have hok := k_neg c1_7 hok
  by_cases c1_8 : x1 = 8
  · have hok := k_pos c1_8 hok
    refine lv_tableIn (tgt := 135) (off := 134) hx hb dX8_size_1 (by rw [c1_8]; decide) (by rw [c1_8]; decide) (by rw [c1_8]; decide) (by decide) ?_
    refine lv_aload_n hx hb dX8_size_135 rfl (lv_at hl 0 rfl) ?_
    refine va_get (D := D) (ci := 7) (v := .ref aH) (C := RX8) (T := TX8) (N := 9) hx hb ht0 niX8 hown hK hP 0 rfl rfl 5 (by decide) (ht0 _ wd522) (fun _ h9 => h9) rfl dX8_size_136 ?_
    refine va_get (D := D) (ci := 3) (v := .int (vH 6)) (C := RX4) (T := TX4) (N := 20) hx hb ht0 niX4 hown hK hP 1 rfl rfl 6 (by decide) (ht0 _ wd726) (fun _ h9 => h9) rfl dX8_size_139 ?_
    cases hok
    exact W.iret hx hb hr (fun t ht hW => ⟨⟨_, (), rfl, rfl, by rw [ht]; exact hP, va_K.moved hW.alike hK, hD⟩, hS.F ht⟩) hS.2.2 dX8_size_142
  have hok := k_neg c1_8 hok
  by_cases c1_9 : x1 = 9
  · have hok := k_pos c1_9 hok
    refine lv_tableIn (tgt := 143) (off := 142) hx hb dX8_size_1 (by rw [c1_9]; decide) (by rw [c1_9]; decide) (by rw [c1_9]; decide) (by decide) ?_
    refine lv_aload_n hx hb dX8_size_143 rfl (lv_at hl 0 rfl) ?_
    refine va_get (D := D) (ci := 7) (v := .ref (qN 1)) (C := RX8) (T := TX8) (N := 9) hx hb ht0 niX8 hown hK hP 0 rfl rfl 1 (by decide) (ht0 _ wd527) (fun _ h9 => h9) rfl dX8_size_144 ?_
    obtain ⟨r147, hc147, hok⟩ := k_bind hok
    refine kCi (wc := (wX1_nightNow cy (qN 1) qD vD vD_now)) (wc2 := (wX1_nightNow cy (qN 1) qD vD vD_now)) (wr := [(aN, oX8 vN qN aH), (aH, oX4 vH qH), (qH 9, rI cy 4 vH_places), (qH 7, oX7 vU qU), (qN 0, oX5 vR qR vR_j11 aH0)]) (ws2 := (wX8_size cy aN qN aH qH qU qD qR aH0 vN vH vH_places vU vD vD_now vR_j11 vR)) (kRunV (As := []) (rest := []) ⟨hx, hb, hml, hown, ht0⟩ (kX1_nightNow l D cy _ (qN 1) qD vD vD_now r147 hc147 _ rfl) (cwV 0 ht0 (gV wd704 wd117 wd118 wd74 wd119) rfl rfl rfl (by decide +kernel) ⟨Nat.le_of_ble_eq_true rfl, Nat.le_of_ble_eq_true rfl⟩) hK hN hP hD [4, 5] rfl (by decide) 4 1 rfl rfl rfl hl.1 rfl (Nat.le_of_ble_eq_true rfl) dX8_size_147 ⟨Nat.zero_le _, Nat.zero_le _⟩) hP hD hS hA [4, 5] [0, 1, 2, 3, 6] rfl rfl (by decide) (by decide) [0, 1, 2, 3, 5, 6, 4] (by decide) rfl rfl (fun H locs hP hD hS => ?_)
    cases hok
    exact W.iret hx hb hr (fun t ht hW => ⟨⟨_, (), rfl, rfl, by rw [ht]; exact hP, va_K.moved hW.alike hK, hD⟩, hS.F ht⟩) hS.2.2 dX8_size_150
  have hok := k_neg c1_9 hok
  by_cases c1_10 : x1 = 10
  · have hok := k_pos c1_10 hok
    refine lv_tableIn (tgt := 151) (off := 150) hx hb dX8_size_1 (by rw [c1_10]; decide) (by rw [c1_10]; decide) (by rw [c1_10]; decide) (by decide) ?_
    refine lv_aload_n hx hb dX8_size_151 rfl (lv_at hl 0 rfl) ?_
    refine va_get (D := D) (ci := 7) (v := .ref (qN 1)) (C := RX8) (T := TX8) (N := 9) hx hb ht0 niX8 hown hK hP 0 rfl rfl 1 (by decide) (ht0 _ wd527) (fun _ h9 => h9) rfl dX8_size_152 ?_
    obtain ⟨r155, hc155, hok⟩ := k_bind hok
    refine kCi (wc := (wX1_countKept cy (qN 1) qD vD)) (wc2 := (wX1_countKept cy (qN 1) qD vD)) (wr := [(aN, oX8 vN qN aH), (aH, oX4 vH qH), (qH 9, rI cy 4 vH_places), (qH 7, oX7 vU qU), (qD 0, rI cy 9 vD_now), (qN 0, oX5 vR qR vR_j11 aH0)]) (ws2 := (wX8_size cy aN qN aH qH qU qD qR aH0 vN vH vH_places vU vD vD_now vR_j11 vR)) (kRunV (As := []) (rest := []) ⟨hx, hb, hml, hown, ht0⟩ (kX1_countKept l D cy _ (qN 1) qD vD r155 hc155 _ rfl) (cwV 0 ht0 (gV wd727 wd728 wd729 wd74 wd730) rfl rfl rfl (by decide +kernel) ⟨Nat.le_of_ble_eq_true rfl, Nat.le_of_ble_eq_true rfl⟩) hK hN hP hD [4] rfl (by decide) 4 1 rfl rfl rfl hl.1 rfl (Nat.le_of_ble_eq_true rfl) dX8_size_155 ⟨Nat.zero_le _, Nat.zero_le _⟩) hP hD hS hA [4] [0, 1, 2, 3, 5, 6] rfl rfl (by decide) (by decide) [0, 1, 2, 3, 6, 4, 5] (by decide) rfl rfl (fun H locs hP hD hS => ?_)
    cases hok
    exact W.iret hx hb hr (fun t ht hW => ⟨⟨_, (), rfl, rfl, by rw [ht]; exact hP, va_K.moved hW.alike hK, hD⟩, hS.F ht⟩) hS.2.2 dX8_size_158
  have hok := k_neg c1_10 hok
  by_cases c1_11 : x1 = 11
  · have hok := k_pos c1_11 hok
    refine lv_tableIn (tgt := 159) (off := 158) hx hb dX8_size_1 (by rw [c1_11]; decide) (by rw [c1_11]; decide) (by rw [c1_11]; decide) (by decide) ?_
    refine lv_aload_n hx hb dX8_size_159 rfl (lv_at hl 0 rfl) ?_
    refine va_get (D := D) (ci := 7) (v := .ref (qN 1)) (C := RX8) (T := TX8) (N := 9) hx hb ht0 niX8 hown hK hP 0 rfl rfl 1 (by decide) (ht0 _ wd527) (fun _ h9 => h9) rfl dX8_size_160 ?_
    obtain ⟨r163, hc163, hok⟩ := k_bind hok
    refine kCi (wc := (wX1_countImages cy (qN 1) qD vD)) (wc2 := (wX1_countImages cy (qN 1) qD vD)) (wr := [(aN, oX8 vN qN aH), (aH, oX4 vH qH), (qH 9, rI cy 4 vH_places), (qH 7, oX7 vU qU), (qD 0, rI cy 9 vD_now), (qN 0, oX5 vR qR vR_j11 aH0)]) (ws2 := (wX8_size cy aN qN aH qH qU qD qR aH0 vN vH vH_places vU vD vD_now vR_j11 vR)) (kRunV (As := []) (rest := []) ⟨hx, hb, hml, hown, ht0⟩ (kX1_countImages l D cy _ (qN 1) qD vD r163 hc163 _ rfl) (cwV 0 ht0 (gV wd731 wd732 wd733 wd74 wd734) rfl rfl rfl (by decide +kernel) ⟨Nat.le_of_ble_eq_true rfl, Nat.le_of_ble_eq_true rfl⟩) hK hN hP hD [4] rfl (by decide) 4 1 rfl rfl rfl hl.1 rfl (Nat.le_of_ble_eq_true rfl) dX8_size_163 ⟨Nat.zero_le _, Nat.zero_le _⟩) hP hD hS hA [4] [0, 1, 2, 3, 5, 6] rfl rfl (by decide) (by decide) [0, 1, 2, 3, 6, 4, 5] (by decide) rfl rfl (fun H locs hP hD hS => ?_)
    cases hok
    exact W.iret hx hb hr (fun t ht hW => ⟨⟨_, (), rfl, rfl, by rw [ht]; exact hP, va_K.moved hW.alike hK, hD⟩, hS.F ht⟩) hS.2.2 dX8_size_166
  have hok := k_neg c1_11 hok
  by_cases c1_12 : x1 = 12
  · have hok := k_pos c1_12 hok
    refine lv_tableIn (tgt := 167) (off := 166) hx hb dX8_size_1 (by rw [c1_12]; decide) (by rw [c1_12]; decide) (by rw [c1_12]; decide) (by decide) ?_
    refine lv_aload_n hx hb dX8_size_167 rfl (lv_at hl 0 rfl) ?_
    refine va_get (D := D) (ci := 7) (v := .ref (qN 0)) (C := RX8) (T := TX8) (N := 9) hx hb ht0 niX8 hown hK hP 0 rfl rfl 0 (by decide) (ht0 _ wd490) (fun _ h9 => h9) rfl dX8_size_168 ?_
    obtain ⟨r171, hc171, hok⟩ := k_bind hok
    refine kCi (wc := (wX5_count cy (qN 0) qR aH0 vR_j11 vR)) (wc2 := (wX5_count cy (qN 0) qR aH0 vR_j11 vR)) (wr := [(aN, oX8 vN qN aH), (aH, oX4 vH qH), (qH 9, rI cy 4 vH_places), (qH 7, oX7 vU qU), (qN 1, oX1 vD qD), (qD 0, rI cy 9 vD_now)]) (ws2 := (wX8_size cy aN qN aH qH qU qD qR aH0 vN vH vH_places vU vD vD_now vR_j11 vR)) (kRunV (As := []) (rest := []) ⟨hx, hb, hml, hown, ht0⟩ (kX5_count l D cy _ (qN 0) qR aH0 vR_j11 vR r171 hc171 _ rfl) (cwV 0 ht0 (gV wd499 wd500 wd501 wd276 wd502) rfl rfl rfl (by decide +kernel) ⟨Nat.le_of_ble_eq_true rfl, Nat.le_of_ble_eq_true rfl⟩) hK hN hP hD [6] rfl (by decide) 6 4 rfl rfl rfl hl.1 rfl (Nat.le_of_ble_eq_true rfl) dX8_size_171 ⟨Nat.zero_le _, Nat.zero_le _⟩) hP hD hS hA [6] [0, 1, 2, 3, 4, 5] rfl rfl (by decide) (by decide) [0, 1, 2, 3, 4, 5, 6] (by decide) rfl rfl (fun H locs hP hD hS => ?_)
    cases hok
    exact W.iret hx hb hr (fun t ht hW => ⟨⟨_, (), rfl, rfl, by rw [ht]; exact hP, va_K.moved hW.alike hK, hD⟩, hS.F ht⟩) hS.2.2 dX8_size_174
  have hok := k_neg c1_12 hok
  refine lv_tableOut (tgt := 175) hx hb dX8_size_1 (by have q0 := lv_neT c1_0 (a := 0) (by decide); have q1 := lv_neT c1_1 (a := 1) (by decide); have q2 := lv_neT c1_2 (a := 2) (by decide); have q3 := lv_neT c1_3 (a := 3) (by decide); have q4 := lv_neT c1_4 (a := 4) (by decide); have q5 := lv_neT c1_5 (a := 5) (by decide); have q6 := lv_neT c1_6 (a := 6) (by decide); have q7 := lv_neT c1_7 (a := 7) (by decide); have q8 := lv_neT c1_8 (a := 8) (by decide); have q9 := lv_neT c1_9 (a := 9) (by decide); have q10 := lv_neT c1_10 (a := 10) (by decide); have q11 := lv_neT c1_11 (a := 11) (by decide); have q12 := lv_neT c1_12 (a := 12) (by decide); omega) (by decide) ?_
  refine lv_iconst (v := -1) hx hb dX8_size_175 (by decide) ?_
  cases hok
  exact W.iret hx hb hr (fun t ht hW => ⟨⟨_, (), rfl, rfl, by rw [ht]; exact hP, va_K.moved hW.alike hK, hD⟩, hS.F ht⟩) hS.2.2 dX8_size_176
def wsX8_trouble : List Cond := .code yX8_trouble cX8_trouble 1 (some .int) :: W0
abbrev wX8_trouble (cy : Nat → ClassId) (aN : Nat) (qN : Nat → Nat) (aH : Nat) (vN : Nat → Int32) : va_W := [(aN, oX8 vN qN aH)]
set_option maxHeartbeats 4000000 in
set_option maxRecDepth 100000 in
theorem kX8_trouble (l : Launch) (D : va_G) (cy : Nat → ClassId) (sz : Nat) (aN : Nat) (qN : Nat → Nat) (aH : Nat) (vN : Nat → Int32) (zr : Int32) (hok : fX8_trouble vN = some zr) (A : Nat → Prop) (hAe : va_A (wX8_trouble cy aN qN aH vN) sz = A) : Met l yX8_trouble wsX8_trouble ({ frames := 0, cells := 0, slots := 0, locals := 0 } : Room) (kPre D cy [.ref aN] (wX8_trouble cy aN qN aH vN) sz) (kQi D cy zr A (wX8_trouble cy aN qN aH vN)) 0 0 A := by
  refine Met.ofW (cc := cX8_trouble) (maxL := 1) (ret := (some .int)) (by decide) rfl ?_
  intro p e s m args below meth c s₁ B hml hv
  obtain ⟨rfl, hsz, hP, hK, hD0, hN⟩ := hv
  have hx := B.exec
  have hb := B.bytes
  have hr := B.returns
  have ht0 : ∀ w ∈ W0, w.before _ s = true := fun w h => atoms_spec (ws := wsX8_trouble) B.pre w (List.mem_cons_of_mem _ h)
  have hown : s.vm.findClass RX8 = some m.cls := findClass_of_methodNamed B.named
  have hlocks := B.notSynchronized
  subst hsz
  have hD : va_D A (wX8_trouble cy aN qN aH vN) := by rw [← hAe]; exact hD0.self
  have hA : ∀ q : Nat, s.heap.size ≤ q → A q := fun q h => by rw [← hAe]; exact Or.inr h
  have hS : va_S A s.heap s.heap [] := va_S.rf
  have hl := lv_entry ([.ref aN]) (n := 1) (Nat.le_of_ble_eq_true rfl)
  rw [lg_entry_eq]
  generalize (lg_sl ([.ref aN]) ++ List.replicate (1 - (lg_sl ([.ref aN])).length) Slot.unset).toArray = ls at hl ⊢
  have hl : lv_has ls 1 [(0, .ref aN)] := hl
  unfold fX8_trouble at hok
  obtain ⟨H, hH⟩ : ∃ H, H = s.heap := ⟨_, rfl⟩
  obtain ⟨locs, hlc⟩ : ∃ x : List Loc, x = [] := ⟨_, rfl⟩
  have hP : va_P D vwCl (wX8_trouble cy aN qN aH vN) H := by rw [hH]; exact hP
  have hS : va_S A s.heap H locs := by rw [hH, hlc]; exact hS
  rw [show W p l e _ s m _ below meth c s.heap [] = W p l e _ s m _ below meth c H locs from by rw [hH, hlc]]
  refine lv_aload_n hx hb dX8_trouble_0 rfl (lv_at hl 0 rfl) ?_
  refine va_get (D := D) (ci := 7) (v := .int (vN 6)) (C := RX8) (T := TX8) (N := 9) hx hb ht0 niX8 hown hK hP 0 rfl rfl 6 (by decide) (ht0 _ wd503) (fun _ h9 => h9) rfl dX8_trouble_1 ?_
  cases hok
  exact W.iret hx hb hr (fun t ht hW => ⟨⟨_, (), rfl, rfl, by rw [ht]; exact hP, va_K.moved hW.alike hK, hD⟩, hS.F ht⟩) hS.2.2 dX8_trouble_4
def wsX9_thrown : List Cond := .code yX9_thrown cX9_thrown 1 (some .int) :: W0
abbrev wX9_thrown (cy : Nat → ClassId) (aM : Nat) (qM : Nat → Nat) (vM : Nat → Int32) : va_W := [(aM, oX9 vM qM)]
set_option maxHeartbeats 4000000 in
set_option maxRecDepth 100000 in
theorem kX9_thrown (l : Launch) (D : va_G) (cy : Nat → ClassId) (sz : Nat) (aM : Nat) (qM : Nat → Nat) (vM : Nat → Int32) (zr : Int32) (hok : fX9_thrown vM = some zr) (A : Nat → Prop) (hAe : va_A (wX9_thrown cy aM qM vM) sz = A) : Met l yX9_thrown wsX9_thrown ({ frames := 0, cells := 0, slots := 0, locals := 0 } : Room) (kPre D cy [.ref aM] (wX9_thrown cy aM qM vM) sz) (kQi D cy zr A (wX9_thrown cy aM qM vM)) 0 0 A := by
  refine Met.ofW (cc := cX9_thrown) (maxL := 1) (ret := (some .int)) (by decide) rfl ?_
  intro p e s m args below meth c s₁ B hml hv
  obtain ⟨rfl, hsz, hP, hK, hD0, hN⟩ := hv
  have hx := B.exec
  have hb := B.bytes
  have hr := B.returns
  have ht0 : ∀ w ∈ W0, w.before _ s = true := fun w h => atoms_spec (ws := wsX9_thrown) B.pre w (List.mem_cons_of_mem _ h)
  have hown : s.vm.findClass RX9 = some m.cls := findClass_of_methodNamed B.named
  have hlocks := B.notSynchronized
  subst hsz
  have hD : va_D A (wX9_thrown cy aM qM vM) := by rw [← hAe]; exact hD0.self
  have hA : ∀ q : Nat, s.heap.size ≤ q → A q := fun q h => by rw [← hAe]; exact Or.inr h
  have hS : va_S A s.heap s.heap [] := va_S.rf
  have hl := lv_entry ([.ref aM]) (n := 1) (Nat.le_of_ble_eq_true rfl)
  rw [lg_entry_eq]
  generalize (lg_sl ([.ref aM]) ++ List.replicate (1 - (lg_sl ([.ref aM])).length) Slot.unset).toArray = ls at hl ⊢
  have hl : lv_has ls 1 [(0, .ref aM)] := hl
  unfold fX9_thrown at hok
  obtain ⟨H, hH⟩ : ∃ H, H = s.heap := ⟨_, rfl⟩
  obtain ⟨locs, hlc⟩ : ∃ x : List Loc, x = [] := ⟨_, rfl⟩
  have hP : va_P D vwCl (wX9_thrown cy aM qM vM) H := by rw [hH]; exact hP
  have hS : va_S A s.heap H locs := by rw [hH, hlc]; exact hS
  rw [show W p l e _ s m _ below meth c s.heap [] = W p l e _ s m _ below meth c H locs from by rw [hH, hlc]]
  refine lv_aload_n hx hb dX9_thrown_0 rfl (lv_at hl 0 rfl) ?_
  refine va_get (D := D) (ci := 8) (v := .int (vM 0)) (C := RX9) (T := TX9) (N := 29) hx hb ht0 niX9 hown hK hP 0 rfl rfl 0 (by decide) (ht0 _ wd735) (fun _ h9 => h9) rfl dX9_thrown_1 ?_
  cases hok
  exact W.iret hx hb hr (fun t ht hW => ⟨⟨_, (), rfl, rfl, by rw [ht]; exact hP, va_K.moved hW.alike hK, hD⟩, hS.F ht⟩) hS.2.2 dX9_thrown_4
def wsX9_good : List Cond := .code yX9_good cX9_good 1 none :: W0
abbrev wX9_good (cy : Nat → ClassId) (aM : Nat) (qM : Nat → Nat) (vM : Nat → Int32) : va_W := [(aM, oX9 vM qM)]
set_option maxHeartbeats 4000000 in
set_option maxRecDepth 100000 in
theorem kX9_good (l : Launch) (D : va_G) (cy : Nat → ClassId) (sz : Nat) (aM : Nat) (qM : Nat → Nat) (vM : Nat → Int32) (z_vM : Nat → Int32) (hok : fX9_good vM = some z_vM) (A : Nat → Prop) (hAe : va_A (wX9_good cy aM qM vM) sz = A) : Met l yX9_good wsX9_good ({ frames := 0, cells := 0, slots := 0, locals := 0 } : Room) (kPre D cy [.ref aM] (wX9_good cy aM qM vM) sz) (kQv D cy A (wX9_good cy aM qM z_vM)) 0 0 A := by
  refine Met.ofW (cc := cX9_good) (maxL := 1) (ret := none) (by decide) rfl ?_
  intro p e s m args below meth c s₁ B hml hv
  obtain ⟨rfl, hsz, hP, hK, hD0, hN⟩ := hv
  have hx := B.exec
  have hb := B.bytes
  have hr := B.returns
  have ht0 : ∀ w ∈ W0, w.before _ s = true := fun w h => atoms_spec (ws := wsX9_good) B.pre w (List.mem_cons_of_mem _ h)
  have hown : s.vm.findClass RX9 = some m.cls := findClass_of_methodNamed B.named
  have hlocks := B.notSynchronized
  subst hsz
  have hD : va_D A (wX9_good cy aM qM vM) := by rw [← hAe]; exact hD0.self
  have hA : ∀ q : Nat, s.heap.size ≤ q → A q := fun q h => by rw [← hAe]; exact Or.inr h
  have hS : va_S A s.heap s.heap [] := va_S.rf
  have hl := lv_entry ([.ref aM]) (n := 1) (Nat.le_of_ble_eq_true rfl)
  rw [lg_entry_eq]
  generalize (lg_sl ([.ref aM]) ++ List.replicate (1 - (lg_sl ([.ref aM])).length) Slot.unset).toArray = ls at hl ⊢
  have hl : lv_has ls 1 [(0, .ref aM)] := hl
  unfold fX9_good at hok
  obtain ⟨H, hH⟩ : ∃ H, H = s.heap := ⟨_, rfl⟩
  obtain ⟨locs, hlc⟩ : ∃ x : List Loc, x = [] := ⟨_, rfl⟩
  have hP : va_P D vwCl (wX9_good cy aM qM vM) H := by rw [hH]; exact hP
  have hS : va_S A s.heap H locs := by rw [hH, hlc]; exact hS
  rw [show W p l e _ s m _ below meth c s.heap [] = W p l e _ s m _ below meth c H locs from by rw [hH, hlc]]
  refine lv_aload_n hx hb dX9_good_0 rfl (lv_at hl 0 rfl) ?_
  refine lv_iconst (v := 0) hx hb dX9_good_1 (by decide) ?_
  refine va_put (D := D) (ci := 8) (v := .int 0) (ty := .int) (C := RX9) (T := TX9) (N := 29) hx hb ht0 niX9 tyX9 tyX9_ok nmX9 hown hK hP hD hS 0 rfl rfl 0 (by decide) (ht0 _ wd735) (fun _ h9 => h9) rfl (by decide +kernel) rfl rfl (Nat.le_of_ble_eq_true rfl) dX9_good_2 (fun H locs hP hD hS => ?_)
  have hP : va_P D vwCl (wX9_good cy aM qM (upd vM 0 (0 : Int32))) H := hP
  have hD : va_D A (wX9_good cy aM qM (upd vM 0 (0 : Int32))) := hD
  refine lv_aload_n hx hb dX9_good_5 rfl (lv_at hl 0 rfl) ?_
  refine lv_iconst (v := 0) hx hb dX9_good_6 (by decide) ?_
  refine va_put (D := D) (ci := 8) (v := .int 0) (ty := .int) (C := RX9) (T := TX9) (N := 29) hx hb ht0 niX9 tyX9 tyX9_ok nmX9 hown hK hP hD hS 0 rfl rfl 11 (by decide) (ht0 _ wd736) (fun _ h9 => h9) rfl (by decide +kernel) rfl rfl (Nat.le_of_ble_eq_true rfl) dX9_good_7 (fun H locs hP hD hS => ?_)
  have hP : va_P D vwCl (wX9_good cy aM qM (upd (upd vM 0 (0 : Int32)) 11 (0 : Int32))) H := hP
  have hD : va_D A (wX9_good cy aM qM (upd (upd vM 0 (0 : Int32)) 11 (0 : Int32))) := hD
  cases hok
  exact W.vret hx hb hr (fun t ht hW => ⟨⟨(), rfl, trivial, by rw [ht]; exact hP, va_K.moved hW.alike hK, hD⟩, hS.F ht⟩) hS.2.2 dX9_good_10
def wsX9_no : List Cond := .code yX9_no cX9_no 2 (some .int) :: W0
abbrev wX9_no (cy : Nat → ClassId) (aM : Nat) (qM : Nat → Nat) (vM : Nat → Int32) : va_W := [(aM, oX9 vM qM)]
set_option maxHeartbeats 4000000 in
set_option maxRecDepth 100000 in
theorem kX9_no (l : Launch) (D : va_G) (cy : Nat → ClassId) (sz : Nat) (aM : Nat) (qM : Nat → Nat) (vM : Nat → Int32) (x1 : Int32) (zr : Int32) (z_vM : Nat → Int32) (hok : fX9_no vM x1 = some (zr, z_vM)) (A : Nat → Prop) (hAe : va_A (wX9_no cy aM qM vM) sz = A) : Met l yX9_no wsX9_no ({ frames := 0, cells := 0, slots := 0, locals := 0 } : Room) (kPre D cy [.ref aM, .int x1] (wX9_no cy aM qM vM) sz) (kQi D cy zr A (wX9_no cy aM qM z_vM)) 0 0 A := by
  refine Met.ofW (cc := cX9_no) (maxL := 2) (ret := (some .int)) (by decide) rfl ?_
  intro p e s m args below meth c s₁ B hml hv
  obtain ⟨rfl, hsz, hP, hK, hD0, hN⟩ := hv
  have hx := B.exec
  have hb := B.bytes
  have hr := B.returns
  have ht0 : ∀ w ∈ W0, w.before _ s = true := fun w h => atoms_spec (ws := wsX9_no) B.pre w (List.mem_cons_of_mem _ h)
  have hown : s.vm.findClass RX9 = some m.cls := findClass_of_methodNamed B.named
  have hlocks := B.notSynchronized
  subst hsz
  have hD : va_D A (wX9_no cy aM qM vM) := by rw [← hAe]; exact hD0.self
  have hA : ∀ q : Nat, s.heap.size ≤ q → A q := fun q h => by rw [← hAe]; exact Or.inr h
  have hS : va_S A s.heap s.heap [] := va_S.rf
  have hl := lv_entry ([.ref aM, .int x1]) (n := 2) (Nat.le_of_ble_eq_true rfl)
  rw [lg_entry_eq]
  generalize (lg_sl ([.ref aM, .int x1]) ++ List.replicate (2 - (lg_sl ([.ref aM, .int x1])).length) Slot.unset).toArray = ls at hl ⊢
  have hl : lv_has ls 2 [(0, .ref aM), (1, .int x1)] := hl
  unfold fX9_no at hok
  obtain ⟨H, hH⟩ : ∃ H, H = s.heap := ⟨_, rfl⟩
  obtain ⟨locs, hlc⟩ : ∃ x : List Loc, x = [] := ⟨_, rfl⟩
  have hP : va_P D vwCl (wX9_no cy aM qM vM) H := by rw [hH]; exact hP
  have hS : va_S A s.heap H locs := by rw [hH, hlc]; exact hS
  rw [show W p l e _ s m _ below meth c s.heap [] = W p l e _ s m _ below meth c H locs from by rw [hH, hlc]]
  refine lv_aload_n hx hb dX9_no_0 rfl (lv_at hl 0 rfl) ?_
  refine lv_iload_n hx hb dX9_no_1 rfl (lv_at hl 1 rfl) ?_
  refine va_put (D := D) (ci := 8) (v := .int x1) (ty := .int) (C := RX9) (T := TX9) (N := 29) hx hb ht0 niX9 tyX9 tyX9_ok nmX9 hown hK hP hD hS 0 rfl rfl 11 (by decide) (ht0 _ wd736) (fun _ h9 => h9) rfl (by decide +kernel) rfl rfl (Nat.le_of_ble_eq_true rfl) dX9_no_2 (fun H locs hP hD hS => ?_)
  have hP : va_P D vwCl (wX9_no cy aM qM (upd vM 11 x1)) H := hP
  have hD : va_D A (wX9_no cy aM qM (upd vM 11 x1)) := hD
  refine lv_iconst (v := -1) hx hb dX9_no_5 (by decide) ?_
  cases hok
  exact W.iret hx hb hr (fun t ht hW => ⟨⟨_, (), rfl, rfl, by rw [ht]; exact hP, va_K.moved hW.alike hK, hD⟩, hS.F ht⟩) hS.2.2 dX9_no_6
def wsX9_isNot : List Cond := .code yX9_isNot cX9_isNot 2 (some .boolean) :: W0
abbrev wX9_isNot (cy : Nat → ClassId) (aM : Nat) (qM : Nat → Nat) (vM : Nat → Int32) : va_W := [(aM, oX9 vM qM)]
set_option maxHeartbeats 4000000 in
set_option maxRecDepth 100000 in
theorem kX9_isNot (l : Launch) (D : va_G) (cy : Nat → ClassId) (sz : Nat) (aM : Nat) (qM : Nat → Nat) (vM : Nat → Int32) (x1 : Int32) (zr : Int32) (z_vM : Nat → Int32) (hok : fX9_isNot vM x1 = some (zr, z_vM)) (A : Nat → Prop) (hAe : va_A (wX9_isNot cy aM qM vM) sz = A) : Met l yX9_isNot wsX9_isNot ({ frames := 0, cells := 0, slots := 0, locals := 0 } : Room) (kPre D cy [.ref aM, .int x1] (wX9_isNot cy aM qM vM) sz) (kQi D cy zr A (wX9_isNot cy aM qM z_vM)) 0 0 A := by
  refine Met.ofW (cc := cX9_isNot) (maxL := 2) (ret := (some .boolean)) (by decide) rfl ?_
  intro p e s m args below meth c s₁ B hml hv
  obtain ⟨rfl, hsz, hP, hK, hD0, hN⟩ := hv
  have hx := B.exec
  have hb := B.bytes
  have hr := B.returns
  have ht0 : ∀ w ∈ W0, w.before _ s = true := fun w h => atoms_spec (ws := wsX9_isNot) B.pre w (List.mem_cons_of_mem _ h)
  have hown : s.vm.findClass RX9 = some m.cls := findClass_of_methodNamed B.named
  have hlocks := B.notSynchronized
  subst hsz
  have hD : va_D A (wX9_isNot cy aM qM vM) := by rw [← hAe]; exact hD0.self
  have hA : ∀ q : Nat, s.heap.size ≤ q → A q := fun q h => by rw [← hAe]; exact Or.inr h
  have hS : va_S A s.heap s.heap [] := va_S.rf
  have hl := lv_entry ([.ref aM, .int x1]) (n := 2) (Nat.le_of_ble_eq_true rfl)
  rw [lg_entry_eq]
  generalize (lg_sl ([.ref aM, .int x1]) ++ List.replicate (2 - (lg_sl ([.ref aM, .int x1])).length) Slot.unset).toArray = ls at hl ⊢
  have hl : lv_has ls 2 [(0, .ref aM), (1, .int x1)] := hl
  unfold fX9_isNot at hok
  obtain ⟨H, hH⟩ : ∃ H, H = s.heap := ⟨_, rfl⟩
  obtain ⟨locs, hlc⟩ : ∃ x : List Loc, x = [] := ⟨_, rfl⟩
  have hP : va_P D vwCl (wX9_isNot cy aM qM vM) H := by rw [hH]; exact hP
  have hS : va_S A s.heap H locs := by rw [hH, hlc]; exact hS
  rw [show W p l e _ s m _ below meth c s.heap [] = W p l e _ s m _ below meth c H locs from by rw [hH, hlc]]
  refine lv_aload_n hx hb dX9_isNot_0 rfl (lv_at hl 0 rfl) ?_
  refine lv_iload_n hx hb dX9_isNot_1 rfl (lv_at hl 1 rfl) ?_
  refine va_put (D := D) (ci := 8) (v := .int x1) (ty := .int) (C := RX9) (T := TX9) (N := 29) hx hb ht0 niX9 tyX9 tyX9_ok nmX9 hown hK hP hD hS 0 rfl rfl 11 (by decide) (ht0 _ wd736) (fun _ h9 => h9) rfl (by decide +kernel) rfl rfl (Nat.le_of_ble_eq_true rfl) dX9_isNot_2 (fun H locs hP hD hS => ?_)
  have hP : va_P D vwCl (wX9_isNot cy aM qM (upd vM 11 x1)) H := hP
  have hD : va_D A (wX9_isNot cy aM qM (upd vM 11 x1)) := hD
  refine lv_iconst (v := 0) hx hb dX9_isNot_5 (by decide) ?_
  cases hok
  exact W.zret hx hb hr rfl (fun t ht hW => ⟨⟨_, (), rfl, rfl, by rw [ht]; exact hP, va_K.moved hW.alike hK, hD⟩, hS.F ht⟩) hS.2.2 dX9_isNot_6
def wsX9_in : List Cond := .code yX9_in cX9_in 3 (some .boolean) :: W0
abbrev wX9_in (cy : Nat → ClassId)  : va_W := []
set_option maxHeartbeats 4000000 in
set_option maxRecDepth 100000 in
theorem kX9_in (l : Launch) (D : va_G) (cy : Nat → ClassId) (sz : Nat) (x0 : Int32) (x1 : Int32) (x2 : Int32) (zr : Int32) (hok : fX9_in x0 x1 x2 = some zr) (A : Nat → Prop) (hAe : va_A (wX9_in cy ) sz = A) : Met l yX9_in wsX9_in ({ frames := 0, cells := 0, slots := 0, locals := 0 } : Room) (kPre D cy [.int x0, .int x1, .int x2] (wX9_in cy ) sz) (kQi D cy zr A (wX9_in cy )) 0 0 A := by
  refine Met.ofW (cc := cX9_in) (maxL := 3) (ret := (some .boolean)) (by decide) rfl ?_
  intro p e s m args below meth c s₁ B hml hv
  obtain ⟨rfl, hsz, hP, hK, hD0, hN⟩ := hv
  have hx := B.exec
  have hb := B.bytes
  have hr := B.returns
  have ht0 : ∀ w ∈ W0, w.before _ s = true := fun w h => atoms_spec (ws := wsX9_in) B.pre w (List.mem_cons_of_mem _ h)
  have hown : s.vm.findClass RX9 = some m.cls := findClass_of_methodNamed B.named
  have hlocks := B.notSynchronized
  subst hsz
  have hD : va_D A (wX9_in cy ) := by rw [← hAe]; exact hD0.self
  have hA : ∀ q : Nat, s.heap.size ≤ q → A q := fun q h => by rw [← hAe]; exact Or.inr h
  have hS : va_S A s.heap s.heap [] := va_S.rf
  have hl := lv_entry ([.int x0, .int x1, .int x2]) (n := 3) (Nat.le_of_ble_eq_true rfl)
  rw [lg_entry_eq]
  generalize (lg_sl ([.int x0, .int x1, .int x2]) ++ List.replicate (3 - (lg_sl ([.int x0, .int x1, .int x2])).length) Slot.unset).toArray = ls at hl ⊢
  have hl : lv_has ls 3 [(0, .int x0), (1, .int x1), (2, .int x2)] := hl
  generalize hQe : MQ below (kQi D cy zr A (wX9_in cy )) ([.int x0, .int x1, .int x2] : List Value).toArray s 0 0 A = Q
  have J15 : ∀ (t0_15 : Int32), ∀ (H : Heap) (locs : List Loc) (ls : Array Slot), va_P D vwCl (wX9_in cy ) H → va_D A (wX9_in cy ) → va_S A s.heap H locs → lv_has ls 3 [] → fX9_in_J15 t0_15 = some zr → W p l e ({ frames := 0, cells := 0, slots := 0, locals := 0 } : Room) s m ([.int x0, .int x1, .int x2] : List Value).toArray below meth c H locs 0 0 Q (F0 m 15 ls [.int t0_15]) := by
    intro t0_15 H locs ls hP hD hS hl hok
    unfold fX9_in_J15 at hok
    obtain ⟨g15, hok⟩ := gd_some hok
    cases hok
    subst hQe; exact W.zret hx hb hr (isB_nar g15) (fun t ht hW => ⟨⟨_, (), rfl, rfl, by rw [ht]; exact hP, va_K.moved hW.alike hK, hD⟩, hS.F ht⟩) hS.2.2 dX9_in_15
  have J14 : ∀ (H : Heap) (locs : List Loc) (ls : Array Slot), va_P D vwCl (wX9_in cy ) H → va_D A (wX9_in cy ) → va_S A s.heap H locs → lv_has ls 3 [] → fX9_in_J14 = some zr → W p l e ({ frames := 0, cells := 0, slots := 0, locals := 0 } : Room) s m ([.int x0, .int x1, .int x2] : List Value).toArray below meth c H locs 0 0 Q (F0 m 14 ls []) := by
    intro  H locs ls hP hD hS hl hok
    unfold fX9_in_J14 at hok
    refine lv_iconst (v := 0) hx hb dX9_in_14 (by decide) ?_
    exact J15 (0 : Int32) H locs ls hP hD hS (lv_sub hl [] rfl) hok
  unfold fX9_in at hok
  obtain ⟨H, hH⟩ : ∃ H, H = s.heap := ⟨_, rfl⟩
  obtain ⟨locs, hlc⟩ : ∃ x : List Loc, x = [] := ⟨_, rfl⟩
  have hP : va_P D vwCl (wX9_in cy ) H := by rw [hH]; exact hP
  have hS : va_S A s.heap H locs := by rw [hH, hlc]; exact hS
  rw [show W p l e _ s m _ below meth c s.heap [] = W p l e _ s m _ below meth c H locs from by rw [hH, hlc]]
  refine lv_iload_n hx hb dX9_in_0 rfl (lv_at hl 0 rfl) ?_
  refine lv_iload_n hx hb dX9_in_1 rfl (lv_at hl 1 rfl) ?_
  refine lv_icmp_lt (tgt := 14) hx hb dX9_in_2 (by decide) (fun c2 => ?_) (fun c2 => ?_)
  · have hok := k_pos c2 hok
    exact J14  H locs ls hP hD hS (lv_sub hl [] rfl) hok
  · have hok := k_neg c2 hok
    refine lv_iload_n hx hb dX9_in_5 rfl (lv_at hl 0 rfl) ?_
    refine lv_iload_n hx hb dX9_in_6 rfl (lv_at hl 2 rfl) ?_
    refine lv_icmp_gt (tgt := 14) hx hb dX9_in_7 (by decide) (fun c7 => ?_) (fun c7 => ?_)
    · have hok := k_pos c7 hok
      exact J14  H locs ls hP hD hS (lv_sub hl [] rfl) hok
    · have hok := k_neg c7 hok
      refine lv_iconst (v := 1) hx hb dX9_in_10 (by decide) ?_
      refine lv_goto (tgt := 15) hx hb dX9_in_11 (by decide) ?_
      exact J15 (1 : Int32) H locs ls hP hD hS (lv_sub hl [] rfl) hok
def wsX9_hasBit : List Cond := .code yX9_hasBit cX9_hasBit 2 (some .boolean) :: W0
abbrev wX9_hasBit (cy : Nat → ClassId)  : va_W := []
set_option maxHeartbeats 4000000 in
set_option maxRecDepth 100000 in
theorem kX9_hasBit (l : Launch) (D : va_G) (cy : Nat → ClassId) (sz : Nat) (x0 : Int32) (x1 : Int32) (zr : Int32) (hok : fX9_hasBit x0 x1 = some zr) (A : Nat → Prop) (hAe : va_A (wX9_hasBit cy ) sz = A) : Met l yX9_hasBit wsX9_hasBit ({ frames := 0, cells := 0, slots := 0, locals := 0 } : Room) (kPre D cy [.int x0, .int x1] (wX9_hasBit cy ) sz) (kQi D cy zr A (wX9_hasBit cy )) 0 0 A := by
  refine Met.ofW (cc := cX9_hasBit) (maxL := 2) (ret := (some .boolean)) (by decide) rfl ?_
  intro p e s m args below meth c s₁ B hml hv
  obtain ⟨rfl, hsz, hP, hK, hD0, hN⟩ := hv
  have hx := B.exec
  have hb := B.bytes
  have hr := B.returns
  have ht0 : ∀ w ∈ W0, w.before _ s = true := fun w h => atoms_spec (ws := wsX9_hasBit) B.pre w (List.mem_cons_of_mem _ h)
  have hown : s.vm.findClass RX9 = some m.cls := findClass_of_methodNamed B.named
  have hlocks := B.notSynchronized
  subst hsz
  have hD : va_D A (wX9_hasBit cy ) := by rw [← hAe]; exact hD0.self
  have hA : ∀ q : Nat, s.heap.size ≤ q → A q := fun q h => by rw [← hAe]; exact Or.inr h
  have hS : va_S A s.heap s.heap [] := va_S.rf
  have hl := lv_entry ([.int x0, .int x1]) (n := 2) (Nat.le_of_ble_eq_true rfl)
  rw [lg_entry_eq]
  generalize (lg_sl ([.int x0, .int x1]) ++ List.replicate (2 - (lg_sl ([.int x0, .int x1])).length) Slot.unset).toArray = ls at hl ⊢
  have hl : lv_has ls 2 [(0, .int x0), (1, .int x1)] := hl
  generalize hQe : MQ below (kQi D cy zr A (wX9_hasBit cy )) ([.int x0, .int x1] : List Value).toArray s 0 0 A = Q
  have J14 : ∀ (t0_14 : Int32), ∀ (H : Heap) (locs : List Loc) (ls : Array Slot), va_P D vwCl (wX9_hasBit cy ) H → va_D A (wX9_hasBit cy ) → va_S A s.heap H locs → lv_has ls 2 [] → fX9_hasBit_J14 t0_14 = some zr → W p l e ({ frames := 0, cells := 0, slots := 0, locals := 0 } : Room) s m ([.int x0, .int x1] : List Value).toArray below meth c H locs 0 0 Q (F0 m 14 ls [.int t0_14]) := by
    intro t0_14 H locs ls hP hD hS hl hok
    unfold fX9_hasBit_J14 at hok
    obtain ⟨g14, hok⟩ := gd_some hok
    cases hok
    subst hQe; exact W.zret hx hb hr (isB_nar g14) (fun t ht hW => ⟨⟨_, (), rfl, rfl, by rw [ht]; exact hP, va_K.moved hW.alike hK, hD⟩, hS.F ht⟩) hS.2.2 dX9_hasBit_14
  unfold fX9_hasBit at hok
  obtain ⟨H, hH⟩ : ∃ H, H = s.heap := ⟨_, rfl⟩
  obtain ⟨locs, hlc⟩ : ∃ x : List Loc, x = [] := ⟨_, rfl⟩
  have hP : va_P D vwCl (wX9_hasBit cy ) H := by rw [hH]; exact hP
  have hS : va_S A s.heap H locs := by rw [hH, hlc]; exact hS
  rw [show W p l e _ s m _ below meth c s.heap [] = W p l e _ s m _ below meth c H locs from by rw [hH, hlc]]
  refine lv_iload_n hx hb dX9_hasBit_0 rfl (lv_at hl 0 rfl) ?_
  refine lv_iload_n hx hb dX9_hasBit_1 rfl (lv_at hl 1 rfl) ?_
  refine lv_ishr hx hb dX9_hasBit_2 ?_
  refine lv_iconst (v := 1) hx hb dX9_hasBit_3 (by decide) ?_
  refine lv_iand hx hb dX9_hasBit_4 ?_
  refine lv_iconst (v := 1) hx hb dX9_hasBit_5 (by decide) ?_
  refine lv_icmp_ne (tgt := 13) hx hb dX9_hasBit_6 (by decide) (fun c6 => ?_) (fun c6 => ?_)
  · have hok := k_neg c6 hok
    refine lv_iconst (v := 0) hx hb dX9_hasBit_13 (by decide) ?_
    exact J14 (0 : Int32) H locs ls hP hD hS (lv_sub hl [] rfl) hok
  · have hok := k_pos c6 hok
    refine lv_iconst (v := 1) hx hb dX9_hasBit_9 (by decide) ?_
    refine lv_goto (tgt := 14) hx hb dX9_hasBit_10 (by decide) ?_
    exact J14 (1 : Int32) H locs ls hP hD hS (lv_sub hl [] rfl) hok
def wsX9_ones : List Cond := .code yX9_ones cX9_ones 3 (some .int) :: W0
abbrev wX9_ones (cy : Nat → ClassId)  : va_W := []
set_option maxHeartbeats 4000000 in
set_option maxRecDepth 100000 in
theorem kX9_ones (l : Launch) (D : va_G) (cy : Nat → ClassId) (sz : Nat) (x0 : Int32) (zr : Int32) (hok : fX9_ones x0 = some zr) (A : Nat → Prop) (hAe : va_A (wX9_ones cy ) sz = A) : Met l yX9_ones wsX9_ones ({ frames := 0, cells := 0, slots := 0, locals := 0 } : Room) (kPre D cy [.int x0] (wX9_ones cy ) sz) (kQi D cy zr A (wX9_ones cy )) 0 0 A := by
  refine Met.ofW (cc := cX9_ones) (maxL := 3) (ret := (some .int)) (by decide) rfl ?_
  intro p e s m args below meth c s₁ B hml hv
  obtain ⟨rfl, hsz, hP, hK, hD0, hN⟩ := hv
  have hx := B.exec
  have hb := B.bytes
  have hr := B.returns
  have ht0 : ∀ w ∈ W0, w.before _ s = true := fun w h => atoms_spec (ws := wsX9_ones) B.pre w (List.mem_cons_of_mem _ h)
  have hown : s.vm.findClass RX9 = some m.cls := findClass_of_methodNamed B.named
  have hlocks := B.notSynchronized
  subst hsz
  have hD : va_D A (wX9_ones cy ) := by rw [← hAe]; exact hD0.self
  have hA : ∀ q : Nat, s.heap.size ≤ q → A q := fun q h => by rw [← hAe]; exact Or.inr h
  have hS : va_S A s.heap s.heap [] := va_S.rf
  have hl := lv_entry ([.int x0]) (n := 3) (Nat.le_of_ble_eq_true rfl)
  rw [lg_entry_eq]
  generalize (lg_sl ([.int x0]) ++ List.replicate (3 - (lg_sl ([.int x0])).length) Slot.unset).toArray = ls at hl ⊢
  have hl : lv_has ls 3 [(0, .int x0)] := hl
  generalize hQe : MQ below (kQi D cy zr A (wX9_ones cy )) ([.int x0] : List Value).toArray s 0 0 A = Q
  have L4 : ∀ (fuel : Nat) (y1_4 : Int32) (y2_4 : Int32), ∀ (H : Heap) (locs : List Loc) (ls : Array Slot), va_P D vwCl (wX9_ones cy ) H → va_D A (wX9_ones cy ) → va_S A s.heap H locs → lv_has ls 3 [(0, .int x0), (1, .int y1_4), (2, .int y2_4)] → lp (fX9_ones_B4 x0) fuel (y1_4, y2_4) = some zr → W p l e ({ frames := 0, cells := 0, slots := 0, locals := 0 } : Room) s m ([.int x0] : List Value).toArray below meth c H locs 0 0 Q (F0 m 4 ls []) := by
    intro fuel
    induction fuel with
    | zero => intro y1_4 y2_4 H locs ls hP hD hS hl hok; exact (lp_0 hok).elim
    | succ fuel ih4 =>
      intro y1_4 y2_4 H locs ls hP hD hS hl hok
      obtain ⟨y4, hok, hL4, hR4⟩ := lp_step hok
      unfold fX9_ones_B4 at hok
      try dsimp only at hok
      refine lv_iload_n hx hb dX9_ones_4 rfl (lv_at hl 2 rfl) ?_
      refine lv_bipush (v := 8) hx hb dX9_ones_5 (by decide) ?_
      refine lv_icmp_ge (tgt := 24) hx hb dX9_ones_7 (by decide) (fun c7 => ?_) (fun c7 => ?_)
      · have hok := k_pos c7 hok
        obtain ⟨e4, hok, he4⟩ := ex_some hok
        have hok := hok.trans (congrArg some (hL4 _ he4))
        refine lv_iload_n hx hb dX9_ones_24 rfl (lv_at hl 1 rfl) ?_
        cases hok
        subst hQe; exact W.iret hx hb hr (fun t ht hW => ⟨⟨_, (), rfl, rfl, by rw [ht]; exact hP, va_K.moved hW.alike hK, hD⟩, hS.F ht⟩) hS.2.2 dX9_ones_25
      · have hok := k_neg c7 hok
        refine lv_iload_n hx hb dX9_ones_10 rfl (lv_at hl 1 rfl) ?_
        refine lv_iload_n hx hb dX9_ones_11 rfl (lv_at hl 0 rfl) ?_
        refine lv_iload_n hx hb dX9_ones_12 rfl (lv_at hl 2 rfl) ?_
        refine lv_ishr hx hb dX9_ones_13 ?_
        refine lv_iconst (v := 1) hx hb dX9_ones_14 (by decide) ?_
        refine lv_iand hx hb dX9_ones_15 ?_
        refine lv_iadd hx hb dX9_ones_16 ?_
        refine lv_istore_n (lv' := [(1, .int (y1_4 + ((isr x0 y2_4) &&& (1 : Int32)))), (0, .int x0), (2, .int y2_4)]) hx hb dX9_ones_17 rfl hl (by decide) rfl (fun ls hl => ?_)
        refine lv_iinc (v := (y2_4 + 1)) (lv' := [(2, .int (y2_4 + 1)), (1, .int (y1_4 + ((isr x0 y2_4) &&& (1 : Int32)))), (0, .int x0)]) hx hb dX9_ones_18 hl (k := 2) rfl (by first | rfl | decide) (by decide) rfl (fun ls hl => ?_)
        refine lv_goto (tgt := 4) hx hb dX9_ones_21 (by decide) ?_
        exact ih4 (y1_4 + ((isr x0 y2_4) &&& (1 : Int32))) (y2_4 + 1) H locs ls hP hD hS (lv_sub hl [2, 1, 0] rfl) (hR4 _ (Option.some.inj hok).symm)
  unfold fX9_ones at hok
  obtain ⟨H, hH⟩ : ∃ H, H = s.heap := ⟨_, rfl⟩
  obtain ⟨locs, hlc⟩ : ∃ x : List Loc, x = [] := ⟨_, rfl⟩
  have hP : va_P D vwCl (wX9_ones cy ) H := by rw [hH]; exact hP
  have hS : va_S A s.heap H locs := by rw [hH, hlc]; exact hS
  rw [show W p l e _ s m _ below meth c s.heap [] = W p l e _ s m _ below meth c H locs from by rw [hH, hlc]]
  refine lv_iconst (v := 0) hx hb dX9_ones_0 (by decide) ?_
  refine lv_istore_n (lv' := [(1, .int 0), (0, .int x0)]) hx hb dX9_ones_1 rfl hl (by decide) rfl (fun ls hl => ?_)
  refine lv_iconst (v := 0) hx hb dX9_ones_2 (by decide) ?_
  refine lv_istore_n (lv' := [(2, .int 0), (1, .int 0), (0, .int x0)]) hx hb dX9_ones_3 rfl hl (by decide) rfl (fun ls hl => ?_)
  exact L4 5000 (0 : Int32) (0 : Int32) H locs ls hP hD hS (lv_sub hl [2, 1, 0] rfl) hok
def wsX9_copy : List Cond := .code yX9_copy cX9_copy 6 none :: W0
abbrev wX9_copy (cy : Nat → ClassId) (ap0 : Nat) (ap2 : Nat) (n0 : Nat) (p0 : Nat → Int32) (n2 : Nat) (p2 : Nat → Int32) : va_W := [(ap0, rI cy n0 p0), (ap2, rI cy n2 p2)]
set_option maxHeartbeats 4000000 in
set_option maxRecDepth 100000 in
theorem kX9_copy (l : Launch) (D : va_G) (cy : Nat → ClassId) (sz : Nat) (ap0 : Nat) (ap2 : Nat) (n0 : Nat) (p0 : Nat → Int32) (n2 : Nat) (p2 : Nat → Int32) (x1 : Int32) (x3 : Int32) (x4 : Int32) (z_p2 : Nat → Int32) (hok : fX9_copy n0 p0 n2 p2 x1 x3 x4 = some z_p2) (A : Nat → Prop) (hAe : va_A (wX9_copy cy ap0 ap2 n0 p0 n2 p2) sz = A) : Met l yX9_copy wsX9_copy ({ frames := 0, cells := 0, slots := 0, locals := 0 } : Room) (kPre D cy [.ref ap0, .int x1, .ref ap2, .int x3, .int x4] (wX9_copy cy ap0 ap2 n0 p0 n2 p2) sz) (kQv D cy A (wX9_copy cy ap0 ap2 n0 p0 n2 z_p2)) 0 0 A := by
  refine Met.ofW (cc := cX9_copy) (maxL := 6) (ret := none) (by decide) rfl ?_
  intro p e s m args below meth c s₁ B hml hv
  obtain ⟨rfl, hsz, hP, hK, hD0, hN⟩ := hv
  have hx := B.exec
  have hb := B.bytes
  have hr := B.returns
  have ht0 : ∀ w ∈ W0, w.before _ s = true := fun w h => atoms_spec (ws := wsX9_copy) B.pre w (List.mem_cons_of_mem _ h)
  have hown : s.vm.findClass RX9 = some m.cls := findClass_of_methodNamed B.named
  have hlocks := B.notSynchronized
  subst hsz
  have hD : va_D A (wX9_copy cy ap0 ap2 n0 p0 n2 p2) := by rw [← hAe]; exact hD0.self
  have hA : ∀ q : Nat, s.heap.size ≤ q → A q := fun q h => by rw [← hAe]; exact Or.inr h
  have hS : va_S A s.heap s.heap [] := va_S.rf
  have hl := lv_entry ([.ref ap0, .int x1, .ref ap2, .int x3, .int x4]) (n := 6) (Nat.le_of_ble_eq_true rfl)
  rw [lg_entry_eq]
  generalize (lg_sl ([.ref ap0, .int x1, .ref ap2, .int x3, .int x4]) ++ List.replicate (6 - (lg_sl ([.ref ap0, .int x1, .ref ap2, .int x3, .int x4])).length) Slot.unset).toArray = ls at hl ⊢
  have hl : lv_has ls 6 [(0, .ref ap0), (1, .int x1), (2, .ref ap2), (3, .int x3), (4, .int x4)] := hl
  generalize hQe : MQ below (kQv D cy A (wX9_copy cy ap0 ap2 n0 p0 n2 z_p2)) ([.ref ap0, .int x1, .ref ap2, .int x3, .int x4] : List Value).toArray s 0 0 A = Q
  have L3 : ∀ (fuel : Nat) (y5_3 : Int32) (p2_3 : Nat → Int32), ∀ (H : Heap) (locs : List Loc) (ls : Array Slot), va_P D vwCl (wX9_copy cy ap0 ap2 n0 p0 n2 p2_3) H → va_D A (wX9_copy cy ap0 ap2 n0 p0 n2 p2_3) → va_S A s.heap H locs → lv_has ls 6 [(0, .ref ap0), (1, .int x1), (2, .ref ap2), (3, .int x3), (4, .int x4), (5, .int y5_3)] → lp (fX9_copy_B3 n0 p0 n2 x1 x3 x4) fuel (y5_3, p2_3) = some z_p2 → W p l e ({ frames := 0, cells := 0, slots := 0, locals := 0 } : Room) s m ([.ref ap0, .int x1, .ref ap2, .int x3, .int x4] : List Value).toArray below meth c H locs 0 0 Q (F0 m 3 ls []) := by
    intro fuel
    induction fuel with
    | zero => intro y5_3 p2_3 H locs ls hP hD hS hl hok; exact (lp_0 hok).elim
    | succ fuel ih3 =>
      intro y5_3 p2_3 H locs ls hP hD hS hl hok
      obtain ⟨y3, hok, hL3, hR3⟩ := lp_step hok
      unfold fX9_copy_B3 at hok
      try dsimp only at hok
      refine lv_iload hx hb dX9_copy_3 (lv_at hl 5 rfl) ?_
      refine lv_iload hx hb dX9_copy_5 (lv_at hl 4 rfl) ?_
      refine lv_icmp_ge (tgt := 28) hx hb dX9_copy_7 (by decide) (fun c7 => ?_) (fun c7 => ?_)
      · have hok := k_pos c7 hok
        obtain ⟨e3, hok, he3⟩ := ex_some hok
        have hok := hok.trans (congrArg some (hL3 _ he3))
        cases hok
        subst hQe; exact W.vret hx hb hr (fun t ht hW => ⟨⟨(), rfl, trivial, by rw [ht]; exact hP, va_K.moved hW.alike hK, hD⟩, hS.F ht⟩) hS.2.2 dX9_copy_28
      · have hok := k_neg c7 hok
        refine lv_aload_n hx hb dX9_copy_10 rfl (lv_at hl 2 rfl) ?_
        refine lv_iload_n hx hb dX9_copy_11 rfl (lv_at hl 3 rfl) ?_
        refine lv_iload hx hb dX9_copy_12 (lv_at hl 5 rfl) ?_
        refine lv_iadd hx hb dX9_copy_14 ?_
        refine lv_aload_n hx hb dX9_copy_15 rfl (lv_at hl 0 rfl) ?_
        refine lv_iload_n hx hb dX9_copy_16 rfl (lv_at hl 1 rfl) ?_
        refine lv_iload hx hb dX9_copy_17 (lv_at hl 5 rfl) ?_
        refine lv_iadd hx hb dX9_copy_19 ?_
        obtain ⟨g20, hok⟩ := gd_some hok
        refine va_iald hx hb hK hP 0 0 rfl rfl (okI_in g20) dX9_copy_20 ?_
        obtain ⟨g21, hok⟩ := gd_some hok
        refine va_iast hx hb hK hP hD hS 1 0 rfl rfl (okI_in g21) dX9_copy_21 (fun H locs hP hD hS => ?_)
        have hP : va_P D vwCl (wX9_copy cy ap0 ap2 n0 p0 n2 (upd p2_3 (x3 + y5_3).toNatClampNeg (p0 (x1 + y5_3).toNatClampNeg))) H := hP
        have hD : va_D A (wX9_copy cy ap0 ap2 n0 p0 n2 (upd p2_3 (x3 + y5_3).toNatClampNeg (p0 (x1 + y5_3).toNatClampNeg))) := hD
        refine lv_iinc (v := (y5_3 + 1)) (lv' := [(5, .int (y5_3 + 1)), (0, .ref ap0), (1, .int x1), (2, .ref ap2), (3, .int x3), (4, .int x4)]) hx hb dX9_copy_22 hl (k := 5) rfl (by first | rfl | decide) (by decide) rfl (fun ls hl => ?_)
        refine lv_goto (tgt := 3) hx hb dX9_copy_25 (by decide) ?_
        exact ih3 (y5_3 + 1) (upd p2_3 (x3 + y5_3).toNatClampNeg (p0 (x1 + y5_3).toNatClampNeg)) H locs ls hP hD hS (lv_sub hl [1, 2, 3, 4, 5, 0] rfl) (hR3 _ (Option.some.inj hok).symm)
  unfold fX9_copy at hok
  obtain ⟨H, hH⟩ : ∃ H, H = s.heap := ⟨_, rfl⟩
  obtain ⟨locs, hlc⟩ : ∃ x : List Loc, x = [] := ⟨_, rfl⟩
  have hP : va_P D vwCl (wX9_copy cy ap0 ap2 n0 p0 n2 p2) H := by rw [hH]; exact hP
  have hS : va_S A s.heap H locs := by rw [hH, hlc]; exact hS
  rw [show W p l e _ s m _ below meth c s.heap [] = W p l e _ s m _ below meth c H locs from by rw [hH, hlc]]
  refine lv_iconst (v := 0) hx hb dX9_copy_0 (by decide) ?_
  refine lv_istore (lv' := [(5, .int 0), (0, .ref ap0), (1, .int x1), (2, .ref ap2), (3, .int x3), (4, .int x4)]) hx hb dX9_copy_1 hl (by decide) rfl (fun ls hl => ?_)
  exact L3 5000 (0 : Int32) p2 H locs ls hP hD hS (lv_sub hl [1, 2, 3, 4, 5, 0] rfl) hok
def wsX9_feed : List Cond := .code yX9_feed cX9_feed 8 (some .int) :: W0
abbrev wX9_feed (cy : Nat → ClassId) (aM : Nat) (qM : Nat → Nat) (vM : Nat → Int32) (vM_tape : Nat → Int32) : va_W := [(aM, oX9 vM qM), (qM 1, rI cy 900 vM_tape)]
set_option maxHeartbeats 4000000 in
set_option maxRecDepth 100000 in
theorem kX9_feed (l : Launch) (D : va_G) (cy : Nat → ClassId) (sz : Nat) (aM : Nat) (qM : Nat → Nat) (vM : Nat → Int32) (vM_tape : Nat → Int32) (x1 : Int32) (x2 : Int32) (x3 : Int32) (x4 : Int32) (x5 : Int32) (zr : Int32) (z_vM : Nat → Int32) (z_vM_tape : Nat → Int32) (hok : fX9_feed vM vM_tape x1 x2 x3 x4 x5 = some (zr, z_vM, z_vM_tape)) (A : Nat → Prop) (hAe : va_A (wX9_feed cy aM qM vM vM_tape) sz = A) : Met l yX9_feed wsX9_feed ({ frames := 0, cells := 0, slots := 0, locals := 0 } : Room) (kPre D cy [.ref aM, .int x1, .int x2, .int x3, .int x4, .int x5] (wX9_feed cy aM qM vM vM_tape) sz) (kQi D cy zr A (wX9_feed cy aM qM z_vM z_vM_tape)) 0 0 A := by
  refine Met.ofW (cc := cX9_feed) (maxL := 8) (ret := (some .int)) (by decide) rfl ?_
  intro p e s m args below meth c s₁ B hml hv
  obtain ⟨rfl, hsz, hP, hK, hD0, hN⟩ := hv
  have hx := B.exec
  have hb := B.bytes
  have hr := B.returns
  have ht0 : ∀ w ∈ W0, w.before _ s = true := fun w h => atoms_spec (ws := wsX9_feed) B.pre w (List.mem_cons_of_mem _ h)
  have hown : s.vm.findClass RX9 = some m.cls := findClass_of_methodNamed B.named
  have hlocks := B.notSynchronized
  subst hsz
  have hD : va_D A (wX9_feed cy aM qM vM vM_tape) := by rw [← hAe]; exact hD0.self
  have hA : ∀ q : Nat, s.heap.size ≤ q → A q := fun q h => by rw [← hAe]; exact Or.inr h
  have hS : va_S A s.heap s.heap [] := va_S.rf
  have hl := lv_entry ([.ref aM, .int x1, .int x2, .int x3, .int x4, .int x5]) (n := 8) (Nat.le_of_ble_eq_true rfl)
  rw [lg_entry_eq]
  generalize (lg_sl ([.ref aM, .int x1, .int x2, .int x3, .int x4, .int x5]) ++ List.replicate (8 - (lg_sl ([.ref aM, .int x1, .int x2, .int x3, .int x4, .int x5])).length) Slot.unset).toArray = ls at hl ⊢
  have hl : lv_has ls 8 [(0, .ref aM), (1, .int x1), (2, .int x2), (3, .int x3), (4, .int x4), (5, .int x5)] := hl
  generalize hQe : MQ below (kQi D cy zr A (wX9_feed cy aM qM z_vM z_vM_tape)) ([.ref aM, .int x1, .int x2, .int x3, .int x4, .int x5] : List Value).toArray s 0 0 A = Q
  have L23 : ∀ (fuel : Nat) (y6_23 : Int32) (vM_tape_23 : Nat → Int32) (vM_23 : Nat → Int32), ∀ (H : Heap) (locs : List Loc) (ls : Array Slot), va_P D vwCl (wX9_feed cy aM qM vM_23 vM_tape_23) H → va_D A (wX9_feed cy aM qM vM_23 vM_tape_23) → va_S A s.heap H locs → lv_has ls 8 [(0, .ref aM), (1, .int x1), (2, .int x2), (3, .int x3), (4, .int x4), (5, .int x5), (6, .int y6_23)] → lp (fX9_feed_B23 x1 x2 x3 x4 x5) fuel (y6_23, vM_tape_23, vM_23) = some (zr, z_vM, z_vM_tape) → W p l e ({ frames := 0, cells := 0, slots := 0, locals := 0 } : Room) s m ([.ref aM, .int x1, .int x2, .int x3, .int x4, .int x5] : List Value).toArray below meth c H locs 0 0 Q (F0 m 23 ls []) := by
    intro fuel
    induction fuel with
    | zero => intro y6_23 vM_tape_23 vM_23 H locs ls hP hD hS hl hok; exact (lp_0 hok).elim
    | succ fuel ih23 =>
      intro y6_23 vM_tape_23 vM_23 H locs ls hP hD hS hl hok
      obtain ⟨y23, hok, hL23, hR23⟩ := lp_step hok
      have J76 : ∀ (t0_76 : Int32), ∀ (H : Heap) (locs : List Loc) (ls : Array Slot), va_P D vwCl (wX9_feed cy aM qM vM_23 vM_tape_23) H → va_D A (wX9_feed cy aM qM vM_23 vM_tape_23) → va_S A s.heap H locs → lv_has ls 8 [(0, .ref aM), (1, .int x1), (2, .int x2), (3, .int x3), (4, .int x4), (5, .int x5), (6, .int y6_23)] → fX9_feed_J76 y6_23 vM_tape_23 vM_23 t0_76 = some y23 → W p l e ({ frames := 0, cells := 0, slots := 0, locals := 0 } : Room) s m ([.ref aM, .int x1, .int x2, .int x3, .int x4, .int x5] : List Value).toArray below meth c H locs 0 0 Q (F0 m 76 ls [.int t0_76]) := by
        intro t0_76 H locs ls hP hD hS hl hok
        unfold fX9_feed_J76 at hok
        refine lv_istore (lv' := [(7, .int t0_76), (0, .ref aM), (1, .int x1), (2, .int x2), (3, .int x3), (4, .int x4), (5, .int x5), (6, .int y6_23)]) hx hb dX9_feed_76 hl (by decide) rfl (fun ls hl => ?_)
        refine lv_aload_n hx hb dX9_feed_78 rfl (lv_at hl 1 rfl) ?_
        refine va_get (D := D) (ci := 8) (v := .ref (qM 1)) (C := RX9) (T := TX9) (N := 29) hx hb ht0 niX9 hown hK hP 0 rfl rfl 1 (by decide) (ht0 _ wd737) (fun _ h9 => h9) rfl dX9_feed_79 ?_
        refine lv_aload_n hx hb dX9_feed_82 rfl (lv_at hl 1 rfl) ?_
        refine va_get (D := D) (ci := 8) (v := .int (vM_23 2)) (C := RX9) (T := TX9) (N := 29) hx hb ht0 niX9 hown hK hP 0 rfl rfl 2 (by decide) (ht0 _ wd738) (fun _ h9 => h9) rfl dX9_feed_83 ?_
        refine lv_iload hx hb dX9_feed_86 (lv_at hl 0 rfl) ?_
        refine lv_bipush (v := 24) hx hb dX9_feed_88 (by decide) ?_
        refine lv_bipush (v := 8) hx hb dX9_feed_90 (by decide) ?_
        refine lv_iload hx hb dX9_feed_92 (lv_at hl 7 rfl) ?_
        refine lv_iconst (v := 4) hx hb dX9_feed_94 (by decide) ?_
        refine lv_irem hx hb dX9_feed_95 (by decide) ?_
        refine lv_imul hx hb dX9_feed_96 ?_
        refine lv_isub hx hb dX9_feed_97 ?_
        refine lv_ishr hx hb dX9_feed_98 ?_
        refine lv_sipush (v := 255) hx hb dX9_feed_99 (by decide) ?_
        refine lv_iand hx hb dX9_feed_102 ?_
        obtain ⟨g103, hok⟩ := gd_some hok
        refine va_iast hx hb hK hP hD hS 1 0 rfl rfl (okI_in g103) dX9_feed_103 (fun H locs hP hD hS => ?_)
        have hP : va_P D vwCl (wX9_feed cy aM qM vM_23 (upd vM_tape_23 (vM_23 2).toNatClampNeg ((isr t0_76 ((24 : Int32) - ((8 : Int32) * (irm y6_23 (4 : Int32))))) &&& (255 : Int32)))) H := hP
        have hD : va_D A (wX9_feed cy aM qM vM_23 (upd vM_tape_23 (vM_23 2).toNatClampNeg ((isr t0_76 ((24 : Int32) - ((8 : Int32) * (irm y6_23 (4 : Int32))))) &&& (255 : Int32)))) := hD
        refine lv_aload_n hx hb dX9_feed_104 rfl (lv_at hl 1 rfl) ?_
        refine lv_dup hx hb dX9_feed_105 rfl ?_
        refine va_get (D := D) (ci := 8) (v := .int (vM_23 2)) (C := RX9) (T := TX9) (N := 29) hx hb ht0 niX9 hown hK hP 0 rfl rfl 2 (by decide) (ht0 _ wd738) (fun _ h9 => h9) rfl dX9_feed_106 ?_
        refine lv_iconst (v := 1) hx hb dX9_feed_109 (by decide) ?_
        refine lv_iadd hx hb dX9_feed_110 ?_
        refine va_put (D := D) (ci := 8) (v := .int ((vM_23 2) + (1 : Int32))) (ty := .int) (C := RX9) (T := TX9) (N := 29) hx hb ht0 niX9 tyX9 tyX9_ok nmX9 hown hK hP hD hS 0 rfl rfl 2 (by decide) (ht0 _ wd738) (fun _ h9 => h9) rfl (by decide +kernel) rfl rfl (Nat.le_of_ble_eq_true rfl) dX9_feed_111 (fun H locs hP hD hS => ?_)
        have hP : va_P D vwCl (wX9_feed cy aM qM (upd vM_23 2 ((vM_23 2) + (1 : Int32))) (upd vM_tape_23 (vM_23 2).toNatClampNeg ((isr t0_76 ((24 : Int32) - ((8 : Int32) * (irm y6_23 (4 : Int32))))) &&& (255 : Int32)))) H := hP
        have hD : va_D A (wX9_feed cy aM qM (upd vM_23 2 ((vM_23 2) + (1 : Int32))) (upd vM_tape_23 (vM_23 2).toNatClampNeg ((isr t0_76 ((24 : Int32) - ((8 : Int32) * (irm y6_23 (4 : Int32))))) &&& (255 : Int32)))) := hD
        refine lv_iinc (v := (y6_23 + 1)) (lv' := [(6, .int (y6_23 + 1)), (7, .int t0_76), (0, .ref aM), (1, .int x1), (2, .int x2), (3, .int x3), (4, .int x4), (5, .int x5)]) hx hb dX9_feed_114 hl (k := 7) rfl (by first | rfl | decide) (by decide) rfl (fun ls hl => ?_)
        refine lv_goto (tgt := 23) hx hb dX9_feed_117 (by decide) ?_
        exact ih23 (y6_23 + 1) (upd vM_tape_23 (vM_23 2).toNatClampNeg ((isr t0_76 ((24 : Int32) - ((8 : Int32) * (irm y6_23 (4 : Int32))))) &&& (255 : Int32))) (upd vM_23 2 ((vM_23 2) + (1 : Int32))) H locs ls hP hD hS (lv_sub hl [2, 3, 4, 5, 6, 7, 0] rfl) (hR23 _ (Option.some.inj hok).symm)
      unfold fX9_feed_B23 at hok
      try dsimp only at hok
      refine lv_iload hx hb dX9_feed_23 (lv_at hl 6 rfl) ?_
      refine lv_bipush (v := 20) hx hb dX9_feed_25 (by decide) ?_
      refine lv_icmp_ge (tgt := 120) hx hb dX9_feed_27 (by decide) (fun c27 => ?_) (fun c27 => ?_)
      · have hok := k_pos c27 hok
        obtain ⟨e23, hok, he23⟩ := ex_some hok
        have hok := hok.trans (congrArg some (hL23 _ he23))
        refine lv_aload_n hx hb dX9_feed_120 rfl (lv_at hl 0 rfl) ?_
        refine va_get (D := D) (ci := 8) (v := .int (vM_23 2)) (C := RX9) (T := TX9) (N := 29) hx hb ht0 niX9 hown hK hP 0 rfl rfl 2 (by decide) (ht0 _ wd738) (fun _ h9 => h9) rfl dX9_feed_121 ?_
        cases hok
        subst hQe; exact W.iret hx hb hr (fun t ht hW => ⟨⟨_, (), rfl, rfl, by rw [ht]; exact hP, va_K.moved hW.alike hK, hD⟩, hS.F ht⟩) hS.2.2 dX9_feed_124
      · have hok := k_neg c27 hok
        refine lv_iload hx hb dX9_feed_30 (lv_at hl 6 rfl) ?_
        refine lv_iconst (v := 4) hx hb dX9_feed_32 (by decide) ?_
        refine lv_icmp_ge (tgt := 40) hx hb dX9_feed_33 (by decide) (fun c33 => ?_) (fun c33 => ?_)
        · have hok := k_pos c33 hok
          refine lv_iload hx hb dX9_feed_40 (lv_at hl 6 rfl) ?_
          refine lv_bipush (v := 8) hx hb dX9_feed_42 (by decide) ?_
          refine lv_icmp_ge (tgt := 51) hx hb dX9_feed_44 (by decide) (fun c44 => ?_) (fun c44 => ?_)
          · have hok := k_pos c44 hok
            refine lv_iload hx hb dX9_feed_51 (lv_at hl 6 rfl) ?_
            refine lv_bipush (v := 12) hx hb dX9_feed_53 (by decide) ?_
            refine lv_icmp_ge (tgt := 62) hx hb dX9_feed_55 (by decide) (fun c55 => ?_) (fun c55 => ?_)
            · have hok := k_pos c55 hok
              refine lv_iload hx hb dX9_feed_62 (lv_at hl 6 rfl) ?_
              refine lv_bipush (v := 16) hx hb dX9_feed_64 (by decide) ?_
              refine lv_icmp_ge (tgt := 74) hx hb dX9_feed_66 (by decide) (fun c66 => ?_) (fun c66 => ?_)
              · have hok := k_pos c66 hok
                refine lv_iload hx hb dX9_feed_74 (lv_at hl 5 rfl) ?_
                exact J76 x5 H locs ls hP hD hS (lv_sub hl [0, 1, 2, 3, 4, 5, 6] rfl) hok
              · have hok := k_neg c66 hok
                refine lv_iload hx hb dX9_feed_69 (lv_at hl 4 rfl) ?_
                refine lv_goto (tgt := 76) hx hb dX9_feed_71 (by decide) ?_
                exact J76 x4 H locs ls hP hD hS (lv_sub hl [0, 1, 2, 3, 4, 5, 6] rfl) hok
            · have hok := k_neg c55 hok
              refine lv_iload_n hx hb dX9_feed_58 rfl (lv_at hl 3 rfl) ?_
              refine lv_goto (tgt := 76) hx hb dX9_feed_59 (by decide) ?_
              exact J76 x3 H locs ls hP hD hS (lv_sub hl [0, 1, 2, 3, 4, 5, 6] rfl) hok
          · have hok := k_neg c44 hok
            refine lv_iload_n hx hb dX9_feed_47 rfl (lv_at hl 2 rfl) ?_
            refine lv_goto (tgt := 76) hx hb dX9_feed_48 (by decide) ?_
            exact J76 x2 H locs ls hP hD hS (lv_sub hl [0, 1, 2, 3, 4, 5, 6] rfl) hok
        · have hok := k_neg c33 hok
          refine lv_iload_n hx hb dX9_feed_36 rfl (lv_at hl 1 rfl) ?_
          refine lv_goto (tgt := 76) hx hb dX9_feed_37 (by decide) ?_
          exact J76 x1 H locs ls hP hD hS (lv_sub hl [0, 1, 2, 3, 4, 5, 6] rfl) hok
  unfold fX9_feed at hok
  obtain ⟨H, hH⟩ : ∃ H, H = s.heap := ⟨_, rfl⟩
  obtain ⟨locs, hlc⟩ : ∃ x : List Loc, x = [] := ⟨_, rfl⟩
  have hP : va_P D vwCl (wX9_feed cy aM qM vM vM_tape) H := by rw [hH]; exact hP
  have hS : va_S A s.heap H locs := by rw [hH, hlc]; exact hS
  rw [show W p l e _ s m _ below meth c s.heap [] = W p l e _ s m _ below meth c H locs from by rw [hH, hlc]]
  refine lv_aload_n hx hb dX9_feed_0 rfl (lv_at hl 0 rfl) ?_
  refine lv_iconst (v := 0) hx hb dX9_feed_1 (by decide) ?_
  refine va_put (D := D) (ci := 8) (v := .int 0) (ty := .int) (C := RX9) (T := TX9) (N := 29) hx hb ht0 niX9 tyX9 tyX9_ok nmX9 hown hK hP hD hS 0 rfl rfl 0 (by decide) (ht0 _ wd735) (fun _ h9 => h9) rfl (by decide +kernel) rfl rfl (Nat.le_of_ble_eq_true rfl) dX9_feed_2 (fun H locs hP hD hS => ?_)
  have hP : va_P D vwCl (wX9_feed cy aM qM (upd vM 0 (0 : Int32)) vM_tape) H := hP
  have hD : va_D A (wX9_feed cy aM qM (upd vM 0 (0 : Int32)) vM_tape) := hD
  refine lv_aload_n hx hb dX9_feed_5 rfl (lv_at hl 0 rfl) ?_
  refine va_get (D := D) (ci := 8) (v := .int (vM 2)) (C := RX9) (T := TX9) (N := 29) hx hb ht0 niX9 hown hK hP 0 rfl rfl 2 (by decide) (ht0 _ wd738) (fun _ h9 => h9) rfl dX9_feed_6 ?_
  refine lv_bipush (v := 20) hx hb dX9_feed_9 (by decide) ?_
  refine lv_iadd hx hb dX9_feed_11 ?_
  refine lv_sipush (v := 900) hx hb dX9_feed_12 (by decide) ?_
  refine lv_icmp_le (tgt := 20) hx hb dX9_feed_15 (by decide) (fun c15 => ?_) (fun c15 => ?_)
  · have hok := k_pos c15 hok
    refine lv_iconst (v := 0) hx hb dX9_feed_20 (by decide) ?_
    refine lv_istore (lv' := [(6, .int 0), (0, .ref aM), (1, .int x1), (2, .int x2), (3, .int x3), (4, .int x4), (5, .int x5)]) hx hb dX9_feed_21 hl (by decide) rfl (fun ls hl => ?_)
    exact L23 5000 (0 : Int32) vM_tape (upd vM 0 (0 : Int32)) H locs ls hP hD hS (lv_sub hl [1, 2, 3, 4, 5, 6, 0] rfl) hok
  · have hok := k_neg c15 hok
    refine lv_iconst (v := -1) hx hb dX9_feed_18 (by decide) ?_
    cases hok
    subst hQe; exact W.iret hx hb hr (fun t ht hW => ⟨⟨_, (), rfl, rfl, by rw [ht]; exact hP, va_K.moved hW.alike hK, hD⟩, hS.F ht⟩) hS.2.2 dX9_feed_19
def wsX9_look1 : List Cond := .code yX9_look1 cX9_look1 2 (some .int) :: W0
abbrev wX9_look1 (cy : Nat → ClassId) (aM : Nat) (qM : Nat → Nat) (vM : Nat → Int32) (vM_tape : Nat → Int32) : va_W := [(aM, oX9 vM qM), (qM 1, rI cy 900 vM_tape)]
set_option maxHeartbeats 4000000 in
set_option maxRecDepth 100000 in
theorem kX9_look1 (l : Launch) (D : va_G) (cy : Nat → ClassId) (sz : Nat) (aM : Nat) (qM : Nat → Nat) (vM : Nat → Int32) (vM_tape : Nat → Int32) (x1 : Int32) (zr : Int32) (hok : fX9_look1 vM vM_tape x1 = some zr) (A : Nat → Prop) (hAe : va_A (wX9_look1 cy aM qM vM vM_tape) sz = A) : Met l yX9_look1 wsX9_look1 ({ frames := 0, cells := 0, slots := 0, locals := 0 } : Room) (kPre D cy [.ref aM, .int x1] (wX9_look1 cy aM qM vM vM_tape) sz) (kQi D cy zr A (wX9_look1 cy aM qM vM vM_tape)) 0 0 A := by
  refine Met.ofW (cc := cX9_look1) (maxL := 2) (ret := (some .int)) (by decide) rfl ?_
  intro p e s m args below meth c s₁ B hml hv
  obtain ⟨rfl, hsz, hP, hK, hD0, hN⟩ := hv
  have hx := B.exec
  have hb := B.bytes
  have hr := B.returns
  have ht0 : ∀ w ∈ W0, w.before _ s = true := fun w h => atoms_spec (ws := wsX9_look1) B.pre w (List.mem_cons_of_mem _ h)
  have hown : s.vm.findClass RX9 = some m.cls := findClass_of_methodNamed B.named
  have hlocks := B.notSynchronized
  subst hsz
  have hD : va_D A (wX9_look1 cy aM qM vM vM_tape) := by rw [← hAe]; exact hD0.self
  have hA : ∀ q : Nat, s.heap.size ≤ q → A q := fun q h => by rw [← hAe]; exact Or.inr h
  have hS : va_S A s.heap s.heap [] := va_S.rf
  have hl := lv_entry ([.ref aM, .int x1]) (n := 2) (Nat.le_of_ble_eq_true rfl)
  rw [lg_entry_eq]
  generalize (lg_sl ([.ref aM, .int x1]) ++ List.replicate (2 - (lg_sl ([.ref aM, .int x1])).length) Slot.unset).toArray = ls at hl ⊢
  have hl : lv_has ls 2 [(0, .ref aM), (1, .int x1)] := hl
  generalize hQe : MQ below (kQi D cy zr A (wX9_look1 cy aM qM vM vM_tape)) ([.ref aM, .int x1] : List Value).toArray s 0 0 A = Q
  have J18 : ∀ (t0_18 : Int32), ∀ (H : Heap) (locs : List Loc) (ls : Array Slot), va_P D vwCl (wX9_look1 cy aM qM vM vM_tape) H → va_D A (wX9_look1 cy aM qM vM vM_tape) → va_S A s.heap H locs → lv_has ls 2 [] → fX9_look1_J18 t0_18 = some zr → W p l e ({ frames := 0, cells := 0, slots := 0, locals := 0 } : Room) s m ([.ref aM, .int x1] : List Value).toArray below meth c H locs 0 0 Q (F0 m 18 ls [.int t0_18]) := by
    intro t0_18 H locs ls hP hD hS hl hok
    unfold fX9_look1_J18 at hok
    cases hok
    subst hQe; exact W.iret hx hb hr (fun t ht hW => ⟨⟨_, (), rfl, rfl, by rw [ht]; exact hP, va_K.moved hW.alike hK, hD⟩, hS.F ht⟩) hS.2.2 dX9_look1_18
  unfold fX9_look1 at hok
  obtain ⟨H, hH⟩ : ∃ H, H = s.heap := ⟨_, rfl⟩
  obtain ⟨locs, hlc⟩ : ∃ x : List Loc, x = [] := ⟨_, rfl⟩
  have hP : va_P D vwCl (wX9_look1 cy aM qM vM vM_tape) H := by rw [hH]; exact hP
  have hS : va_S A s.heap H locs := by rw [hH, hlc]; exact hS
  rw [show W p l e _ s m _ below meth c s.heap [] = W p l e _ s m _ below meth c H locs from by rw [hH, hlc]]
  refine lv_iload_n hx hb dX9_look1_0 rfl (lv_at hl 1 rfl) ?_
  refine lv_aload_n hx hb dX9_look1_1 rfl (lv_at hl 0 rfl) ?_
  refine va_get (D := D) (ci := 8) (v := .int (vM 3)) (C := RX9) (T := TX9) (N := 29) hx hb ht0 niX9 hown hK hP 0 rfl rfl 3 (by decide) (ht0 _ wd739) (fun _ h9 => h9) rfl dX9_look1_2 ?_
  refine lv_icmp_ge (tgt := 17) hx hb dX9_look1_5 (by decide) (fun c5 => ?_) (fun c5 => ?_)
  · have hok := k_pos c5 hok
    refine lv_iconst (v := -1) hx hb dX9_look1_17 (by decide) ?_
    exact J18 (-1 : Int32) H locs ls hP hD hS (lv_sub hl [] rfl) hok
  · have hok := k_neg c5 hok
    refine lv_aload_n hx hb dX9_look1_8 rfl (lv_at hl 0 rfl) ?_
    refine va_get (D := D) (ci := 8) (v := .ref (qM 1)) (C := RX9) (T := TX9) (N := 29) hx hb ht0 niX9 hown hK hP 0 rfl rfl 1 (by decide) (ht0 _ wd737) (fun _ h9 => h9) rfl dX9_look1_9 ?_
    refine lv_iload_n hx hb dX9_look1_12 rfl (lv_at hl 1 rfl) ?_
    obtain ⟨g13, hok⟩ := gd_some hok
    refine va_iald hx hb hK hP 1 0 rfl rfl (okI_in g13) dX9_look1_13 ?_
    refine lv_goto (tgt := 18) hx hb dX9_look1_14 (by decide) ?_
    exact J18 (vM_tape x1.toNatClampNeg) H locs ls hP hD hS (lv_sub hl [] rfl) hok
def wsX9_isSmall : List Cond := .code yX9_isSmall cX9_isSmall 1 (some .boolean) :: W0
abbrev wX9_isSmall (cy : Nat → ClassId)  : va_W := []
set_option maxHeartbeats 4000000 in
set_option maxRecDepth 100000 in
theorem kX9_isSmall (l : Launch) (D : va_G) (cy : Nat → ClassId) (sz : Nat) (x0 : Int32) (zr : Int32) (hok : fX9_isSmall x0 = some zr) (A : Nat → Prop) (hAe : va_A (wX9_isSmall cy ) sz = A) : Met l yX9_isSmall wsX9_isSmall ({ frames := 0, cells := 0, slots := 0, locals := 0 } : Room) (kPre D cy [.int x0] (wX9_isSmall cy ) sz) (kQi D cy zr A (wX9_isSmall cy )) 0 0 A := by
  refine Met.ofW (cc := cX9_isSmall) (maxL := 1) (ret := (some .boolean)) (by decide) rfl ?_
  intro p e s m args below meth c s₁ B hml hv
  obtain ⟨rfl, hsz, hP, hK, hD0, hN⟩ := hv
  have hx := B.exec
  have hb := B.bytes
  have hr := B.returns
  have ht0 : ∀ w ∈ W0, w.before _ s = true := fun w h => atoms_spec (ws := wsX9_isSmall) B.pre w (List.mem_cons_of_mem _ h)
  have hown : s.vm.findClass RX9 = some m.cls := findClass_of_methodNamed B.named
  have hlocks := B.notSynchronized
  subst hsz
  have hD : va_D A (wX9_isSmall cy ) := by rw [← hAe]; exact hD0.self
  have hA : ∀ q : Nat, s.heap.size ≤ q → A q := fun q h => by rw [← hAe]; exact Or.inr h
  have hS : va_S A s.heap s.heap [] := va_S.rf
  have hl := lv_entry ([.int x0]) (n := 1) (Nat.le_of_ble_eq_true rfl)
  rw [lg_entry_eq]
  generalize (lg_sl ([.int x0]) ++ List.replicate (1 - (lg_sl ([.int x0])).length) Slot.unset).toArray = ls at hl ⊢
  have hl : lv_has ls 1 [(0, .int x0)] := hl
  generalize hQe : MQ below (kQi D cy zr A (wX9_isSmall cy )) ([.int x0] : List Value).toArray s 0 0 A = Q
  have J17 : ∀ (t0_17 : Int32), ∀ (H : Heap) (locs : List Loc) (ls : Array Slot), va_P D vwCl (wX9_isSmall cy ) H → va_D A (wX9_isSmall cy ) → va_S A s.heap H locs → lv_has ls 1 [] → fX9_isSmall_J17 t0_17 = some zr → W p l e ({ frames := 0, cells := 0, slots := 0, locals := 0 } : Room) s m ([.int x0] : List Value).toArray below meth c H locs 0 0 Q (F0 m 17 ls [.int t0_17]) := by
    intro t0_17 H locs ls hP hD hS hl hok
    unfold fX9_isSmall_J17 at hok
    obtain ⟨g17, hok⟩ := gd_some hok
    cases hok
    subst hQe; exact W.zret hx hb hr (isB_nar g17) (fun t ht hW => ⟨⟨_, (), rfl, rfl, by rw [ht]; exact hP, va_K.moved hW.alike hK, hD⟩, hS.F ht⟩) hS.2.2 dX9_isSmall_17
  have J16 : ∀ (H : Heap) (locs : List Loc) (ls : Array Slot), va_P D vwCl (wX9_isSmall cy ) H → va_D A (wX9_isSmall cy ) → va_S A s.heap H locs → lv_has ls 1 [] → fX9_isSmall_J16 = some zr → W p l e ({ frames := 0, cells := 0, slots := 0, locals := 0 } : Room) s m ([.int x0] : List Value).toArray below meth c H locs 0 0 Q (F0 m 16 ls []) := by
    intro  H locs ls hP hD hS hl hok
    unfold fX9_isSmall_J16 at hok
    refine lv_iconst (v := 0) hx hb dX9_isSmall_16 (by decide) ?_
    exact J17 (0 : Int32) H locs ls hP hD hS (lv_sub hl [] rfl) hok
  unfold fX9_isSmall at hok
  obtain ⟨H, hH⟩ : ∃ H, H = s.heap := ⟨_, rfl⟩
  obtain ⟨locs, hlc⟩ : ∃ x : List Loc, x = [] := ⟨_, rfl⟩
  have hP : va_P D vwCl (wX9_isSmall cy ) H := by rw [hH]; exact hP
  have hS : va_S A s.heap H locs := by rw [hH, hlc]; exact hS
  rw [show W p l e _ s m _ below meth c s.heap [] = W p l e _ s m _ below meth c H locs from by rw [hH, hlc]]
  refine lv_iload_n hx hb dX9_isSmall_0 rfl (lv_at hl 0 rfl) ?_
  refine lv_bipush (v := 97) hx hb dX9_isSmall_1 (by decide) ?_
  refine lv_icmp_lt (tgt := 16) hx hb dX9_isSmall_3 (by decide) (fun c3 => ?_) (fun c3 => ?_)
  · have hok := k_pos c3 hok
    exact J16  H locs ls hP hD hS (lv_sub hl [] rfl) hok
  · have hok := k_neg c3 hok
    refine lv_iload_n hx hb dX9_isSmall_6 rfl (lv_at hl 0 rfl) ?_
    refine lv_bipush (v := 122) hx hb dX9_isSmall_7 (by decide) ?_
    refine lv_icmp_gt (tgt := 16) hx hb dX9_isSmall_9 (by decide) (fun c9 => ?_) (fun c9 => ?_)
    · have hok := k_pos c9 hok
      exact J16  H locs ls hP hD hS (lv_sub hl [] rfl) hok
    · have hok := k_neg c9 hok
      refine lv_iconst (v := 1) hx hb dX9_isSmall_12 (by decide) ?_
      refine lv_goto (tgt := 17) hx hb dX9_isSmall_13 (by decide) ?_
      exact J17 (1 : Int32) H locs ls hP hD hS (lv_sub hl [] rfl) hok
def wsX9_isDigit : List Cond := .code yX9_isDigit cX9_isDigit 1 (some .boolean) :: W0
abbrev wX9_isDigit (cy : Nat → ClassId)  : va_W := []
set_option maxHeartbeats 4000000 in
set_option maxRecDepth 100000 in
theorem kX9_isDigit (l : Launch) (D : va_G) (cy : Nat → ClassId) (sz : Nat) (x0 : Int32) (zr : Int32) (hok : fX9_isDigit x0 = some zr) (A : Nat → Prop) (hAe : va_A (wX9_isDigit cy ) sz = A) : Met l yX9_isDigit wsX9_isDigit ({ frames := 0, cells := 0, slots := 0, locals := 0 } : Room) (kPre D cy [.int x0] (wX9_isDigit cy ) sz) (kQi D cy zr A (wX9_isDigit cy )) 0 0 A := by
  refine Met.ofW (cc := cX9_isDigit) (maxL := 1) (ret := (some .boolean)) (by decide) rfl ?_
  intro p e s m args below meth c s₁ B hml hv
  obtain ⟨rfl, hsz, hP, hK, hD0, hN⟩ := hv
  have hx := B.exec
  have hb := B.bytes
  have hr := B.returns
  have ht0 : ∀ w ∈ W0, w.before _ s = true := fun w h => atoms_spec (ws := wsX9_isDigit) B.pre w (List.mem_cons_of_mem _ h)
  have hown : s.vm.findClass RX9 = some m.cls := findClass_of_methodNamed B.named
  have hlocks := B.notSynchronized
  subst hsz
  have hD : va_D A (wX9_isDigit cy ) := by rw [← hAe]; exact hD0.self
  have hA : ∀ q : Nat, s.heap.size ≤ q → A q := fun q h => by rw [← hAe]; exact Or.inr h
  have hS : va_S A s.heap s.heap [] := va_S.rf
  have hl := lv_entry ([.int x0]) (n := 1) (Nat.le_of_ble_eq_true rfl)
  rw [lg_entry_eq]
  generalize (lg_sl ([.int x0]) ++ List.replicate (1 - (lg_sl ([.int x0])).length) Slot.unset).toArray = ls at hl ⊢
  have hl : lv_has ls 1 [(0, .int x0)] := hl
  generalize hQe : MQ below (kQi D cy zr A (wX9_isDigit cy )) ([.int x0] : List Value).toArray s 0 0 A = Q
  have J17 : ∀ (t0_17 : Int32), ∀ (H : Heap) (locs : List Loc) (ls : Array Slot), va_P D vwCl (wX9_isDigit cy ) H → va_D A (wX9_isDigit cy ) → va_S A s.heap H locs → lv_has ls 1 [] → fX9_isDigit_J17 t0_17 = some zr → W p l e ({ frames := 0, cells := 0, slots := 0, locals := 0 } : Room) s m ([.int x0] : List Value).toArray below meth c H locs 0 0 Q (F0 m 17 ls [.int t0_17]) := by
    intro t0_17 H locs ls hP hD hS hl hok
    unfold fX9_isDigit_J17 at hok
    obtain ⟨g17, hok⟩ := gd_some hok
    cases hok
    subst hQe; exact W.zret hx hb hr (isB_nar g17) (fun t ht hW => ⟨⟨_, (), rfl, rfl, by rw [ht]; exact hP, va_K.moved hW.alike hK, hD⟩, hS.F ht⟩) hS.2.2 dX9_isDigit_17
  have J16 : ∀ (H : Heap) (locs : List Loc) (ls : Array Slot), va_P D vwCl (wX9_isDigit cy ) H → va_D A (wX9_isDigit cy ) → va_S A s.heap H locs → lv_has ls 1 [] → fX9_isDigit_J16 = some zr → W p l e ({ frames := 0, cells := 0, slots := 0, locals := 0 } : Room) s m ([.int x0] : List Value).toArray below meth c H locs 0 0 Q (F0 m 16 ls []) := by
    intro  H locs ls hP hD hS hl hok
    unfold fX9_isDigit_J16 at hok
    refine lv_iconst (v := 0) hx hb dX9_isDigit_16 (by decide) ?_
    exact J17 (0 : Int32) H locs ls hP hD hS (lv_sub hl [] rfl) hok
  unfold fX9_isDigit at hok
  obtain ⟨H, hH⟩ : ∃ H, H = s.heap := ⟨_, rfl⟩
  obtain ⟨locs, hlc⟩ : ∃ x : List Loc, x = [] := ⟨_, rfl⟩
  have hP : va_P D vwCl (wX9_isDigit cy ) H := by rw [hH]; exact hP
  have hS : va_S A s.heap H locs := by rw [hH, hlc]; exact hS
  rw [show W p l e _ s m _ below meth c s.heap [] = W p l e _ s m _ below meth c H locs from by rw [hH, hlc]]
  refine lv_iload_n hx hb dX9_isDigit_0 rfl (lv_at hl 0 rfl) ?_
  refine lv_bipush (v := 48) hx hb dX9_isDigit_1 (by decide) ?_
  refine lv_icmp_lt (tgt := 16) hx hb dX9_isDigit_3 (by decide) (fun c3 => ?_) (fun c3 => ?_)
  · have hok := k_pos c3 hok
    exact J16  H locs ls hP hD hS (lv_sub hl [] rfl) hok
  · have hok := k_neg c3 hok
    refine lv_iload_n hx hb dX9_isDigit_6 rfl (lv_at hl 0 rfl) ?_
    refine lv_bipush (v := 57) hx hb dX9_isDigit_7 (by decide) ?_
    refine lv_icmp_gt (tgt := 16) hx hb dX9_isDigit_9 (by decide) (fun c9 => ?_) (fun c9 => ?_)
    · have hok := k_pos c9 hok
      exact J16  H locs ls hP hD hS (lv_sub hl [] rfl) hok
    · have hok := k_neg c9 hok
      refine lv_iconst (v := 1) hx hb dX9_isDigit_12 (by decide) ?_
      refine lv_goto (tgt := 17) hx hb dX9_isDigit_13 (by decide) ?_
      exact J17 (1 : Int32) H locs ls hP hD hS (lv_sub hl [] rfl) hok
def wsX9_next : List Cond := .code yX9_next cX9_next 4 none :: W0
abbrev wX9_next (cy : Nat → ClassId) (aM : Nat) (qM : Nat → Nat) (vM : Nat → Int32) (vM_tape : Nat → Int32) (vM_letters : Nat → Int32) : va_W := [(aM, oX9 vM qM), (qM 1, rI cy 900 vM_tape), (qM 12, rI cy 8 vM_letters)]
set_option maxHeartbeats 4000000 in
set_option maxRecDepth 100000 in
theorem kX9_next (l : Launch) (D : va_G) (cy : Nat → ClassId) (sz : Nat) (aM : Nat) (qM : Nat → Nat) (vM : Nat → Int32) (vM_tape : Nat → Int32) (vM_letters : Nat → Int32) (z_vM : Nat → Int32) (z_vM_letters : Nat → Int32) (hok : fX9_next vM vM_tape vM_letters = some (z_vM, z_vM_letters)) (A : Nat → Prop) (hAe : va_A (wX9_next cy aM qM vM vM_tape vM_letters) sz = A) : Met l yX9_next wsX9_next ({ frames := 1, cells := 0, slots := 0, locals := 21 } : Room) (kPre D cy [.ref aM] (wX9_next cy aM qM vM vM_tape vM_letters) sz) (kQv D cy A (wX9_next cy aM qM z_vM vM_tape z_vM_letters)) 0 0 A := by
  refine Met.ofW (cc := cX9_next) (maxL := 4) (ret := none) (by decide) rfl ?_
  intro p e s m args below meth c s₁ B hml hv
  obtain ⟨rfl, hsz, hP, hK, hD0, hN⟩ := hv
  have hx := B.exec
  have hb := B.bytes
  have hr := B.returns
  have ht0 : ∀ w ∈ W0, w.before _ s = true := fun w h => atoms_spec (ws := wsX9_next) B.pre w (List.mem_cons_of_mem _ h)
  have hown : s.vm.findClass RX9 = some m.cls := findClass_of_methodNamed B.named
  have hlocks := B.notSynchronized
  subst hsz
  have hD : va_D A (wX9_next cy aM qM vM vM_tape vM_letters) := by rw [← hAe]; exact hD0.self
  have hA : ∀ q : Nat, s.heap.size ≤ q → A q := fun q h => by rw [← hAe]; exact Or.inr h
  have hS : va_S A s.heap s.heap [] := va_S.rf
  have hl := lv_entry ([.ref aM]) (n := 4) (Nat.le_of_ble_eq_true rfl)
  rw [lg_entry_eq]
  generalize (lg_sl ([.ref aM]) ++ List.replicate (4 - (lg_sl ([.ref aM])).length) Slot.unset).toArray = ls at hl ⊢
  have hl : lv_has ls 4 [(0, .ref aM)] := hl
  generalize hQe : MQ below (kQv D cy A (wX9_next cy aM qM z_vM vM_tape z_vM_letters)) ([.ref aM] : List Value).toArray s 0 0 A = Q
  have J241 : ∀ (vM_letters_241 : Nat → Int32) (vM_241 : Nat → Int32), ∀ (H : Heap) (locs : List Loc) (ls : Array Slot), va_P D vwCl (wX9_next cy aM qM vM_241 vM_tape vM_letters_241) H → va_D A (wX9_next cy aM qM vM_241 vM_tape vM_letters_241) → va_S A s.heap H locs → lv_has ls 4 [] → fX9_next_J241 vM_letters_241 vM_241 = some (z_vM, z_vM_letters) → W p l e ({ frames := 1, cells := 0, slots := 0, locals := 21 } : Room) s m ([.ref aM] : List Value).toArray below meth c H locs 0 0 Q (F0 m 241 ls []) := by
    intro vM_letters_241 vM_241 H locs ls hP hD hS hl hok
    unfold fX9_next_J241 at hok
    cases hok
    subst hQe; exact W.vret hx hb hr (fun t ht hW => ⟨⟨(), rfl, trivial, by rw [ht]; exact hP, va_K.moved hW.alike hK, hD⟩, hS.F ht⟩) hS.2.2 dX9_next_241
  have J238 : ∀ (t0_238 : Int32) (vM_238 : Nat → Int32), ∀ (H : Heap) (locs : List Loc) (ls : Array Slot), va_P D vwCl (wX9_next cy aM qM vM_238 vM_tape vM_letters) H → va_D A (wX9_next cy aM qM vM_238 vM_tape vM_letters) → va_S A s.heap H locs → lv_has ls 4 [] → fX9_next_J238 vM_letters t0_238 vM_238 = some (z_vM, z_vM_letters) → W p l e ({ frames := 1, cells := 0, slots := 0, locals := 21 } : Room) s m ([.ref aM] : List Value).toArray below meth c H locs 0 0 Q (F0 m 238 ls [.int t0_238, .ref aM]) := by
    intro t0_238 vM_238 H locs ls hP hD hS hl hok
    unfold fX9_next_J238 at hok
    refine va_put (D := D) (ci := 8) (v := .int t0_238) (ty := .int) (C := RX9) (T := TX9) (N := 29) hx hb ht0 niX9 tyX9 tyX9_ok nmX9 hown hK hP hD hS 0 rfl rfl 6 (by decide) (ht0 _ wd740) (fun _ h9 => h9) rfl (by decide +kernel) rfl rfl (Nat.le_of_ble_eq_true rfl) dX9_next_238 (fun H locs hP hD hS => ?_)
    have hP : va_P D vwCl (wX9_next cy aM qM (upd vM_238 6 t0_238) vM_tape vM_letters) H := hP
    have hD : va_D A (wX9_next cy aM qM (upd vM_238 6 t0_238) vM_tape vM_letters) := hD
    exact J241 vM_letters (upd vM_238 6 t0_238) H locs ls hP hD hS (lv_sub hl [] rfl) hok
  have J213 : ∀ (t0_213 : Int32) (vM_213 : Nat → Int32), ∀ (H : Heap) (locs : List Loc) (ls : Array Slot), va_P D vwCl (wX9_next cy aM qM vM_213 vM_tape vM_letters) H → va_D A (wX9_next cy aM qM vM_213 vM_tape vM_letters) → va_S A s.heap H locs → lv_has ls 4 [] → fX9_next_J213 vM_letters t0_213 vM_213 = some (z_vM, z_vM_letters) → W p l e ({ frames := 1, cells := 0, slots := 0, locals := 21 } : Room) s m ([.ref aM] : List Value).toArray below meth c H locs 0 0 Q (F0 m 213 ls [.int t0_213, .ref aM]) := by
    intro t0_213 vM_213 H locs ls hP hD hS hl hok
    unfold fX9_next_J213 at hok
    refine va_put (D := D) (ci := 8) (v := .int t0_213) (ty := .int) (C := RX9) (T := TX9) (N := 29) hx hb ht0 niX9 tyX9 tyX9_ok nmX9 hown hK hP hD hS 0 rfl rfl 6 (by decide) (ht0 _ wd740) (fun _ h9 => h9) rfl (by decide +kernel) rfl rfl (Nat.le_of_ble_eq_true rfl) dX9_next_213 (fun H locs hP hD hS => ?_)
    have hP : va_P D vwCl (wX9_next cy aM qM (upd vM_213 6 t0_213) vM_tape vM_letters) H := hP
    have hD : va_D A (wX9_next cy aM qM (upd vM_213 6 t0_213) vM_tape vM_letters) := hD
    refine lv_goto (tgt := 241) hx hb dX9_next_216 (by decide) ?_
    exact J241 vM_letters (upd vM_213 6 t0_213) H locs ls hP hD hS (lv_sub hl [] rfl) hok
  have L152 : ∀ (fuel : Nat) (y1_152 : Int32) (y3_152 : Int32) (vM_152 : Nat → Int32), ∀ (H : Heap) (locs : List Loc) (ls : Array Slot), va_P D vwCl (wX9_next cy aM qM vM_152 vM_tape vM_letters) H → va_D A (wX9_next cy aM qM vM_152 vM_tape vM_letters) → va_S A s.heap H locs → lv_has ls 4 [(0, .ref aM), (1, .int y1_152), (3, .int y3_152)] → lp (fX9_next_B152 vM_tape vM_letters) fuel (y1_152, y3_152, vM_152) = some (z_vM, z_vM_letters) → W p l e ({ frames := 1, cells := 0, slots := 0, locals := 21 } : Room) s m ([.ref aM] : List Value).toArray below meth c H locs 0 0 Q (F0 m 152 ls []) := by
    intro fuel
    induction fuel with
    | zero => intro y1_152 y3_152 vM_152 H locs ls hP hD hS hl hok; exact (lp_0 hok).elim
    | succ fuel ih152 =>
      intro y1_152 y3_152 vM_152 H locs ls hP hD hS hl hok
      obtain ⟨y152, hok, hL152, hR152⟩ := lp_step hok
      have J188 : ∀ (vM_188 : Nat → Int32), ∀ (H : Heap) (locs : List Loc) (ls : Array Slot), va_P D vwCl (wX9_next cy aM qM vM_188 vM_tape vM_letters) H → va_D A (wX9_next cy aM qM vM_188 vM_tape vM_letters) → va_S A s.heap H locs → lv_has ls 4 [(0, .ref aM), (1, .int y1_152), (3, .int y3_152)] → fX9_next_J188 y1_152 y3_152 vM_188 = some y152 → W p l e ({ frames := 1, cells := 0, slots := 0, locals := 21 } : Room) s m ([.ref aM] : List Value).toArray below meth c H locs 0 0 Q (F0 m 188 ls []) := by
        intro vM_188 H locs ls hP hD hS hl hok
        unfold fX9_next_J188 at hok
        refine lv_iinc (v := (y3_152 + 1)) (lv' := [(3, .int (y3_152 + 1)), (0, .ref aM), (1, .int y1_152)]) hx hb dX9_next_188 hl (k := 2) rfl (by first | rfl | decide) (by decide) rfl (fun ls hl => ?_)
        refine lv_iinc (v := (y1_152 + 1)) (lv' := [(1, .int (y1_152 + 1)), (3, .int (y3_152 + 1)), (0, .ref aM)]) hx hb dX9_next_191 hl (k := 2) rfl (by first | rfl | decide) (by decide) rfl (fun ls hl => ?_)
        refine lv_goto (tgt := 152) hx hb dX9_next_194 (by decide) ?_
        exact ih152 (y1_152 + 1) (y3_152 + 1) vM_188 H locs ls hP hD hS (lv_sub hl [2, 0, 1] rfl) (hR152 _ (Option.some.inj hok).symm)
      unfold fX9_next_B152 at hok
      try dsimp only at hok
      refine lv_aload_n hx hb dX9_next_152 rfl (lv_at hl 0 rfl) ?_
      refine lv_iload_n hx hb dX9_next_153 rfl (lv_at hl 1 rfl) ?_
      obtain ⟨r154, hc154, hok⟩ := k_bind hok
      refine kCi (wc := (wX9_look1 cy aM qM vM_152 vM_tape)) (wc2 := (wX9_look1 cy aM qM vM_152 vM_tape)) (wr := [(qM 12, rI cy 8 vM_letters)]) (ws2 := (wX9_next cy aM qM vM_152 vM_tape vM_letters)) (kRunV (As := [.int y1_152]) (rest := []) ⟨hx, hb, hml, hown, ht0⟩ (kX9_look1 l D cy _ aM qM vM_152 vM_tape y1_152 r154 hc154 _ rfl) (cwV 1 ht0 (gV wd741 wd742 wd743 wd744 wd745) rfl rfl rfl (by decide +kernel) ⟨Nat.le_of_ble_eq_true rfl, Nat.le_of_ble_eq_true rfl⟩) hK hN hP hD [0, 1] rfl (by decide) 0 8 rfl rfl rfl hl.1 rfl (Nat.le_of_ble_eq_true rfl) dX9_next_154 ⟨Nat.zero_le _, Nat.zero_le _⟩) hP hD hS hA [0, 1] [2] rfl rfl (by decide) (by decide) [1, 2, 0] (by decide) rfl rfl (fun H locs hP hD hS => ?_)
      obtain ⟨r157, hc157, hok⟩ := k_bind hok
      refine kCi (wc := (wX9_isDigit cy )) (wc2 := (wX9_isDigit cy )) (wr := [(aM, oX9 vM_152 qM), (qM 1, rI cy 900 vM_tape), (qM 12, rI cy 8 vM_letters)]) (ws2 := (wX9_next cy aM qM vM_152 vM_tape vM_letters)) (kRunS (As := [.int r154]) (rest := []) ⟨hx, hb, hml, hown, ht0⟩ (kX9_isDigit l D cy _ r154 r157 hc157 _ rfl) (va_cwS 1 ht0 (gS wd746 wd747 wd744 wd748) rfl rfl rfl (by decide +kernel) ⟨Nat.le_of_ble_eq_true rfl, Nat.le_of_ble_eq_true rfl⟩) hK hN hP hD [] rfl (by decide) rfl hl.1 rfl (Nat.le_of_ble_eq_true rfl) dX9_next_157 ⟨Nat.zero_le _, Nat.zero_le _⟩) hP hD hS hA [] [0, 1, 2] rfl rfl (by decide) (by decide) [0, 1, 2] (by decide) rfl rfl (fun H locs hP hD hS => ?_)
      refine lv_if_eq (tgt := 197) hx hb dX9_next_160 (by decide) (fun c160 => ?_) (fun c160 => ?_)
      · have hok := k_pos c160 hok
        obtain ⟨e152, hok, he152⟩ := ex_some hok
        have hok := hok.trans (congrArg some (hL152 _ he152))
        refine lv_aload_n hx hb dX9_next_197 rfl (lv_at hl 0 rfl) ?_
        refine lv_iload_n hx hb dX9_next_198 rfl (lv_at hl 1 rfl) ?_
        refine va_put (D := D) (ci := 8) (v := .int y1_152) (ty := .int) (C := RX9) (T := TX9) (N := 29) hx hb ht0 niX9 tyX9 tyX9_ok nmX9 hown hK hP hD hS 0 rfl rfl 5 (by decide) (ht0 _ wd749) (fun _ h9 => h9) rfl (by decide +kernel) rfl rfl (Nat.le_of_ble_eq_true rfl) dX9_next_199 (fun H locs hP hD hS => ?_)
        have hP : va_P D vwCl (wX9_next cy aM qM (upd vM_152 5 y1_152) vM_tape vM_letters) H := hP
        have hD : va_D A (wX9_next cy aM qM (upd vM_152 5 y1_152) vM_tape vM_letters) := hD
        refine lv_aload_n hx hb dX9_next_202 rfl (lv_at hl 0 rfl) ?_
        refine lv_iload_n hx hb dX9_next_203 rfl (lv_at hl 2 rfl) ?_
        refine lv_iconst (v := 3) hx hb dX9_next_204 (by decide) ?_
        refine lv_icmp_le (tgt := 212) hx hb dX9_next_205 (by decide) (fun c205 => ?_) (fun c205 => ?_)
        · have hok := k_pos c205 hok
          refine lv_iconst (v := 3) hx hb dX9_next_212 (by decide) ?_
          exact J213 (3 : Int32) (upd vM_152 5 y1_152) H locs ls hP hD hS (lv_sub hl [] rfl) hok
        · have hok := k_neg c205 hok
          refine lv_iconst (v := 1) hx hb dX9_next_208 (by decide) ?_
          refine lv_goto (tgt := 213) hx hb dX9_next_209 (by decide) ?_
          exact J213 (1 : Int32) (upd vM_152 5 y1_152) H locs ls hP hD hS (lv_sub hl [] rfl) hok
      · have hok := k_neg c160 hok
        refine lv_iload_n hx hb dX9_next_163 rfl (lv_at hl 2 rfl) ?_
        refine lv_iconst (v := 3) hx hb dX9_next_164 (by decide) ?_
        refine lv_icmp_ge (tgt := 188) hx hb dX9_next_165 (by decide) (fun c165 => ?_) (fun c165 => ?_)
        · have hok := k_pos c165 hok
          exact J188 vM_152 H locs ls hP hD hS (lv_sub hl [0, 1, 2] rfl) hok
        · have hok := k_neg c165 hok
          refine lv_aload_n hx hb dX9_next_168 rfl (lv_at hl 0 rfl) ?_
          refine lv_bipush (v := 10) hx hb dX9_next_169 (by decide) ?_
          refine lv_aload_n hx hb dX9_next_171 rfl (lv_at hl 0 rfl) ?_
          refine va_get (D := D) (ci := 8) (v := .int (vM_152 7)) (C := RX9) (T := TX9) (N := 29) hx hb ht0 niX9 hown hK hP 0 rfl rfl 7 (by decide) (ht0 _ wd750) (fun _ h9 => h9) rfl dX9_next_172 ?_
          refine lv_imul hx hb dX9_next_175 ?_
          refine lv_aload_n hx hb dX9_next_176 rfl (lv_at hl 0 rfl) ?_
          refine lv_iload_n hx hb dX9_next_177 rfl (lv_at hl 1 rfl) ?_
          obtain ⟨r178, hc178, hok⟩ := k_bind hok
          refine kCi (wc := (wX9_look1 cy aM qM vM_152 vM_tape)) (wc2 := (wX9_look1 cy aM qM vM_152 vM_tape)) (wr := [(qM 12, rI cy 8 vM_letters)]) (ws2 := (wX9_next cy aM qM vM_152 vM_tape vM_letters)) (kRunV (As := [.int y1_152]) (rest := [.int ((10 : Int32) * (vM_152 7)), .ref aM]) ⟨hx, hb, hml, hown, ht0⟩ (kX9_look1 l D cy _ aM qM vM_152 vM_tape y1_152 r178 hc178 _ rfl) (cwV 1 ht0 (gV wd741 wd742 wd743 wd744 wd745) rfl rfl rfl (by decide +kernel) ⟨Nat.le_of_ble_eq_true rfl, Nat.le_of_ble_eq_true rfl⟩) hK hN hP hD [0, 1] rfl (by decide) 0 8 rfl rfl rfl hl.1 rfl (Nat.le_of_ble_eq_true rfl) dX9_next_178 ⟨Nat.zero_le _, Nat.zero_le _⟩) hP hD hS hA [0, 1] [2] rfl rfl (by decide) (by decide) [1, 2, 0] (by decide) rfl rfl (fun H locs hP hD hS => ?_)
          refine lv_iadd hx hb dX9_next_181 ?_
          refine lv_bipush (v := 48) hx hb dX9_next_182 (by decide) ?_
          refine lv_isub hx hb dX9_next_184 ?_
          refine va_put (D := D) (ci := 8) (v := .int ((((10 : Int32) * (vM_152 7)) + r178) - (48 : Int32))) (ty := .int) (C := RX9) (T := TX9) (N := 29) hx hb ht0 niX9 tyX9 tyX9_ok nmX9 hown hK hP hD hS 0 rfl rfl 7 (by decide) (ht0 _ wd750) (fun _ h9 => h9) rfl (by decide +kernel) rfl rfl (Nat.le_of_ble_eq_true rfl) dX9_next_185 (fun H locs hP hD hS => ?_)
          have hP : va_P D vwCl (wX9_next cy aM qM (upd vM_152 7 ((((10 : Int32) * (vM_152 7)) + r178) - (48 : Int32))) vM_tape vM_letters) H := hP
          have hD : va_D A (wX9_next cy aM qM (upd vM_152 7 ((((10 : Int32) * (vM_152 7)) + r178) - (48 : Int32))) vM_tape vM_letters) := hD
          exact J188 (upd vM_152 7 ((((10 : Int32) * (vM_152 7)) + r178) - (48 : Int32))) H locs ls hP hD hS (lv_sub hl [0, 1, 2] rfl) hok
  have J137 : ∀ (t0_137 : Int32) (vM_letters_137 : Nat → Int32) (vM_137 : Nat → Int32), ∀ (H : Heap) (locs : List Loc) (ls : Array Slot), va_P D vwCl (wX9_next cy aM qM vM_137 vM_tape vM_letters_137) H → va_D A (wX9_next cy aM qM vM_137 vM_tape vM_letters_137) → va_S A s.heap H locs → lv_has ls 4 [] → fX9_next_J137 t0_137 vM_letters_137 vM_137 = some (z_vM, z_vM_letters) → W p l e ({ frames := 1, cells := 0, slots := 0, locals := 21 } : Room) s m ([.ref aM] : List Value).toArray below meth c H locs 0 0 Q (F0 m 137 ls [.int t0_137, .ref aM]) := by
    intro t0_137 vM_letters_137 vM_137 H locs ls hP hD hS hl hok
    unfold fX9_next_J137 at hok
    refine va_put (D := D) (ci := 8) (v := .int t0_137) (ty := .int) (C := RX9) (T := TX9) (N := 29) hx hb ht0 niX9 tyX9 tyX9_ok nmX9 hown hK hP hD hS 0 rfl rfl 6 (by decide) (ht0 _ wd740) (fun _ h9 => h9) rfl (by decide +kernel) rfl rfl (Nat.le_of_ble_eq_true rfl) dX9_next_137 (fun H locs hP hD hS => ?_)
    have hP : va_P D vwCl (wX9_next cy aM qM (upd vM_137 6 t0_137) vM_tape vM_letters_137) H := hP
    have hD : va_D A (wX9_next cy aM qM (upd vM_137 6 t0_137) vM_tape vM_letters_137) := hD
    refine lv_goto (tgt := 241) hx hb dX9_next_140 (by decide) ?_
    exact J241 vM_letters_137 (upd vM_137 6 t0_137) H locs ls hP hD hS (lv_sub hl [] rfl) hok
  have L67 : ∀ (fuel : Nat) (y1_67 : Int32) (vM_letters_67 : Nat → Int32) (vM_67 : Nat → Int32), ∀ (H : Heap) (locs : List Loc) (ls : Array Slot), va_P D vwCl (wX9_next cy aM qM vM_67 vM_tape vM_letters_67) H → va_D A (wX9_next cy aM qM vM_67 vM_tape vM_letters_67) → va_S A s.heap H locs → lv_has ls 4 [(0, .ref aM), (1, .int y1_67)] → lp (fX9_next_B67 vM_tape) fuel (y1_67, vM_letters_67, vM_67) = some (z_vM, z_vM_letters) → W p l e ({ frames := 1, cells := 0, slots := 0, locals := 21 } : Room) s m ([.ref aM] : List Value).toArray below meth c H locs 0 0 Q (F0 m 67 ls []) := by
    intro fuel
    induction fuel with
    | zero => intro y1_67 vM_letters_67 vM_67 H locs ls hP hD hS hl hok; exact (lp_0 hok).elim
    | succ fuel ih67 =>
      intro y1_67 vM_letters_67 vM_67 H locs ls hP hD hS hl hok
      obtain ⟨y67, hok, hL67, hR67⟩ := lp_step hok
      have J101 : ∀ (vM_letters_101 : Nat → Int32), ∀ (H : Heap) (locs : List Loc) (ls : Array Slot), va_P D vwCl (wX9_next cy aM qM vM_67 vM_tape vM_letters_101) H → va_D A (wX9_next cy aM qM vM_67 vM_tape vM_letters_101) → va_S A s.heap H locs → lv_has ls 4 [(0, .ref aM), (1, .int y1_67)] → fX9_next_J101 y1_67 vM_67 vM_letters_101 = some y67 → W p l e ({ frames := 1, cells := 0, slots := 0, locals := 21 } : Room) s m ([.ref aM] : List Value).toArray below meth c H locs 0 0 Q (F0 m 101 ls []) := by
        intro vM_letters_101 H locs ls hP hD hS hl hok
        unfold fX9_next_J101 at hok
        refine lv_aload_n hx hb dX9_next_101 rfl (lv_at hl 0 rfl) ?_
        refine lv_dup hx hb dX9_next_102 rfl ?_
        refine va_get (D := D) (ci := 8) (v := .int (vM_67 8)) (C := RX9) (T := TX9) (N := 29) hx hb ht0 niX9 hown hK hP 0 rfl rfl 8 (by decide) (ht0 _ wd751) (fun _ h9 => h9) rfl dX9_next_103 ?_
        refine lv_iconst (v := 1) hx hb dX9_next_106 (by decide) ?_
        refine lv_iadd hx hb dX9_next_107 ?_
        refine va_put (D := D) (ci := 8) (v := .int ((vM_67 8) + (1 : Int32))) (ty := .int) (C := RX9) (T := TX9) (N := 29) hx hb ht0 niX9 tyX9 tyX9_ok nmX9 hown hK hP hD hS 0 rfl rfl 8 (by decide) (ht0 _ wd751) (fun _ h9 => h9) rfl (by decide +kernel) rfl rfl (Nat.le_of_ble_eq_true rfl) dX9_next_108 (fun H locs hP hD hS => ?_)
        have hP : va_P D vwCl (wX9_next cy aM qM (upd vM_67 8 ((vM_67 8) + (1 : Int32))) vM_tape vM_letters_101) H := hP
        have hD : va_D A (wX9_next cy aM qM (upd vM_67 8 ((vM_67 8) + (1 : Int32))) vM_tape vM_letters_101) := hD
        refine lv_iinc (v := (y1_67 + 1)) (lv' := [(1, .int (y1_67 + 1)), (0, .ref aM)]) hx hb dX9_next_111 hl (k := 1) rfl (by first | rfl | decide) (by decide) rfl (fun ls hl => ?_)
        refine lv_goto (tgt := 67) hx hb dX9_next_114 (by decide) ?_
        exact ih67 (y1_67 + 1) vM_letters_101 (upd vM_67 8 ((vM_67 8) + (1 : Int32))) H locs ls hP hD hS (lv_sub hl [1, 0] rfl) (hR67 _ (Option.some.inj hok).symm)
      unfold fX9_next_B67 at hok
      try dsimp only at hok
      refine lv_aload_n hx hb dX9_next_67 rfl (lv_at hl 0 rfl) ?_
      refine lv_iload_n hx hb dX9_next_68 rfl (lv_at hl 1 rfl) ?_
      obtain ⟨r69, hc69, hok⟩ := k_bind hok
      refine kCi (wc := (wX9_look1 cy aM qM vM_67 vM_tape)) (wc2 := (wX9_look1 cy aM qM vM_67 vM_tape)) (wr := [(qM 12, rI cy 8 vM_letters_67)]) (ws2 := (wX9_next cy aM qM vM_67 vM_tape vM_letters_67)) (kRunV (As := [.int y1_67]) (rest := []) ⟨hx, hb, hml, hown, ht0⟩ (kX9_look1 l D cy _ aM qM vM_67 vM_tape y1_67 r69 hc69 _ rfl) (cwV 1 ht0 (gV wd741 wd742 wd743 wd744 wd745) rfl rfl rfl (by decide +kernel) ⟨Nat.le_of_ble_eq_true rfl, Nat.le_of_ble_eq_true rfl⟩) hK hN hP hD [0, 1] rfl (by decide) 0 8 rfl rfl rfl hl.1 rfl (Nat.le_of_ble_eq_true rfl) dX9_next_69 ⟨Nat.zero_le _, Nat.zero_le _⟩) hP hD hS hA [0, 1] [2] rfl rfl (by decide) (by decide) [1, 2, 0] (by decide) rfl rfl (fun H locs hP hD hS => ?_)
      obtain ⟨r72, hc72, hok⟩ := k_bind hok
      refine kCi (wc := (wX9_isSmall cy )) (wc2 := (wX9_isSmall cy )) (wr := [(aM, oX9 vM_67 qM), (qM 1, rI cy 900 vM_tape), (qM 12, rI cy 8 vM_letters_67)]) (ws2 := (wX9_next cy aM qM vM_67 vM_tape vM_letters_67)) (kRunS (As := [.int r69]) (rest := []) ⟨hx, hb, hml, hown, ht0⟩ (kX9_isSmall l D cy _ r69 r72 hc72 _ rfl) (va_cwS 1 ht0 (gS wd752 wd753 wd744 wd754) rfl rfl rfl (by decide +kernel) ⟨Nat.le_of_ble_eq_true rfl, Nat.le_of_ble_eq_true rfl⟩) hK hN hP hD [] rfl (by decide) rfl hl.1 rfl (Nat.le_of_ble_eq_true rfl) dX9_next_72 ⟨Nat.zero_le _, Nat.zero_le _⟩) hP hD hS hA [] [0, 1, 2] rfl rfl (by decide) (by decide) [0, 1, 2] (by decide) rfl rfl (fun H locs hP hD hS => ?_)
      refine lv_if_eq (tgt := 117) hx hb dX9_next_75 (by decide) (fun c75 => ?_) (fun c75 => ?_)
      · have hok := k_pos c75 hok
        obtain ⟨e67, hok, he67⟩ := ex_some hok
        have hok := hok.trans (congrArg some (hL67 _ he67))
        refine lv_aload_n hx hb dX9_next_117 rfl (lv_at hl 0 rfl) ?_
        refine lv_iload_n hx hb dX9_next_118 rfl (lv_at hl 1 rfl) ?_
        refine va_put (D := D) (ci := 8) (v := .int y1_67) (ty := .int) (C := RX9) (T := TX9) (N := 29) hx hb ht0 niX9 tyX9 tyX9_ok nmX9 hown hK hP hD hS 0 rfl rfl 5 (by decide) (ht0 _ wd749) (fun _ h9 => h9) rfl (by decide +kernel) rfl rfl (Nat.le_of_ble_eq_true rfl) dX9_next_119 (fun H locs hP hD hS => ?_)
        have hP : va_P D vwCl (wX9_next cy aM qM (upd vM_67 5 y1_67) vM_tape vM_letters_67) H := hP
        have hD : va_D A (wX9_next cy aM qM (upd vM_67 5 y1_67) vM_tape vM_letters_67) := hD
        refine lv_aload_n hx hb dX9_next_122 rfl (lv_at hl 0 rfl) ?_
        refine lv_aload_n hx hb dX9_next_123 rfl (lv_at hl 0 rfl) ?_
        refine va_get (D := D) (ci := 8) (v := .int (vM_67 8)) (C := RX9) (T := TX9) (N := 29) hx hb ht0 niX9 hown hK hP 0 rfl rfl 8 (by decide) (ht0 _ wd751) (fun _ h9 => h9) rfl dX9_next_124 ?_
        refine lv_bipush (v := 8) hx hb dX9_next_127 (by decide) ?_
        refine lv_icmp_le (tgt := 136) hx hb dX9_next_129 (by decide) (fun c129 => ?_) (fun c129 => ?_)
        · have hok := k_pos c129 hok
          refine lv_iconst (v := 2) hx hb dX9_next_136 (by decide) ?_
          exact J137 (2 : Int32) vM_letters_67 (upd vM_67 5 y1_67) H locs ls hP hD hS (lv_sub hl [] rfl) hok
        · have hok := k_neg c129 hok
          refine lv_iconst (v := 1) hx hb dX9_next_132 (by decide) ?_
          refine lv_goto (tgt := 137) hx hb dX9_next_133 (by decide) ?_
          exact J137 (1 : Int32) vM_letters_67 (upd vM_67 5 y1_67) H locs ls hP hD hS (lv_sub hl [] rfl) hok
      · have hok := k_neg c75 hok
        refine lv_aload_n hx hb dX9_next_78 rfl (lv_at hl 0 rfl) ?_
        refine va_get (D := D) (ci := 8) (v := .int (vM_67 8)) (C := RX9) (T := TX9) (N := 29) hx hb ht0 niX9 hown hK hP 0 rfl rfl 8 (by decide) (ht0 _ wd751) (fun _ h9 => h9) rfl dX9_next_79 ?_
        refine lv_bipush (v := 8) hx hb dX9_next_82 (by decide) ?_
        refine lv_icmp_ge (tgt := 101) hx hb dX9_next_84 (by decide) (fun c84 => ?_) (fun c84 => ?_)
        · have hok := k_pos c84 hok
          exact J101 vM_letters_67 H locs ls hP hD hS (lv_sub hl [0, 1] rfl) hok
        · have hok := k_neg c84 hok
          refine lv_aload_n hx hb dX9_next_87 rfl (lv_at hl 0 rfl) ?_
          refine va_get (D := D) (ci := 8) (v := .ref (qM 12)) (C := RX9) (T := TX9) (N := 29) hx hb ht0 niX9 hown hK hP 0 rfl rfl 12 (by decide) (ht0 _ wd755) (fun _ h9 => h9) rfl dX9_next_88 ?_
          refine lv_aload_n hx hb dX9_next_91 rfl (lv_at hl 0 rfl) ?_
          refine va_get (D := D) (ci := 8) (v := .int (vM_67 8)) (C := RX9) (T := TX9) (N := 29) hx hb ht0 niX9 hown hK hP 0 rfl rfl 8 (by decide) (ht0 _ wd751) (fun _ h9 => h9) rfl dX9_next_92 ?_
          refine lv_aload_n hx hb dX9_next_95 rfl (lv_at hl 0 rfl) ?_
          refine lv_iload_n hx hb dX9_next_96 rfl (lv_at hl 1 rfl) ?_
          obtain ⟨r97, hc97, hok⟩ := k_bind hok
          refine kCi (wc := (wX9_look1 cy aM qM vM_67 vM_tape)) (wc2 := (wX9_look1 cy aM qM vM_67 vM_tape)) (wr := [(qM 12, rI cy 8 vM_letters_67)]) (ws2 := (wX9_next cy aM qM vM_67 vM_tape vM_letters_67)) (kRunV (As := [.int y1_67]) (rest := [.int (vM_67 8), .ref (qM 12)]) ⟨hx, hb, hml, hown, ht0⟩ (kX9_look1 l D cy _ aM qM vM_67 vM_tape y1_67 r97 hc97 _ rfl) (cwV 1 ht0 (gV wd741 wd742 wd743 wd744 wd745) rfl rfl rfl (by decide +kernel) ⟨Nat.le_of_ble_eq_true rfl, Nat.le_of_ble_eq_true rfl⟩) hK hN hP hD [0, 1] rfl (by decide) 0 8 rfl rfl rfl hl.1 rfl (Nat.le_of_ble_eq_true rfl) dX9_next_97 ⟨Nat.zero_le _, Nat.zero_le _⟩) hP hD hS hA [0, 1] [2] rfl rfl (by decide) (by decide) [1, 2, 0] (by decide) rfl rfl (fun H locs hP hD hS => ?_)
          obtain ⟨g100, hok⟩ := gd_some hok
          refine va_iast hx hb hK hP hD hS 2 0 rfl rfl (okI_in g100) dX9_next_100 (fun H locs hP hD hS => ?_)
          have hP : va_P D vwCl (wX9_next cy aM qM vM_67 vM_tape (upd vM_letters_67 (vM_67 8).toNatClampNeg r97)) H := hP
          have hD : va_D A (wX9_next cy aM qM vM_67 vM_tape (upd vM_letters_67 (vM_67 8).toNatClampNeg r97)) := hD
          exact J101 (upd vM_letters_67 (vM_67 8).toNatClampNeg r97) H locs ls hP hD hS (lv_sub hl [0, 1] rfl) hok
  have L5 : ∀ (fuel : Nat) (y1_5 : Int32), ∀ (H : Heap) (locs : List Loc) (ls : Array Slot), va_P D vwCl (wX9_next cy aM qM vM vM_tape vM_letters) H → va_D A (wX9_next cy aM qM vM vM_tape vM_letters) → va_S A s.heap H locs → lv_has ls 4 [(0, .ref aM), (1, .int y1_5)] → lp (fX9_next_B5 vM vM_tape vM_letters) fuel y1_5 = some (z_vM, z_vM_letters) → W p l e ({ frames := 1, cells := 0, slots := 0, locals := 21 } : Room) s m ([.ref aM] : List Value).toArray below meth c H locs 0 0 Q (F0 m 5 ls []) := by
    intro fuel
    induction fuel with
    | zero => intro y1_5 H locs ls hP hD hS hl hok; exact (lp_0 hok).elim
    | succ fuel ih5 =>
      intro y1_5 H locs ls hP hD hS hl hok
      obtain ⟨y5, hok, hL5, hR5⟩ := lp_step hok
      unfold fX9_next_B5 at hok
      refine lv_aload_n hx hb dX9_next_5 rfl (lv_at hl 0 rfl) ?_
      refine lv_iload_n hx hb dX9_next_6 rfl (lv_at hl 1 rfl) ?_
      obtain ⟨r7, hc7, hok⟩ := k_bind hok
      refine kCi (wc := (wX9_look1 cy aM qM vM vM_tape)) (wc2 := (wX9_look1 cy aM qM vM vM_tape)) (wr := [(qM 12, rI cy 8 vM_letters)]) (ws2 := (wX9_next cy aM qM vM vM_tape vM_letters)) (kRunV (As := [.int y1_5]) (rest := []) ⟨hx, hb, hml, hown, ht0⟩ (kX9_look1 l D cy _ aM qM vM vM_tape y1_5 r7 hc7 _ rfl) (cwV 1 ht0 (gV wd741 wd742 wd743 wd744 wd745) rfl rfl rfl (by decide +kernel) ⟨Nat.le_of_ble_eq_true rfl, Nat.le_of_ble_eq_true rfl⟩) hK hN hP hD [0, 1] rfl (by decide) 0 8 rfl rfl rfl hl.1 rfl (Nat.le_of_ble_eq_true rfl) dX9_next_7 ⟨Nat.zero_le _, Nat.zero_le _⟩) hP hD hS hA [0, 1] [2] rfl rfl (by decide) (by decide) [1, 2, 0] (by decide) rfl rfl (fun H locs hP hD hS => ?_)
      refine lv_bipush (v := 32) hx hb dX9_next_10 (by decide) ?_
      refine lv_icmp_ne (tgt := 21) hx hb dX9_next_12 (by decide) (fun c12 => ?_) (fun c12 => ?_)
      · have hok := k_neg c12 hok
        obtain ⟨e5, hok, he5⟩ := ex_some hok
        have hok := hok.trans (congrArg some (hL5 _ he5))
        refine lv_aload_n hx hb dX9_next_21 rfl (lv_at hl 0 rfl) ?_
        refine lv_iload_n hx hb dX9_next_22 rfl (lv_at hl 1 rfl) ?_
        refine va_put (D := D) (ci := 8) (v := .int y1_5) (ty := .int) (C := RX9) (T := TX9) (N := 29) hx hb ht0 niX9 tyX9 tyX9_ok nmX9 hown hK hP hD hS 0 rfl rfl 4 (by decide) (ht0 _ wd756) (fun _ h9 => h9) rfl (by decide +kernel) rfl rfl (Nat.le_of_ble_eq_true rfl) dX9_next_23 (fun H locs hP hD hS => ?_)
        have hP : va_P D vwCl (wX9_next cy aM qM (upd vM 4 y1_5) vM_tape vM_letters) H := hP
        have hD : va_D A (wX9_next cy aM qM (upd vM 4 y1_5) vM_tape vM_letters) := hD
        refine lv_aload_n hx hb dX9_next_26 rfl (lv_at hl 0 rfl) ?_
        refine lv_iload_n hx hb dX9_next_27 rfl (lv_at hl 1 rfl) ?_
        obtain ⟨r28, hc28, hok⟩ := k_bind hok
        refine kCi (wc := (wX9_look1 cy aM qM (upd vM 4 y1_5) vM_tape)) (wc2 := (wX9_look1 cy aM qM (upd vM 4 y1_5) vM_tape)) (wr := [(qM 12, rI cy 8 vM_letters)]) (ws2 := (wX9_next cy aM qM (upd vM 4 y1_5) vM_tape vM_letters)) (kRunV (As := [.int y1_5]) (rest := []) ⟨hx, hb, hml, hown, ht0⟩ (kX9_look1 l D cy _ aM qM (upd vM 4 y1_5) vM_tape y1_5 r28 hc28 _ rfl) (cwV 1 ht0 (gV wd741 wd742 wd743 wd744 wd745) rfl rfl rfl (by decide +kernel) ⟨Nat.le_of_ble_eq_true rfl, Nat.le_of_ble_eq_true rfl⟩) hK hN hP hD [0, 1] rfl (by decide) 0 8 rfl rfl rfl hl.1 rfl (Nat.le_of_ble_eq_true rfl) dX9_next_28 ⟨Nat.zero_le _, Nat.zero_le _⟩) hP hD hS hA [0, 1] [2] rfl rfl (by decide) (by decide) [1, 2, 0] (by decide) rfl rfl (fun H locs hP hD hS => ?_)
        refine lv_istore_n (lv' := [(2, .int r28), (0, .ref aM), (1, .int y1_5)]) hx hb dX9_next_31 rfl hl (by decide) rfl (fun ls hl => ?_)
        refine lv_aload_n hx hb dX9_next_32 rfl (lv_at hl 1 rfl) ?_
        refine lv_iconst (v := 0) hx hb dX9_next_33 (by decide) ?_
        refine va_put (D := D) (ci := 8) (v := .int 0) (ty := .int) (C := RX9) (T := TX9) (N := 29) hx hb ht0 niX9 tyX9 tyX9_ok nmX9 hown hK hP hD hS 0 rfl rfl 8 (by decide) (ht0 _ wd751) (fun _ h9 => h9) rfl (by decide +kernel) rfl rfl (Nat.le_of_ble_eq_true rfl) dX9_next_34 (fun H locs hP hD hS => ?_)
        have hP : va_P D vwCl (wX9_next cy aM qM (upd (upd vM 4 y1_5) 8 (0 : Int32)) vM_tape vM_letters) H := hP
        have hD : va_D A (wX9_next cy aM qM (upd (upd vM 4 y1_5) 8 (0 : Int32)) vM_tape vM_letters) := hD
        refine lv_aload_n hx hb dX9_next_37 rfl (lv_at hl 1 rfl) ?_
        refine lv_iconst (v := 0) hx hb dX9_next_38 (by decide) ?_
        refine va_put (D := D) (ci := 8) (v := .int 0) (ty := .int) (C := RX9) (T := TX9) (N := 29) hx hb ht0 niX9 tyX9 tyX9_ok nmX9 hown hK hP hD hS 0 rfl rfl 7 (by decide) (ht0 _ wd750) (fun _ h9 => h9) rfl (by decide +kernel) rfl rfl (Nat.le_of_ble_eq_true rfl) dX9_next_39 (fun H locs hP hD hS => ?_)
        have hP : va_P D vwCl (wX9_next cy aM qM (upd (upd (upd vM 4 y1_5) 7 (0 : Int32)) 8 (0 : Int32)) vM_tape vM_letters) H := hP
        have hD : va_D A (wX9_next cy aM qM (upd (upd (upd vM 4 y1_5) 7 (0 : Int32)) 8 (0 : Int32)) vM_tape vM_letters) := hD
        refine lv_iload_n hx hb dX9_next_42 rfl (lv_at hl 0 rfl) ?_
        refine lv_iconst (v := -1) hx hb dX9_next_43 (by decide) ?_
        refine lv_icmp_ne (tgt := 60) hx hb dX9_next_44 (by decide) (fun c44 => ?_) (fun c44 => ?_)
        · have hok := k_neg c44 hok
          refine lv_iload_n hx hb dX9_next_60 rfl (lv_at hl 0 rfl) ?_
          obtain ⟨r61, hc61, hok⟩ := k_bind hok
          refine kCi (wc := (wX9_isSmall cy )) (wc2 := (wX9_isSmall cy )) (wr := [(aM, oX9 (upd (upd (upd vM 4 y1_5) 7 (0 : Int32)) 8 (0 : Int32)) qM), (qM 1, rI cy 900 vM_tape), (qM 12, rI cy 8 vM_letters)]) (ws2 := (wX9_next cy aM qM (upd (upd (upd vM 4 y1_5) 7 (0 : Int32)) 8 (0 : Int32)) vM_tape vM_letters)) (kRunS (As := [.int r28]) (rest := []) ⟨hx, hb, hml, hown, ht0⟩ (kX9_isSmall l D cy _ r28 r61 hc61 _ rfl) (va_cwS 1 ht0 (gS wd752 wd753 wd744 wd754) rfl rfl rfl (by decide +kernel) ⟨Nat.le_of_ble_eq_true rfl, Nat.le_of_ble_eq_true rfl⟩) hK hN hP hD [] rfl (by decide) rfl hl.1 rfl (Nat.le_of_ble_eq_true rfl) dX9_next_61 ⟨Nat.zero_le _, Nat.zero_le _⟩) hP hD hS hA [] [0, 1, 2] rfl rfl (by decide) (by decide) [0, 1, 2] (by decide) rfl rfl (fun H locs hP hD hS => ?_)
          refine lv_if_eq (tgt := 143) hx hb dX9_next_64 (by decide) (fun c64 => ?_) (fun c64 => ?_)
          · have hok := k_pos c64 hok
            refine lv_iload_n hx hb dX9_next_143 rfl (lv_at hl 0 rfl) ?_
            obtain ⟨r144, hc144, hok⟩ := k_bind hok
            refine kCi (wc := (wX9_isDigit cy )) (wc2 := (wX9_isDigit cy )) (wr := [(aM, oX9 (upd (upd (upd vM 4 y1_5) 7 (0 : Int32)) 8 (0 : Int32)) qM), (qM 1, rI cy 900 vM_tape), (qM 12, rI cy 8 vM_letters)]) (ws2 := (wX9_next cy aM qM (upd (upd (upd vM 4 y1_5) 7 (0 : Int32)) 8 (0 : Int32)) vM_tape vM_letters)) (kRunS (As := [.int r28]) (rest := []) ⟨hx, hb, hml, hown, ht0⟩ (kX9_isDigit l D cy _ r28 r144 hc144 _ rfl) (va_cwS 1 ht0 (gS wd746 wd747 wd744 wd748) rfl rfl rfl (by decide +kernel) ⟨Nat.le_of_ble_eq_true rfl, Nat.le_of_ble_eq_true rfl⟩) hK hN hP hD [] rfl (by decide) rfl hl.1 rfl (Nat.le_of_ble_eq_true rfl) dX9_next_144 ⟨Nat.zero_le _, Nat.zero_le _⟩) hP hD hS hA [] [0, 1, 2] rfl rfl (by decide) (by decide) [0, 1, 2] (by decide) rfl rfl (fun H locs hP hD hS => ?_)
            refine lv_if_eq (tgt := 219) hx hb dX9_next_147 (by decide) (fun c147 => ?_) (fun c147 => ?_)
            · have hok := k_pos c147 hok
              refine lv_aload_n hx hb dX9_next_219 rfl (lv_at hl 1 rfl) ?_
              refine lv_iload_n hx hb dX9_next_220 rfl (lv_at hl 2 rfl) ?_
              refine lv_iconst (v := 1) hx hb dX9_next_221 (by decide) ?_
              refine lv_iadd hx hb dX9_next_222 ?_
              refine va_put (D := D) (ci := 8) (v := .int (y1_5 + (1 : Int32))) (ty := .int) (C := RX9) (T := TX9) (N := 29) hx hb ht0 niX9 tyX9 tyX9_ok nmX9 hown hK hP hD hS 0 rfl rfl 5 (by decide) (ht0 _ wd749) (fun _ h9 => h9) rfl (by decide +kernel) rfl rfl (Nat.le_of_ble_eq_true rfl) dX9_next_223 (fun H locs hP hD hS => ?_)
              have hP : va_P D vwCl (wX9_next cy aM qM (upd (upd (upd (upd vM 4 y1_5) 5 (y1_5 + (1 : Int32))) 7 (0 : Int32)) 8 (0 : Int32)) vM_tape vM_letters) H := hP
              have hD : va_D A (wX9_next cy aM qM (upd (upd (upd (upd vM 4 y1_5) 5 (y1_5 + (1 : Int32))) 7 (0 : Int32)) 8 (0 : Int32)) vM_tape vM_letters) := hD
              refine lv_aload_n hx hb dX9_next_226 rfl (lv_at hl 1 rfl) ?_
              refine lv_iload_n hx hb dX9_next_227 rfl (lv_at hl 0 rfl) ?_
              refine lv_bipush (v := 59) hx hb dX9_next_228 (by decide) ?_
              refine lv_icmp_ne (tgt := 237) hx hb dX9_next_230 (by decide) (fun c230 => ?_) (fun c230 => ?_)
              · have hok := k_neg c230 hok
                refine lv_iconst (v := 1) hx hb dX9_next_237 (by decide) ?_
                exact J238 (1 : Int32) (upd (upd (upd (upd vM 4 y1_5) 5 (y1_5 + (1 : Int32))) 7 (0 : Int32)) 8 (0 : Int32)) H locs ls hP hD hS (lv_sub hl [] rfl) hok
              · have hok := k_pos c230 hok
                refine lv_iload_n hx hb dX9_next_233 rfl (lv_at hl 0 rfl) ?_
                refine lv_goto (tgt := 238) hx hb dX9_next_234 (by decide) ?_
                exact J238 r28 (upd (upd (upd (upd vM 4 y1_5) 5 (y1_5 + (1 : Int32))) 7 (0 : Int32)) 8 (0 : Int32)) H locs ls hP hD hS (lv_sub hl [] rfl) hok
            · have hok := k_neg c147 hok
              refine lv_iconst (v := 0) hx hb dX9_next_150 (by decide) ?_
              refine lv_istore_n (lv' := [(3, .int 0), (2, .int r28), (0, .ref aM), (1, .int y1_5)]) hx hb dX9_next_151 rfl hl (by decide) rfl (fun ls hl => ?_)
              exact L152 5000 y1_5 (0 : Int32) (upd (upd (upd vM 4 y1_5) 7 (0 : Int32)) 8 (0 : Int32)) H locs ls hP hD hS (lv_sub hl [2, 3, 0] rfl) hok
          · have hok := k_neg c64 hok
            exact L67 5000 y1_5 vM_letters (upd (upd (upd vM 4 y1_5) 7 (0 : Int32)) 8 (0 : Int32)) H locs ls hP hD hS (lv_sub hl [1, 2] rfl) hok
        · have hok := k_pos c44 hok
          refine lv_aload_n hx hb dX9_next_47 rfl (lv_at hl 1 rfl) ?_
          refine lv_iconst (v := 0) hx hb dX9_next_48 (by decide) ?_
          refine va_put (D := D) (ci := 8) (v := .int 0) (ty := .int) (C := RX9) (T := TX9) (N := 29) hx hb ht0 niX9 tyX9 tyX9_ok nmX9 hown hK hP hD hS 0 rfl rfl 6 (by decide) (ht0 _ wd740) (fun _ h9 => h9) rfl (by decide +kernel) rfl rfl (Nat.le_of_ble_eq_true rfl) dX9_next_49 (fun H locs hP hD hS => ?_)
          have hP : va_P D vwCl (wX9_next cy aM qM (upd (upd (upd (upd vM 4 y1_5) 6 (0 : Int32)) 7 (0 : Int32)) 8 (0 : Int32)) vM_tape vM_letters) H := hP
          have hD : va_D A (wX9_next cy aM qM (upd (upd (upd (upd vM 4 y1_5) 6 (0 : Int32)) 7 (0 : Int32)) 8 (0 : Int32)) vM_tape vM_letters) := hD
          refine lv_aload_n hx hb dX9_next_52 rfl (lv_at hl 1 rfl) ?_
          refine lv_iload_n hx hb dX9_next_53 rfl (lv_at hl 2 rfl) ?_
          refine va_put (D := D) (ci := 8) (v := .int y1_5) (ty := .int) (C := RX9) (T := TX9) (N := 29) hx hb ht0 niX9 tyX9 tyX9_ok nmX9 hown hK hP hD hS 0 rfl rfl 5 (by decide) (ht0 _ wd749) (fun _ h9 => h9) rfl (by decide +kernel) rfl rfl (Nat.le_of_ble_eq_true rfl) dX9_next_54 (fun H locs hP hD hS => ?_)
          have hP : va_P D vwCl (wX9_next cy aM qM (upd (upd (upd (upd (upd vM 4 y1_5) 5 y1_5) 6 (0 : Int32)) 7 (0 : Int32)) 8 (0 : Int32)) vM_tape vM_letters) H := hP
          have hD : va_D A (wX9_next cy aM qM (upd (upd (upd (upd (upd vM 4 y1_5) 5 y1_5) 6 (0 : Int32)) 7 (0 : Int32)) 8 (0 : Int32)) vM_tape vM_letters) := hD
          refine lv_goto (tgt := 241) hx hb dX9_next_57 (by decide) ?_
          exact J241 vM_letters (upd (upd (upd (upd (upd vM 4 y1_5) 5 y1_5) 6 (0 : Int32)) 7 (0 : Int32)) 8 (0 : Int32)) H locs ls hP hD hS (lv_sub hl [] rfl) hok
      · have hok := k_pos c12 hok
        refine lv_iinc (v := (y1_5 + 1)) (lv' := [(1, .int (y1_5 + 1)), (0, .ref aM)]) hx hb dX9_next_15 hl (k := 1) rfl (by first | rfl | decide) (by decide) rfl (fun ls hl => ?_)
        refine lv_goto (tgt := 5) hx hb dX9_next_18 (by decide) ?_
        exact ih5 (y1_5 + 1) H locs ls hP hD hS (lv_sub hl [1, 0] rfl) (hR5 _ (Option.some.inj hok).symm)
  unfold fX9_next at hok
  obtain ⟨H, hH⟩ : ∃ H, H = s.heap := ⟨_, rfl⟩
  obtain ⟨locs, hlc⟩ : ∃ x : List Loc, x = [] := ⟨_, rfl⟩
  have hP : va_P D vwCl (wX9_next cy aM qM vM vM_tape vM_letters) H := by rw [hH]; exact hP
  have hS : va_S A s.heap H locs := by rw [hH, hlc]; exact hS
  rw [show W p l e _ s m _ below meth c s.heap [] = W p l e _ s m _ below meth c H locs from by rw [hH, hlc]]
  refine lv_aload_n hx hb dX9_next_0 rfl (lv_at hl 0 rfl) ?_
  refine va_get (D := D) (ci := 8) (v := .int (vM 5)) (C := RX9) (T := TX9) (N := 29) hx hb ht0 niX9 hown hK hP 0 rfl rfl 5 (by decide) (ht0 _ wd749) (fun _ h9 => h9) rfl dX9_next_1 ?_
  refine lv_istore_n (lv' := [(1, .int (vM 5)), (0, .ref aM)]) hx hb dX9_next_4 rfl hl (by decide) rfl (fun ls hl => ?_)
  exact L5 5000 (vM 5) H locs ls hP hD hS (lv_sub hl [1, 0] rfl) hok
def wsX9_wrong : List Cond := .code yX9_wrong cX9_wrong 3 none :: W0
abbrev wX9_wrong (cy : Nat → ClassId) (aM : Nat) (qM : Nat → Nat) (vM : Nat → Int32) : va_W := [(aM, oX9 vM qM)]
set_option maxHeartbeats 4000000 in
set_option maxRecDepth 100000 in
theorem kX9_wrong (l : Launch) (D : va_G) (cy : Nat → ClassId) (sz : Nat) (aM : Nat) (qM : Nat → Nat) (vM : Nat → Int32) (x1 : Int32) (x2 : Int32) (z_vM : Nat → Int32) (hok : fX9_wrong vM x1 x2 = some z_vM) (A : Nat → Prop) (hAe : va_A (wX9_wrong cy aM qM vM) sz = A) : Met l yX9_wrong wsX9_wrong ({ frames := 0, cells := 0, slots := 0, locals := 0 } : Room) (kPre D cy [.ref aM, .int x1, .int x2] (wX9_wrong cy aM qM vM) sz) (kQv D cy A (wX9_wrong cy aM qM z_vM)) 0 0 A := by
  refine Met.ofW (cc := cX9_wrong) (maxL := 3) (ret := none) (by decide) rfl ?_
  intro p e s m args below meth c s₁ B hml hv
  obtain ⟨rfl, hsz, hP, hK, hD0, hN⟩ := hv
  have hx := B.exec
  have hb := B.bytes
  have hr := B.returns
  have ht0 : ∀ w ∈ W0, w.before _ s = true := fun w h => atoms_spec (ws := wsX9_wrong) B.pre w (List.mem_cons_of_mem _ h)
  have hown : s.vm.findClass RX9 = some m.cls := findClass_of_methodNamed B.named
  have hlocks := B.notSynchronized
  subst hsz
  have hD : va_D A (wX9_wrong cy aM qM vM) := by rw [← hAe]; exact hD0.self
  have hA : ∀ q : Nat, s.heap.size ≤ q → A q := fun q h => by rw [← hAe]; exact Or.inr h
  have hS : va_S A s.heap s.heap [] := va_S.rf
  have hl := lv_entry ([.ref aM, .int x1, .int x2]) (n := 3) (Nat.le_of_ble_eq_true rfl)
  rw [lg_entry_eq]
  generalize (lg_sl ([.ref aM, .int x1, .int x2]) ++ List.replicate (3 - (lg_sl ([.ref aM, .int x1, .int x2])).length) Slot.unset).toArray = ls at hl ⊢
  have hl : lv_has ls 3 [(0, .ref aM), (1, .int x1), (2, .int x2)] := hl
  unfold fX9_wrong at hok
  obtain ⟨H, hH⟩ : ∃ H, H = s.heap := ⟨_, rfl⟩
  obtain ⟨locs, hlc⟩ : ∃ x : List Loc, x = [] := ⟨_, rfl⟩
  have hP : va_P D vwCl (wX9_wrong cy aM qM vM) H := by rw [hH]; exact hP
  have hS : va_S A s.heap H locs := by rw [hH, hlc]; exact hS
  rw [show W p l e _ s m _ below meth c s.heap [] = W p l e _ s m _ below meth c H locs from by rw [hH, hlc]]
  refine lv_aload_n hx hb dX9_wrong_0 rfl (lv_at hl 0 rfl) ?_
  refine va_get (D := D) (ci := 8) (v := .int (vM 13)) (C := RX9) (T := TX9) (N := 29) hx hb ht0 niX9 hown hK hP 0 rfl rfl 13 (by decide) (ht0 _ wd757) (fun _ h9 => h9) rfl dX9_wrong_1 ?_
  refine lv_if_eq (tgt := 8) hx hb dX9_wrong_4 (by decide) (fun c4 => ?_) (fun c4 => ?_)
  · have hok := k_pos c4 hok
    refine lv_aload_n hx hb dX9_wrong_8 rfl (lv_at hl 0 rfl) ?_
    refine lv_iconst (v := 1) hx hb dX9_wrong_9 (by decide) ?_
    refine va_put (D := D) (ci := 8) (v := .int 1) (ty := .boolean) (C := RX9) (T := TX9) (N := 29) hx hb ht0 niX9 tyX9 tyX9_ok nmX9 hown hK hP hD hS 0 rfl rfl 13 (by decide) (ht0 _ wd757) (fun _ h9 => h9) rfl (by decide +kernel) rfl rfl (Nat.le_of_ble_eq_true rfl) dX9_wrong_10 (fun H locs hP hD hS => ?_)
    have hP : va_P D vwCl (wX9_wrong cy aM qM (upd vM 13 (1 : Int32))) H := hP
    have hD : va_D A (wX9_wrong cy aM qM (upd vM 13 (1 : Int32))) := hD
    refine lv_aload_n hx hb dX9_wrong_13 rfl (lv_at hl 0 rfl) ?_
    refine lv_iload_n hx hb dX9_wrong_14 rfl (lv_at hl 1 rfl) ?_
    refine va_put (D := D) (ci := 8) (v := .int x1) (ty := .int) (C := RX9) (T := TX9) (N := 29) hx hb ht0 niX9 tyX9 tyX9_ok nmX9 hown hK hP hD hS 0 rfl rfl 9 (by decide) (ht0 _ wd758) (fun _ h9 => h9) rfl (by decide +kernel) rfl rfl (Nat.le_of_ble_eq_true rfl) dX9_wrong_15 (fun H locs hP hD hS => ?_)
    have hP : va_P D vwCl (wX9_wrong cy aM qM (upd (upd vM 9 x1) 13 (1 : Int32))) H := hP
    have hD : va_D A (wX9_wrong cy aM qM (upd (upd vM 9 x1) 13 (1 : Int32))) := hD
    refine lv_aload_n hx hb dX9_wrong_18 rfl (lv_at hl 0 rfl) ?_
    refine lv_iload_n hx hb dX9_wrong_19 rfl (lv_at hl 2 rfl) ?_
    refine va_put (D := D) (ci := 8) (v := .int x2) (ty := .int) (C := RX9) (T := TX9) (N := 29) hx hb ht0 niX9 tyX9 tyX9_ok nmX9 hown hK hP hD hS 0 rfl rfl 10 (by decide) (ht0 _ wd759) (fun _ h9 => h9) rfl (by decide +kernel) rfl rfl (Nat.le_of_ble_eq_true rfl) dX9_wrong_20 (fun H locs hP hD hS => ?_)
    have hP : va_P D vwCl (wX9_wrong cy aM qM (upd (upd (upd vM 9 x1) 10 x2) 13 (1 : Int32))) H := hP
    have hD : va_D A (wX9_wrong cy aM qM (upd (upd (upd vM 9 x1) 10 x2) 13 (1 : Int32))) := hD
    cases hok
    exact W.vret hx hb hr (fun t ht hW => ⟨⟨(), rfl, trivial, by rw [ht]; exact hP, va_K.moved hW.alike hK, hD⟩, hS.F ht⟩) hS.2.2 dX9_wrong_23
  · have hok := k_neg c4 hok
    cases hok
    exact W.vret hx hb hr (fun t ht hW => ⟨⟨(), rfl, trivial, by rw [ht]; exact hP, va_K.moved hW.alike hK, hD⟩, hS.F ht⟩) hS.2.2 dX9_wrong_7
def wsX9_isWord : List Cond := .code yX9_isWord cX9_isWord 4 (some .boolean) :: W0
abbrev wX9_isWord (cy : Nat → ClassId) (aM : Nat) (qM : Nat → Nat) (vM : Nat → Int32) (vM_letters : Nat → Int32) : va_W := [(aM, oX9 vM qM), (qM 12, rI cy 8 vM_letters)]
set_option maxHeartbeats 4000000 in
set_option maxRecDepth 100000 in
theorem kX9_isWord (l : Launch) (D : va_G) (cy : Nat → ClassId) (ad : (Nat → Nat) × (Nat → Nat)) (sz : Nat) (aM : Nat) (qM : Nat → Nat) (vM : Nat → Int32) (vM_letters : Nat → Int32) (x1 : Nat) (zr : Int32) (hok : fX9_isWord vM vM_letters x1 = some zr) (A : Nat → Prop) (hAe : va_A (wX9_isWord cy aM qM vM vM_letters) sz = A) : Met l yX9_isWord wsX9_isWord ({ frames := 4, cells := 0, slots := 0, locals := 85 } : Room) (kPreS D cy ad [.ref aM, .ref (ad.1 x1)] (wX9_isWord cy aM qM vM vM_letters) sz A) (kQi D cy zr A (wX9_isWord cy aM qM vM vM_letters)) 0 0 A := by
  refine Met.ofW (cc := cX9_isWord) (maxL := 4) (ret := (some .boolean)) (by decide) rfl ?_
  intro p e s m args below meth c s₁ B hml hv
  obtain ⟨rfl, ⟨hsz, hP, hK, hD0, hN⟩, hSt⟩ := hv
  have hx := B.exec
  have hb := B.bytes
  have hr := B.returns
  have ht0 : ∀ w ∈ W0, w.before _ s = true := fun w h => atoms_spec (ws := wsX9_isWord) B.pre w (List.mem_cons_of_mem _ h)
  have hown : s.vm.findClass RX9 = some m.cls := findClass_of_methodNamed B.named
  have hlocks := B.notSynchronized
  subst hsz
  have hD : va_D A (wX9_isWord cy aM qM vM vM_letters) := by rw [← hAe]; exact hD0.self
  have hA : ∀ q : Nat, s.heap.size ≤ q → A q := fun q h => by rw [← hAe]; exact Or.inr h
  have hS : va_S A s.heap s.heap [] := va_S.rf
  have hl := lv_entry ([.ref aM, .ref (ad.1 x1)]) (n := 4) (Nat.le_of_ble_eq_true rfl)
  rw [lg_entry_eq]
  generalize (lg_sl ([.ref aM, .ref (ad.1 x1)]) ++ List.replicate (4 - (lg_sl ([.ref aM, .ref (ad.1 x1)])).length) Slot.unset).toArray = ls at hl ⊢
  have hl : lv_has ls 4 [(0, .ref aM), (1, .ref (ad.1 x1))] := hl
  generalize hQe : MQ below (kQi D cy zr A (wX9_isWord cy aM qM vM vM_letters)) ([.ref aM, .ref (ad.1 x1)] : List Value).toArray s 0 0 A = Q
  have L32 : ∀ (fuel : Nat) (y2_32 : Int32) (y3_32 : Int32), ∀ (H : Heap) (locs : List Loc) (ls : Array Slot), va_P D vwCl (wX9_isWord cy aM qM vM vM_letters) H → va_D A (wX9_isWord cy aM qM vM vM_letters) → va_S A s.heap H locs → lv_has ls 4 [(0, .ref aM), (1, .ref (ad.1 x1)), (2, .int y2_32), (3, .int y3_32)] → lp (fX9_isWord_B32 vM vM_letters x1) fuel (y2_32, y3_32) = some zr → W p l e ({ frames := 4, cells := 0, slots := 0, locals := 85 } : Room) s m ([.ref aM, .ref (ad.1 x1)] : List Value).toArray below meth c H locs 0 0 Q (F0 m 32 ls []) := by
    intro fuel
    induction fuel with
    | zero => intro y2_32 y3_32 H locs ls hP hD hS hl hok; exact (lp_0 hok).elim
    | succ fuel ih32 =>
      intro y2_32 y3_32 H locs ls hP hD hS hl hok
      obtain ⟨y32, hok, hL32, hR32⟩ := lp_step hok
      have J63 : ∀ (t0_63 : Int32), ∀ (H : Heap) (locs : List Loc) (ls : Array Slot), va_P D vwCl (wX9_isWord cy aM qM vM vM_letters) H → va_D A (wX9_isWord cy aM qM vM vM_letters) → va_S A s.heap H locs → lv_has ls 4 [(0, .ref aM), (1, .ref (ad.1 x1)), (3, .int y3_32)] → fX9_isWord_J63 y3_32 t0_63 = some y32 → W p l e ({ frames := 4, cells := 0, slots := 0, locals := 85 } : Room) s m ([.ref aM, .ref (ad.1 x1)] : List Value).toArray below meth c H locs 0 0 Q (F0 m 63 ls [.int t0_63]) := by
        intro t0_63 H locs ls hP hD hS hl hok
        unfold fX9_isWord_J63 at hok
        refine lv_istore_n (lv' := [(2, .int t0_63), (0, .ref aM), (1, .ref (ad.1 x1)), (3, .int y3_32)]) hx hb dX9_isWord_63 rfl hl (by decide) rfl (fun ls hl => ?_)
        refine lv_iinc (v := (y3_32 + 1)) (lv' := [(3, .int (y3_32 + 1)), (2, .int t0_63), (0, .ref aM), (1, .ref (ad.1 x1))]) hx hb dX9_isWord_64 hl (k := 3) rfl (by first | rfl | decide) (by decide) rfl (fun ls hl => ?_)
        refine lv_goto (tgt := 32) hx hb dX9_isWord_67 (by decide) ?_
        exact ih32 t0_63 (y3_32 + 1) H locs ls hP hD hS (lv_sub hl [2, 3, 1, 0] rfl) (hR32 _ (Option.some.inj hok).symm)
      have J62 : ∀ (H : Heap) (locs : List Loc) (ls : Array Slot), va_P D vwCl (wX9_isWord cy aM qM vM vM_letters) H → va_D A (wX9_isWord cy aM qM vM vM_letters) → va_S A s.heap H locs → lv_has ls 4 [(0, .ref aM), (1, .ref (ad.1 x1)), (3, .int y3_32)] → fX9_isWord_J62 y3_32 = some y32 → W p l e ({ frames := 4, cells := 0, slots := 0, locals := 85 } : Room) s m ([.ref aM, .ref (ad.1 x1)] : List Value).toArray below meth c H locs 0 0 Q (F0 m 62 ls []) := by
        intro  H locs ls hP hD hS hl hok
        unfold fX9_isWord_J62 at hok
        refine lv_iconst (v := 0) hx hb dX9_isWord_62 (by decide) ?_
        exact J63 (0 : Int32) H locs ls hP hD hS (lv_sub hl [0, 1, 2] rfl) hok
      unfold fX9_isWord_B32 at hok
      try dsimp only at hok
      refine lv_iload_n hx hb dX9_isWord_32 rfl (lv_at hl 3 rfl) ?_
      refine lv_aload_n hx hb dX9_isWord_33 rfl (lv_at hl 0 rfl) ?_
      refine va_get (D := D) (ci := 8) (v := .int (vM 8)) (C := RX9) (T := TX9) (N := 29) hx hb ht0 niX9 hown hK hP 0 rfl rfl 8 (by decide) (ht0 _ wd751) (fun _ h9 => h9) rfl dX9_isWord_34 ?_
      refine lv_icmp_ge (tgt := 70) hx hb dX9_isWord_37 (by decide) (fun c37 => ?_) (fun c37 => ?_)
      · have hok := k_pos c37 hok
        obtain ⟨e32, hok, he32⟩ := ex_some hok
        have hok := hok.trans (congrArg some (hL32 _ he32))
        refine lv_iload_n hx hb dX9_isWord_70 rfl (lv_at hl 2 rfl) ?_
        obtain ⟨g71, hok⟩ := gd_some hok
        cases hok
        subst hQe; exact W.zret hx hb hr (isB_nar g71) (fun t ht hW => ⟨⟨_, (), rfl, rfl, by rw [ht]; exact hP, va_K.moved hW.alike hK, hD⟩, hS.F ht⟩) hS.2.2 dX9_isWord_71
      · have hok := k_neg c37 hok
        refine lv_iload_n hx hb dX9_isWord_40 rfl (lv_at hl 2 rfl) ?_
        refine lv_if_eq (tgt := 62) hx hb dX9_isWord_41 (by decide) (fun c41 => ?_) (fun c41 => ?_)
        · have hok := k_pos c41 hok
          exact J62  H locs ls hP hD hS (lv_sub hl [0, 1, 3] rfl) hok
        · have hok := k_neg c41 hok
          refine lv_aload_n hx hb dX9_isWord_44 rfl (lv_at hl 0 rfl) ?_
          refine va_get (D := D) (ci := 8) (v := .ref (qM 12)) (C := RX9) (T := TX9) (N := 29) hx hb ht0 niX9 hown hK hP 0 rfl rfl 12 (by decide) (ht0 _ wd755) (fun _ h9 => h9) rfl dX9_isWord_45 ?_
          refine lv_iload_n hx hb dX9_isWord_48 rfl (lv_at hl 3 rfl) ?_
          obtain ⟨g49, hok⟩ := gd_some hok
          refine va_iald hx hb hK hP 1 0 rfl rfl (okI_in g49) dX9_isWord_49 ?_
          refine lv_aload_n hx hb dX9_isWord_50 rfl (lv_at hl 1 rfl) ?_
          refine lv_iload_n hx hb dX9_isWord_51 rfl (lv_at hl 3 rfl) ?_
          obtain ⟨gs52, hok⟩ := gd_some hok
          obtain ⟨r52, hc52, hok⟩ := k_bind hok
          refine kCi (wc := (wJ0_charAt_5068e cy )) (wc2 := (wJ0_charAt_5068e cy )) (wr := [(aM, oX9 vM qM), (qM 12, rI cy 8 vM_letters)]) (ws2 := (wX9_isWord cy aM qM vM vM_letters)) (kRunVT (As := [.int y3_32]) (rest := [.int (vM_letters y3_32.toNatClampNeg)]) ⟨hx, hb, hml, hown, ht0⟩ (kJ0_charAt_5068e l D cy ad _ x1 y3_32 r52 hc52 _ rfl) (cwV 1 ht0 (gV wd760 wd321 wd322 wd292 wd323) rfl rfl rfl (by decide +kernel) ⟨Nat.le_of_ble_eq_true rfl, Nat.le_of_ble_eq_true rfl⟩) hK hN hP hD hSt hS hA [] rfl (by decide) (okS_lt gs52) rfl hl.1 rfl (Nat.le_of_ble_eq_true rfl) dX9_isWord_52 ⟨Nat.zero_le _, Nat.zero_le _⟩) hP hD hS hA [] [0, 1] rfl rfl (by decide) (by decide) [0, 1] (by decide) rfl rfl (fun H locs hP hD hS => ?_)
          refine lv_icmp_ne (tgt := 62) hx hb dX9_isWord_55 (by decide) (fun c55 => ?_) (fun c55 => ?_)
          · have hok := k_neg c55 hok
            exact J62  H locs ls hP hD hS (lv_sub hl [0, 1, 3] rfl) hok
          · have hok := k_pos c55 hok
            refine lv_iconst (v := 1) hx hb dX9_isWord_58 (by decide) ?_
            refine lv_goto (tgt := 63) hx hb dX9_isWord_59 (by decide) ?_
            exact J63 (1 : Int32) H locs ls hP hD hS (lv_sub hl [0, 1, 3] rfl) hok
  have J26 : ∀ (H : Heap) (locs : List Loc) (ls : Array Slot), va_P D vwCl (wX9_isWord cy aM qM vM vM_letters) H → va_D A (wX9_isWord cy aM qM vM vM_letters) → va_S A s.heap H locs → lv_has ls 4 [] → fX9_isWord_J26 = some zr → W p l e ({ frames := 4, cells := 0, slots := 0, locals := 85 } : Room) s m ([.ref aM, .ref (ad.1 x1)] : List Value).toArray below meth c H locs 0 0 Q (F0 m 26 ls []) := by
    intro  H locs ls hP hD hS hl hok
    unfold fX9_isWord_J26 at hok
    refine lv_iconst (v := 0) hx hb dX9_isWord_26 (by decide) ?_
    cases hok
    subst hQe; exact W.zret hx hb hr rfl (fun t ht hW => ⟨⟨_, (), rfl, rfl, by rw [ht]; exact hP, va_K.moved hW.alike hK, hD⟩, hS.F ht⟩) hS.2.2 dX9_isWord_27
  unfold fX9_isWord at hok
  obtain ⟨H, hH⟩ : ∃ H, H = s.heap := ⟨_, rfl⟩
  obtain ⟨locs, hlc⟩ : ∃ x : List Loc, x = [] := ⟨_, rfl⟩
  have hP : va_P D vwCl (wX9_isWord cy aM qM vM vM_letters) H := by rw [hH]; exact hP
  have hS : va_S A s.heap H locs := by rw [hH, hlc]; exact hS
  rw [show W p l e _ s m _ below meth c s.heap [] = W p l e _ s m _ below meth c H locs from by rw [hH, hlc]]
  refine lv_aload_n hx hb dX9_isWord_0 rfl (lv_at hl 0 rfl) ?_
  refine va_get (D := D) (ci := 8) (v := .int (vM 13)) (C := RX9) (T := TX9) (N := 29) hx hb ht0 niX9 hown hK hP 0 rfl rfl 13 (by decide) (ht0 _ wd757) (fun _ h9 => h9) rfl dX9_isWord_1 ?_
  refine lv_if_ne (tgt := 26) hx hb dX9_isWord_4 (by decide) (fun c4 => ?_) (fun c4 => ?_)
  · have hok := k_neg c4 hok
    exact J26  H locs ls hP hD hS (lv_sub hl [] rfl) hok
  · have hok := k_pos c4 hok
    refine lv_aload_n hx hb dX9_isWord_7 rfl (lv_at hl 0 rfl) ?_
    refine va_get (D := D) (ci := 8) (v := .int (vM 6)) (C := RX9) (T := TX9) (N := 29) hx hb ht0 niX9 hown hK hP 0 rfl rfl 6 (by decide) (ht0 _ wd740) (fun _ h9 => h9) rfl dX9_isWord_8 ?_
    refine lv_iconst (v := 2) hx hb dX9_isWord_11 (by decide) ?_
    refine lv_icmp_ne (tgt := 26) hx hb dX9_isWord_12 (by decide) (fun c12 => ?_) (fun c12 => ?_)
    · have hok := k_neg c12 hok
      exact J26  H locs ls hP hD hS (lv_sub hl [] rfl) hok
    · have hok := k_pos c12 hok
      refine lv_aload_n hx hb dX9_isWord_15 rfl (lv_at hl 0 rfl) ?_
      refine va_get (D := D) (ci := 8) (v := .int (vM 8)) (C := RX9) (T := TX9) (N := 29) hx hb ht0 niX9 hown hK hP 0 rfl rfl 8 (by decide) (ht0 _ wd751) (fun _ h9 => h9) rfl dX9_isWord_16 ?_
      refine lv_aload_n hx hb dX9_isWord_19 rfl (lv_at hl 1 rfl) ?_
      obtain ⟨gs20, hok⟩ := gd_some hok
      obtain ⟨r20, hc20, hok⟩ := k_bind hok
      refine kCi (wc := (wJ0_length_8abf5 cy )) (wc2 := (wJ0_length_8abf5 cy )) (wr := [(aM, oX9 vM qM), (qM 12, rI cy 8 vM_letters)]) (ws2 := (wX9_isWord cy aM qM vM vM_letters)) (kRunVT (As := []) (rest := [.int (vM 8)]) ⟨hx, hb, hml, hown, ht0⟩ (kJ0_length_8abf5 l D cy ad _ x1 r20 hc20 _ rfl) (cwV 0 ht0 (gV wd761 wd317 wd318 wd292 wd319) rfl rfl rfl (by decide +kernel) ⟨Nat.le_of_ble_eq_true rfl, Nat.le_of_ble_eq_true rfl⟩) hK hN hP hD hSt hS hA [] rfl (by decide) (okS_lt gs20) rfl hl.1 rfl (Nat.le_of_ble_eq_true rfl) dX9_isWord_20 ⟨Nat.zero_le _, Nat.zero_le _⟩) hP hD hS hA [] [0, 1] rfl rfl (by decide) (by decide) [0, 1] (by decide) rfl rfl (fun H locs hP hD hS => ?_)
      refine lv_icmp_eq (tgt := 28) hx hb dX9_isWord_23 (by decide) (fun c23 => ?_) (fun c23 => ?_)
      · have hok := k_pos c23 hok
        refine lv_iconst (v := 1) hx hb dX9_isWord_28 (by decide) ?_
        refine lv_istore_n (lv' := [(2, .int 1), (0, .ref aM), (1, .ref (ad.1 x1))]) hx hb dX9_isWord_29 rfl hl (by decide) rfl (fun ls hl => ?_)
        refine lv_iconst (v := 0) hx hb dX9_isWord_30 (by decide) ?_
        refine lv_istore_n (lv' := [(3, .int 0), (2, .int 1), (0, .ref aM), (1, .ref (ad.1 x1))]) hx hb dX9_isWord_31 rfl hl (by decide) rfl (fun ls hl => ?_)
        exact L32 5000 (1 : Int32) (0 : Int32) H locs ls hP hD hS (lv_sub hl [2, 3, 1, 0] rfl) hok
      · have hok := k_neg c23 hok
        exact J26  H locs ls hP hD hS (lv_sub hl [] rfl) hok
def wsX9_takesWord : List Cond := .code yX9_takesWord cX9_takesWord 2 (some .boolean) :: W0
abbrev wX9_takesWord (cy : Nat → ClassId) (aM : Nat) (qM : Nat → Nat) (vM : Nat → Int32) (vM_letters : Nat → Int32) (vM_tape : Nat → Int32) : va_W := [(aM, oX9 vM qM), (qM 12, rI cy 8 vM_letters), (qM 1, rI cy 900 vM_tape)]
set_option maxHeartbeats 4000000 in
set_option maxRecDepth 100000 in
theorem kX9_takesWord (l : Launch) (D : va_G) (cy : Nat → ClassId) (ad : (Nat → Nat) × (Nat → Nat)) (sz : Nat) (aM : Nat) (qM : Nat → Nat) (vM : Nat → Int32) (vM_letters : Nat → Int32) (vM_tape : Nat → Int32) (x1 : Nat) (zr : Int32) (z_vM : Nat → Int32) (z_vM_letters : Nat → Int32) (hok : fX9_takesWord vM vM_letters vM_tape x1 = some (zr, z_vM, z_vM_letters)) (A : Nat → Prop) (hAe : va_A (wX9_takesWord cy aM qM vM vM_letters vM_tape) sz = A) : Met l yX9_takesWord wsX9_takesWord ({ frames := 5, cells := 0, slots := 0, locals := 108 } : Room) (kPreS D cy ad [.ref aM, .ref (ad.1 x1)] (wX9_takesWord cy aM qM vM vM_letters vM_tape) sz A) (kQi D cy zr A (wX9_takesWord cy aM qM z_vM z_vM_letters vM_tape)) 0 0 A := by
  refine Met.ofW (cc := cX9_takesWord) (maxL := 2) (ret := (some .boolean)) (by decide) rfl ?_
  intro p e s m args below meth c s₁ B hml hv
  obtain ⟨rfl, ⟨hsz, hP, hK, hD0, hN⟩, hSt⟩ := hv
  have hx := B.exec
  have hb := B.bytes
  have hr := B.returns
  have ht0 : ∀ w ∈ W0, w.before _ s = true := fun w h => atoms_spec (ws := wsX9_takesWord) B.pre w (List.mem_cons_of_mem _ h)
  have hown : s.vm.findClass RX9 = some m.cls := findClass_of_methodNamed B.named
  have hlocks := B.notSynchronized
  subst hsz
  have hD : va_D A (wX9_takesWord cy aM qM vM vM_letters vM_tape) := by rw [← hAe]; exact hD0.self
  have hA : ∀ q : Nat, s.heap.size ≤ q → A q := fun q h => by rw [← hAe]; exact Or.inr h
  have hS : va_S A s.heap s.heap [] := va_S.rf
  have hl := lv_entry ([.ref aM, .ref (ad.1 x1)]) (n := 2) (Nat.le_of_ble_eq_true rfl)
  rw [lg_entry_eq]
  generalize (lg_sl ([.ref aM, .ref (ad.1 x1)]) ++ List.replicate (2 - (lg_sl ([.ref aM, .ref (ad.1 x1)])).length) Slot.unset).toArray = ls at hl ⊢
  have hl : lv_has ls 2 [(0, .ref aM), (1, .ref (ad.1 x1))] := hl
  unfold fX9_takesWord at hok
  obtain ⟨H, hH⟩ : ∃ H, H = s.heap := ⟨_, rfl⟩
  obtain ⟨locs, hlc⟩ : ∃ x : List Loc, x = [] := ⟨_, rfl⟩
  have hP : va_P D vwCl (wX9_takesWord cy aM qM vM vM_letters vM_tape) H := by rw [hH]; exact hP
  have hS : va_S A s.heap H locs := by rw [hH, hlc]; exact hS
  rw [show W p l e _ s m _ below meth c s.heap [] = W p l e _ s m _ below meth c H locs from by rw [hH, hlc]]
  refine lv_aload_n hx hb dX9_takesWord_0 rfl (lv_at hl 0 rfl) ?_
  refine lv_aload_n hx hb dX9_takesWord_1 rfl (lv_at hl 1 rfl) ?_
  obtain ⟨r2, hc2, hok⟩ := k_bind hok
  refine kCi (wc := (wX9_isWord cy aM qM vM vM_letters)) (wc2 := (wX9_isWord cy aM qM vM vM_letters)) (wr := [(qM 1, rI cy 900 vM_tape)]) (ws2 := (wX9_takesWord cy aM qM vM vM_letters vM_tape)) (kRunVS (As := [.ref (ad.1 x1)]) (rest := []) ⟨hx, hb, hml, hown, ht0⟩ (kX9_isWord l D cy ad _ aM qM vM vM_letters x1 r2 hc2 _ rfl) (cwV 1 ht0 (gV wd762 wd763 wd764 wd744 wd765) rfl rfl rfl (by decide +kernel) ⟨Nat.le_of_ble_eq_true rfl, Nat.le_of_ble_eq_true rfl⟩) hK hN hP hD hSt hS hA [0, 1] rfl (by decide) 0 8 rfl rfl rfl hl.1 rfl (Nat.le_of_ble_eq_true rfl) dX9_takesWord_2 ⟨Nat.zero_le _, Nat.zero_le _⟩) hP hD hS hA [0, 1] [2] rfl rfl (by decide) (by decide) [1, 2, 0] (by decide) rfl rfl (fun H locs hP hD hS => ?_)
  refine lv_if_ne (tgt := 10) hx hb dX9_takesWord_5 (by decide) (fun c5 => ?_) (fun c5 => ?_)
  · have hok := k_neg c5 hok
    refine lv_aload_n hx hb dX9_takesWord_10 rfl (lv_at hl 0 rfl) ?_
    obtain ⟨⟨vM_11, vM_letters_11⟩, hc11, hok⟩ := k_bind hok
    try dsimp only at hok
    refine kCv (wc := (wX9_next cy aM qM vM vM_tape vM_letters)) (wc2 := (wX9_next cy aM qM vM_11 vM_tape vM_letters_11)) (wr := []) (ws2 := (wX9_takesWord cy aM qM vM_11 vM_letters_11 vM_tape)) (kRunV (As := []) (rest := []) ⟨hx, hb, hml, hown, ht0⟩ (kX9_next l D cy _ aM qM vM vM_tape vM_letters vM_11 vM_letters_11 hc11 _ rfl) (cwV 0 ht0 (gV wd766 wd767 wd768 wd744 wd769) rfl rfl rfl (by decide +kernel) ⟨Nat.le_of_ble_eq_true rfl, Nat.le_of_ble_eq_true rfl⟩) hK hN hP hD [0, 2, 1] rfl (by decide) 0 8 rfl rfl rfl hl.1 rfl (Nat.le_of_ble_eq_true rfl) dX9_takesWord_11 ⟨Nat.zero_le _, Nat.zero_le _⟩) hP hD hS hA [0, 2, 1] [] rfl rfl (by decide) (by decide) [0, 2, 1] (by decide) rfl rfl (fun H locs hP hD hS => ?_)
    refine lv_iconst (v := 1) hx hb dX9_takesWord_14 (by decide) ?_
    cases hok
    exact W.zret hx hb hr rfl (fun t ht hW => ⟨⟨_, (), rfl, rfl, by rw [ht]; exact hP, va_K.moved hW.alike hK, hD⟩, hS.F ht⟩) hS.2.2 dX9_takesWord_15
  · have hok := k_pos c5 hok
    refine lv_iconst (v := 0) hx hb dX9_takesWord_8 (by decide) ?_
    cases hok
    exact W.zret hx hb hr rfl (fun t ht hW => ⟨⟨_, (), rfl, rfl, by rw [ht]; exact hP, va_K.moved hW.alike hK, hD⟩, hS.F ht⟩) hS.2.2 dX9_takesWord_9
def wsX9_must : List Cond := .code yX9_must cX9_must 2 none :: W0
abbrev wX9_must (cy : Nat → ClassId) (aM : Nat) (qM : Nat → Nat) (vM : Nat → Int32) (vM_letters : Nat → Int32) (vM_tape : Nat → Int32) : va_W := [(aM, oX9 vM qM), (qM 12, rI cy 8 vM_letters), (qM 1, rI cy 900 vM_tape)]
set_option maxHeartbeats 4000000 in
set_option maxRecDepth 100000 in
theorem kX9_must (l : Launch) (D : va_G) (cy : Nat → ClassId) (ad : (Nat → Nat) × (Nat → Nat)) (sz : Nat) (aM : Nat) (qM : Nat → Nat) (vM : Nat → Int32) (vM_letters : Nat → Int32) (vM_tape : Nat → Int32) (x1 : Nat) (z_vM : Nat → Int32) (z_vM_letters : Nat → Int32) (hok : fX9_must vM vM_letters vM_tape x1 = some (z_vM, z_vM_letters)) (A : Nat → Prop) (hAe : va_A (wX9_must cy aM qM vM vM_letters vM_tape) sz = A) : Met l yX9_must wsX9_must ({ frames := 6, cells := 0, slots := 0, locals := 129 } : Room) (kPreS D cy ad [.ref aM, .ref (ad.1 x1)] (wX9_must cy aM qM vM vM_letters vM_tape) sz A) (kQv D cy A (wX9_must cy aM qM z_vM z_vM_letters vM_tape)) 0 0 A := by
  refine Met.ofW (cc := cX9_must) (maxL := 2) (ret := none) (by decide) rfl ?_
  intro p e s m args below meth c s₁ B hml hv
  obtain ⟨rfl, ⟨hsz, hP, hK, hD0, hN⟩, hSt⟩ := hv
  have hx := B.exec
  have hb := B.bytes
  have hr := B.returns
  have ht0 : ∀ w ∈ W0, w.before _ s = true := fun w h => atoms_spec (ws := wsX9_must) B.pre w (List.mem_cons_of_mem _ h)
  have hown : s.vm.findClass RX9 = some m.cls := findClass_of_methodNamed B.named
  have hlocks := B.notSynchronized
  subst hsz
  have hD : va_D A (wX9_must cy aM qM vM vM_letters vM_tape) := by rw [← hAe]; exact hD0.self
  have hA : ∀ q : Nat, s.heap.size ≤ q → A q := fun q h => by rw [← hAe]; exact Or.inr h
  have hS : va_S A s.heap s.heap [] := va_S.rf
  have hl := lv_entry ([.ref aM, .ref (ad.1 x1)]) (n := 2) (Nat.le_of_ble_eq_true rfl)
  rw [lg_entry_eq]
  generalize (lg_sl ([.ref aM, .ref (ad.1 x1)]) ++ List.replicate (2 - (lg_sl ([.ref aM, .ref (ad.1 x1)])).length) Slot.unset).toArray = ls at hl ⊢
  have hl : lv_has ls 2 [(0, .ref aM), (1, .ref (ad.1 x1))] := hl
  generalize hQe : MQ below (kQv D cy A (wX9_must cy aM qM z_vM z_vM_letters vM_tape)) ([.ref aM, .ref (ad.1 x1)] : List Value).toArray s 0 0 A = Q
  have J24 : ∀ (vM_letters_24 : Nat → Int32) (vM_24 : Nat → Int32), ∀ (H : Heap) (locs : List Loc) (ls : Array Slot), va_P D vwCl (wX9_must cy aM qM vM_24 vM_letters_24 vM_tape) H → va_D A (wX9_must cy aM qM vM_24 vM_letters_24 vM_tape) → va_S A s.heap H locs → lv_has ls 2 [] → fX9_must_J24 vM_letters_24 vM_24 = some (z_vM, z_vM_letters) → W p l e ({ frames := 6, cells := 0, slots := 0, locals := 129 } : Room) s m ([.ref aM, .ref (ad.1 x1)] : List Value).toArray below meth c H locs 0 0 Q (F0 m 24 ls []) := by
    intro vM_letters_24 vM_24 H locs ls hP hD hS hl hok
    unfold fX9_must_J24 at hok
    cases hok
    subst hQe; exact W.vret hx hb hr (fun t ht hW => ⟨⟨(), rfl, trivial, by rw [ht]; exact hP, va_K.moved hW.alike hK, hD⟩, hS.F ht⟩) hS.2.2 dX9_must_24
  unfold fX9_must at hok
  obtain ⟨H, hH⟩ : ∃ H, H = s.heap := ⟨_, rfl⟩
  obtain ⟨locs, hlc⟩ : ∃ x : List Loc, x = [] := ⟨_, rfl⟩
  have hP : va_P D vwCl (wX9_must cy aM qM vM vM_letters vM_tape) H := by rw [hH]; exact hP
  have hS : va_S A s.heap H locs := by rw [hH, hlc]; exact hS
  rw [show W p l e _ s m _ below meth c s.heap [] = W p l e _ s m _ below meth c H locs from by rw [hH, hlc]]
  refine lv_aload_n hx hb dX9_must_0 rfl (lv_at hl 0 rfl) ?_
  refine va_get (D := D) (ci := 8) (v := .int (vM 13)) (C := RX9) (T := TX9) (N := 29) hx hb ht0 niX9 hown hK hP 0 rfl rfl 13 (by decide) (ht0 _ wd757) (fun _ h9 => h9) rfl dX9_must_1 ?_
  refine lv_if_ne (tgt := 24) hx hb dX9_must_4 (by decide) (fun c4 => ?_) (fun c4 => ?_)
  · have hok := k_neg c4 hok
    exact J24 vM_letters vM H locs ls hP hD hS (lv_sub hl [] rfl) hok
  · have hok := k_pos c4 hok
    refine lv_aload_n hx hb dX9_must_7 rfl (lv_at hl 0 rfl) ?_
    refine lv_aload_n hx hb dX9_must_8 rfl (lv_at hl 1 rfl) ?_
    obtain ⟨⟨r9, vM_9, vM_letters_9⟩, hc9, hok⟩ := k_bind hok
    try dsimp only at hok
    refine kCi (wc := (wX9_takesWord cy aM qM vM vM_letters vM_tape)) (wc2 := (wX9_takesWord cy aM qM vM_9 vM_letters_9 vM_tape)) (wr := []) (ws2 := (wX9_must cy aM qM vM_9 vM_letters_9 vM_tape)) (kRunVS (As := [.ref (ad.1 x1)]) (rest := []) ⟨hx, hb, hml, hown, ht0⟩ (kX9_takesWord l D cy ad _ aM qM vM vM_letters vM_tape x1 r9 vM_9 vM_letters_9 hc9 _ rfl) (cwV 1 ht0 (gV wd770 wd771 wd772 wd744 wd773) rfl rfl rfl (by decide +kernel) ⟨Nat.le_of_ble_eq_true rfl, Nat.le_of_ble_eq_true rfl⟩) hK hN hP hD hSt hS hA [0, 1, 2] rfl (by decide) 0 8 rfl rfl rfl hl.1 rfl (Nat.le_of_ble_eq_true rfl) dX9_must_9 ⟨Nat.zero_le _, Nat.zero_le _⟩) hP hD hS hA [0, 1, 2] [] rfl rfl (by decide) (by decide) [0, 1, 2] (by decide) rfl rfl (fun H locs hP hD hS => ?_)
    refine lv_if_ne (tgt := 24) hx hb dX9_must_12 (by decide) (fun c12 => ?_) (fun c12 => ?_)
    · have hok := k_neg c12 hok
      exact J24 vM_letters_9 vM_9 H locs ls hP hD hS (lv_sub hl [] rfl) hok
    · have hok := k_pos c12 hok
      refine lv_aload_n hx hb dX9_must_15 rfl (lv_at hl 0 rfl) ?_
      refine lv_iconst (v := 1) hx hb dX9_must_16 (by decide) ?_
      refine lv_aload_n hx hb dX9_must_17 rfl (lv_at hl 0 rfl) ?_
      refine va_get (D := D) (ci := 8) (v := .int (vM_9 4)) (C := RX9) (T := TX9) (N := 29) hx hb ht0 niX9 hown hK hP 0 rfl rfl 4 (by decide) (ht0 _ wd756) (fun _ h9 => h9) rfl dX9_must_18 ?_
      obtain ⟨vM_21, hc21, hok⟩ := k_bind hok
      refine kCv (wc := (wX9_wrong cy aM qM vM_9)) (wc2 := (wX9_wrong cy aM qM vM_21)) (wr := [(qM 12, rI cy 8 vM_letters_9), (qM 1, rI cy 900 vM_tape)]) (ws2 := (wX9_must cy aM qM vM_21 vM_letters_9 vM_tape)) (kRunV (As := [.int 1, .int (vM_9 4)]) (rest := []) ⟨hx, hb, hml, hown, ht0⟩ (kX9_wrong l D cy _ aM qM vM_9 (1 : Int32) (vM_9 4) vM_21 hc21 _ rfl) (cwV 2 ht0 (gV wd774 wd775 wd776 wd744 wd777) rfl rfl rfl (by decide +kernel) ⟨Nat.le_of_ble_eq_true rfl, Nat.le_of_ble_eq_true rfl⟩) hK hN hP hD [0] rfl (by decide) 0 8 rfl rfl rfl hl.1 rfl (Nat.le_of_ble_eq_true rfl) dX9_must_21 ⟨Nat.zero_le _, Nat.zero_le _⟩) hP hD hS hA [0] [1, 2] rfl rfl (by decide) (by decide) [2, 0, 1] (by decide) rfl rfl (fun H locs hP hD hS => ?_)
      exact J24 vM_letters_9 vM_21 H locs ls hP hD hS (lv_sub hl [] rfl) hok
def wsX9_mustName : List Cond := .code yX9_mustName cX9_mustName 1 none :: W0
abbrev wX9_mustName (cy : Nat → ClassId) (aM : Nat) (qM : Nat → Nat) (vM : Nat → Int32) (vM_letters : Nat → Int32) : va_W := [(aM, oX9 vM qM), (qM 12, rI cy 8 vM_letters)]
set_option maxHeartbeats 4000000 in
set_option maxRecDepth 100000 in
theorem kX9_mustName (l : Launch) (D : va_G) (cy : Nat → ClassId) (ad : (Nat → Nat) × (Nat → Nat)) (sz : Nat) (aM : Nat) (qM : Nat → Nat) (vM : Nat → Int32) (vM_letters : Nat → Int32) (z_vM : Nat → Int32) (hok : fX9_mustName vM vM_letters = some z_vM) (A : Nat → Prop) (hAe : va_A (wX9_mustName cy aM qM vM vM_letters) sz = A) : Met l yX9_mustName wsX9_mustName ({ frames := 5, cells := 0, slots := 0, locals := 108 } : Room) (kPreS D cy ad [.ref aM] (wX9_mustName cy aM qM vM vM_letters) sz A) (kQv D cy A (wX9_mustName cy aM qM z_vM vM_letters)) 0 0 A := by
  refine Met.ofW (cc := cX9_mustName) (maxL := 1) (ret := none) (by decide) rfl ?_
  intro p e s m args below meth c s₁ B hml hv
  obtain ⟨rfl, ⟨hsz, hP, hK, hD0, hN⟩, hSt⟩ := hv
  have hx := B.exec
  have hb := B.bytes
  have hr := B.returns
  have ht0 : ∀ w ∈ W0, w.before _ s = true := fun w h => atoms_spec (ws := wsX9_mustName) B.pre w (List.mem_cons_of_mem _ h)
  have hown : s.vm.findClass RX9 = some m.cls := findClass_of_methodNamed B.named
  have hlocks := B.notSynchronized
  subst hsz
  have hD : va_D A (wX9_mustName cy aM qM vM vM_letters) := by rw [← hAe]; exact hD0.self
  have hA : ∀ q : Nat, s.heap.size ≤ q → A q := fun q h => by rw [← hAe]; exact Or.inr h
  have hS : va_S A s.heap s.heap [] := va_S.rf
  have hl := lv_entry ([.ref aM]) (n := 1) (Nat.le_of_ble_eq_true rfl)
  rw [lg_entry_eq]
  generalize (lg_sl ([.ref aM]) ++ List.replicate (1 - (lg_sl ([.ref aM])).length) Slot.unset).toArray = ls at hl ⊢
  have hl : lv_has ls 1 [(0, .ref aM)] := hl
  generalize hQe : MQ below (kQv D cy A (wX9_mustName cy aM qM z_vM vM_letters)) ([.ref aM] : List Value).toArray s 0 0 A = Q
  have J89 : ∀ (vM_89 : Nat → Int32), ∀ (H : Heap) (locs : List Loc) (ls : Array Slot), va_P D vwCl (wX9_mustName cy aM qM vM_89 vM_letters) H → va_D A (wX9_mustName cy aM qM vM_89 vM_letters) → va_S A s.heap H locs → lv_has ls 1 [] → fX9_mustName_J89 vM_89 = some z_vM → W p l e ({ frames := 5, cells := 0, slots := 0, locals := 108 } : Room) s m ([.ref aM] : List Value).toArray below meth c H locs 0 0 Q (F0 m 89 ls []) := by
    intro vM_89 H locs ls hP hD hS hl hok
    unfold fX9_mustName_J89 at hok
    cases hok
    subst hQe; exact W.vret hx hb hr (fun t ht hW => ⟨⟨(), rfl, trivial, by rw [ht]; exact hP, va_K.moved hW.alike hK, hD⟩, hS.F ht⟩) hS.2.2 dX9_mustName_89
  have J80 : ∀ (H : Heap) (locs : List Loc) (ls : Array Slot), va_P D vwCl (wX9_mustName cy aM qM vM vM_letters) H → va_D A (wX9_mustName cy aM qM vM vM_letters) → va_S A s.heap H locs → lv_has ls 1 [(0, .ref aM)] → fX9_mustName_J80 vM = some z_vM → W p l e ({ frames := 5, cells := 0, slots := 0, locals := 108 } : Room) s m ([.ref aM] : List Value).toArray below meth c H locs 0 0 Q (F0 m 80 ls []) := by
    intro  H locs ls hP hD hS hl hok
    unfold fX9_mustName_J80 at hok
    refine lv_aload_n hx hb dX9_mustName_80 rfl (lv_at hl 0 rfl) ?_
    refine lv_iconst (v := 1) hx hb dX9_mustName_81 (by decide) ?_
    refine lv_aload_n hx hb dX9_mustName_82 rfl (lv_at hl 0 rfl) ?_
    refine va_get (D := D) (ci := 8) (v := .int (vM 4)) (C := RX9) (T := TX9) (N := 29) hx hb ht0 niX9 hown hK hP 0 rfl rfl 4 (by decide) (ht0 _ wd756) (fun _ h9 => h9) rfl dX9_mustName_83 ?_
    obtain ⟨vM_86, hc86, hok⟩ := k_bind hok
    refine kCv (wc := (wX9_wrong cy aM qM vM)) (wc2 := (wX9_wrong cy aM qM vM_86)) (wr := [(qM 12, rI cy 8 vM_letters)]) (ws2 := (wX9_mustName cy aM qM vM_86 vM_letters)) (kRunV (As := [.int 1, .int (vM 4)]) (rest := []) ⟨hx, hb, hml, hown, ht0⟩ (kX9_wrong l D cy _ aM qM vM (1 : Int32) (vM 4) vM_86 hc86 _ rfl) (cwV 2 ht0 (gV wd774 wd775 wd776 wd744 wd777) rfl rfl rfl (by decide +kernel) ⟨Nat.le_of_ble_eq_true rfl, Nat.le_of_ble_eq_true rfl⟩) hK hN hP hD [0] rfl (by decide) 0 8 rfl rfl rfl hl.1 rfl (Nat.le_of_ble_eq_true rfl) dX9_mustName_86 ⟨Nat.zero_le _, Nat.zero_le _⟩) hP hD hS hA [0] [1] rfl rfl (by decide) (by decide) [1, 0] (by decide) rfl rfl (fun H locs hP hD hS => ?_)
    exact J89 vM_86 H locs ls hP hD hS (lv_sub hl [] rfl) hok
  unfold fX9_mustName at hok
  obtain ⟨H, hH⟩ : ∃ H, H = s.heap := ⟨_, rfl⟩
  obtain ⟨locs, hlc⟩ : ∃ x : List Loc, x = [] := ⟨_, rfl⟩
  have hP : va_P D vwCl (wX9_mustName cy aM qM vM vM_letters) H := by rw [hH]; exact hP
  have hS : va_S A s.heap H locs := by rw [hH, hlc]; exact hS
  rw [show W p l e _ s m _ below meth c s.heap [] = W p l e _ s m _ below meth c H locs from by rw [hH, hlc]]
  refine lv_aload_n hx hb dX9_mustName_0 rfl (lv_at hl 0 rfl) ?_
  refine va_get (D := D) (ci := 8) (v := .int (vM 6)) (C := RX9) (T := TX9) (N := 29) hx hb ht0 niX9 hown hK hP 0 rfl rfl 6 (by decide) (ht0 _ wd740) (fun _ h9 => h9) rfl dX9_mustName_1 ?_
  refine lv_iconst (v := 2) hx hb dX9_mustName_4 (by decide) ?_
  refine lv_icmp_ne (tgt := 80) hx hb dX9_mustName_5 (by decide) (fun c5 => ?_) (fun c5 => ?_)
  · have hok := k_neg c5 hok
    exact J80  H locs ls hP hD hS (lv_sub hl [0] rfl) hok
  · have hok := k_pos c5 hok
    refine lv_aload_n hx hb dX9_mustName_8 rfl (lv_at hl 0 rfl) ?_
    refine va_ldcS (own := RX9) (tx := "house") (index := 113) (q := ad.1 8) hx hb hown (hSt.2.1 (RX9, 113, "house", 8) (List.mem_of_getElem? (i := 22) rfl)) dX9_mustName_9 ?_
    obtain ⟨r11, hc11, hok⟩ := k_bind hok
    refine kCi (wc := (wX9_isWord cy aM qM vM vM_letters)) (wc2 := (wX9_isWord cy aM qM vM vM_letters)) (wr := []) (ws2 := (wX9_mustName cy aM qM vM vM_letters)) (kRunVS (As := [.ref (ad.1 8)]) (rest := []) ⟨hx, hb, hml, hown, ht0⟩ (kX9_isWord l D cy ad _ aM qM vM vM_letters 8 r11 hc11 _ rfl) (cwV 1 ht0 (gV wd762 wd763 wd764 wd744 wd765) rfl rfl rfl (by decide +kernel) ⟨Nat.le_of_ble_eq_true rfl, Nat.le_of_ble_eq_true rfl⟩) hK hN hP hD hSt hS hA [0, 1] rfl (by decide) 0 8 rfl rfl rfl hl.1 rfl (Nat.le_of_ble_eq_true rfl) dX9_mustName_11 ⟨Nat.zero_le _, Nat.zero_le _⟩) hP hD hS hA [0, 1] [] rfl rfl (by decide) (by decide) [0, 1] (by decide) rfl rfl (fun H locs hP hD hS => ?_)
    refine lv_if_ne (tgt := 80) hx hb dX9_mustName_14 (by decide) (fun c14 => ?_) (fun c14 => ?_)
    · have hok := k_neg c14 hok
      exact J80  H locs ls hP hD hS (lv_sub hl [0] rfl) hok
    · have hok := k_pos c14 hok
      refine lv_aload_n hx hb dX9_mustName_17 rfl (lv_at hl 0 rfl) ?_
      refine va_ldcS (own := RX9) (tx := "ring") (index := 115) (q := ad.1 18) hx hb hown (hSt.2.1 (RX9, 115, "ring", 18) (List.mem_of_getElem? (i := 23) rfl)) dX9_mustName_18 ?_
      obtain ⟨r20, hc20, hok⟩ := k_bind hok
      refine kCi (wc := (wX9_isWord cy aM qM vM vM_letters)) (wc2 := (wX9_isWord cy aM qM vM vM_letters)) (wr := []) (ws2 := (wX9_mustName cy aM qM vM vM_letters)) (kRunVS (As := [.ref (ad.1 18)]) (rest := []) ⟨hx, hb, hml, hown, ht0⟩ (kX9_isWord l D cy ad _ aM qM vM vM_letters 18 r20 hc20 _ rfl) (cwV 1 ht0 (gV wd762 wd763 wd764 wd744 wd765) rfl rfl rfl (by decide +kernel) ⟨Nat.le_of_ble_eq_true rfl, Nat.le_of_ble_eq_true rfl⟩) hK hN hP hD hSt hS hA [0, 1] rfl (by decide) 0 8 rfl rfl rfl hl.1 rfl (Nat.le_of_ble_eq_true rfl) dX9_mustName_20 ⟨Nat.zero_le _, Nat.zero_le _⟩) hP hD hS hA [0, 1] [] rfl rfl (by decide) (by decide) [0, 1] (by decide) rfl rfl (fun H locs hP hD hS => ?_)
      refine lv_if_ne (tgt := 80) hx hb dX9_mustName_23 (by decide) (fun c23 => ?_) (fun c23 => ?_)
      · have hok := k_neg c23 hok
        exact J80  H locs ls hP hD hS (lv_sub hl [0] rfl) hok
      · have hok := k_pos c23 hok
        refine lv_aload_n hx hb dX9_mustName_26 rfl (lv_at hl 0 rfl) ?_
        refine va_ldcS (own := RX9) (tx := "narrow") (index := 117) (q := ad.1 11) hx hb hown (hSt.2.1 (RX9, 117, "narrow", 11) (List.mem_of_getElem? (i := 24) rfl)) dX9_mustName_27 ?_
        obtain ⟨r29, hc29, hok⟩ := k_bind hok
        refine kCi (wc := (wX9_isWord cy aM qM vM vM_letters)) (wc2 := (wX9_isWord cy aM qM vM vM_letters)) (wr := []) (ws2 := (wX9_mustName cy aM qM vM vM_letters)) (kRunVS (As := [.ref (ad.1 11)]) (rest := []) ⟨hx, hb, hml, hown, ht0⟩ (kX9_isWord l D cy ad _ aM qM vM vM_letters 11 r29 hc29 _ rfl) (cwV 1 ht0 (gV wd762 wd763 wd764 wd744 wd765) rfl rfl rfl (by decide +kernel) ⟨Nat.le_of_ble_eq_true rfl, Nat.le_of_ble_eq_true rfl⟩) hK hN hP hD hSt hS hA [0, 1] rfl (by decide) 0 8 rfl rfl rfl hl.1 rfl (Nat.le_of_ble_eq_true rfl) dX9_mustName_29 ⟨Nat.zero_le _, Nat.zero_le _⟩) hP hD hS hA [0, 1] [] rfl rfl (by decide) (by decide) [0, 1] (by decide) rfl rfl (fun H locs hP hD hS => ?_)
        refine lv_if_ne (tgt := 80) hx hb dX9_mustName_32 (by decide) (fun c32 => ?_) (fun c32 => ?_)
        · have hok := k_neg c32 hok
          exact J80  H locs ls hP hD hS (lv_sub hl [0] rfl) hok
        · have hok := k_pos c32 hok
          refine lv_aload_n hx hb dX9_mustName_35 rfl (lv_at hl 0 rfl) ?_
          refine va_ldcS (own := RX9) (tx := "door") (index := 119) (q := ad.1 6) hx hb hown (hSt.2.1 (RX9, 119, "door", 6) (List.mem_of_getElem? (i := 25) rfl)) dX9_mustName_36 ?_
          obtain ⟨r38, hc38, hok⟩ := k_bind hok
          refine kCi (wc := (wX9_isWord cy aM qM vM vM_letters)) (wc2 := (wX9_isWord cy aM qM vM vM_letters)) (wr := []) (ws2 := (wX9_mustName cy aM qM vM vM_letters)) (kRunVS (As := [.ref (ad.1 6)]) (rest := []) ⟨hx, hb, hml, hown, ht0⟩ (kX9_isWord l D cy ad _ aM qM vM vM_letters 6 r38 hc38 _ rfl) (cwV 1 ht0 (gV wd762 wd763 wd764 wd744 wd765) rfl rfl rfl (by decide +kernel) ⟨Nat.le_of_ble_eq_true rfl, Nat.le_of_ble_eq_true rfl⟩) hK hN hP hD hSt hS hA [0, 1] rfl (by decide) 0 8 rfl rfl rfl hl.1 rfl (Nat.le_of_ble_eq_true rfl) dX9_mustName_38 ⟨Nat.zero_le _, Nat.zero_le _⟩) hP hD hS hA [0, 1] [] rfl rfl (by decide) (by decide) [0, 1] (by decide) rfl rfl (fun H locs hP hD hS => ?_)
          refine lv_if_ne (tgt := 80) hx hb dX9_mustName_41 (by decide) (fun c41 => ?_) (fun c41 => ?_)
          · have hok := k_neg c41 hok
            exact J80  H locs ls hP hD hS (lv_sub hl [0] rfl) hok
          · have hok := k_pos c41 hok
            refine lv_aload_n hx hb dX9_mustName_44 rfl (lv_at hl 0 rfl) ?_
            refine va_ldcS (own := RX9) (tx := "thing") (index := 121) (q := ad.1 20) hx hb hown (hSt.2.1 (RX9, 121, "thing", 20) (List.mem_of_getElem? (i := 26) rfl)) dX9_mustName_45 ?_
            obtain ⟨r47, hc47, hok⟩ := k_bind hok
            refine kCi (wc := (wX9_isWord cy aM qM vM vM_letters)) (wc2 := (wX9_isWord cy aM qM vM vM_letters)) (wr := []) (ws2 := (wX9_mustName cy aM qM vM vM_letters)) (kRunVS (As := [.ref (ad.1 20)]) (rest := []) ⟨hx, hb, hml, hown, ht0⟩ (kX9_isWord l D cy ad _ aM qM vM vM_letters 20 r47 hc47 _ rfl) (cwV 1 ht0 (gV wd762 wd763 wd764 wd744 wd765) rfl rfl rfl (by decide +kernel) ⟨Nat.le_of_ble_eq_true rfl, Nat.le_of_ble_eq_true rfl⟩) hK hN hP hD hSt hS hA [0, 1] rfl (by decide) 0 8 rfl rfl rfl hl.1 rfl (Nat.le_of_ble_eq_true rfl) dX9_mustName_47 ⟨Nat.zero_le _, Nat.zero_le _⟩) hP hD hS hA [0, 1] [] rfl rfl (by decide) (by decide) [0, 1] (by decide) rfl rfl (fun H locs hP hD hS => ?_)
            refine lv_if_ne (tgt := 80) hx hb dX9_mustName_50 (by decide) (fun c50 => ?_) (fun c50 => ?_)
            · have hok := k_neg c50 hok
              exact J80  H locs ls hP hD hS (lv_sub hl [0] rfl) hok
            · have hok := k_pos c50 hok
              refine lv_aload_n hx hb dX9_mustName_53 rfl (lv_at hl 0 rfl) ?_
              refine va_ldcS (own := RX9) (tx := "want") (index := 123) (q := ad.1 21) hx hb hown (hSt.2.1 (RX9, 123, "want", 21) (List.mem_of_getElem? (i := 27) rfl)) dX9_mustName_54 ?_
              obtain ⟨r56, hc56, hok⟩ := k_bind hok
              refine kCi (wc := (wX9_isWord cy aM qM vM vM_letters)) (wc2 := (wX9_isWord cy aM qM vM vM_letters)) (wr := []) (ws2 := (wX9_mustName cy aM qM vM vM_letters)) (kRunVS (As := [.ref (ad.1 21)]) (rest := []) ⟨hx, hb, hml, hown, ht0⟩ (kX9_isWord l D cy ad _ aM qM vM vM_letters 21 r56 hc56 _ rfl) (cwV 1 ht0 (gV wd762 wd763 wd764 wd744 wd765) rfl rfl rfl (by decide +kernel) ⟨Nat.le_of_ble_eq_true rfl, Nat.le_of_ble_eq_true rfl⟩) hK hN hP hD hSt hS hA [0, 1] rfl (by decide) 0 8 rfl rfl rfl hl.1 rfl (Nat.le_of_ble_eq_true rfl) dX9_mustName_56 ⟨Nat.zero_le _, Nat.zero_le _⟩) hP hD hS hA [0, 1] [] rfl rfl (by decide) (by decide) [0, 1] (by decide) rfl rfl (fun H locs hP hD hS => ?_)
              refine lv_if_ne (tgt := 80) hx hb dX9_mustName_59 (by decide) (fun c59 => ?_) (fun c59 => ?_)
              · have hok := k_neg c59 hok
                exact J80  H locs ls hP hD hS (lv_sub hl [0] rfl) hok
              · have hok := k_pos c59 hok
                refine lv_aload_n hx hb dX9_mustName_62 rfl (lv_at hl 0 rfl) ?_
                refine va_ldcS (own := RX9) (tx := "found") (index := 125) (q := ad.1 7) hx hb hown (hSt.2.1 (RX9, 125, "found", 7) (List.mem_of_getElem? (i := 28) rfl)) dX9_mustName_63 ?_
                obtain ⟨r65, hc65, hok⟩ := k_bind hok
                refine kCi (wc := (wX9_isWord cy aM qM vM vM_letters)) (wc2 := (wX9_isWord cy aM qM vM vM_letters)) (wr := []) (ws2 := (wX9_mustName cy aM qM vM vM_letters)) (kRunVS (As := [.ref (ad.1 7)]) (rest := []) ⟨hx, hb, hml, hown, ht0⟩ (kX9_isWord l D cy ad _ aM qM vM vM_letters 7 r65 hc65 _ rfl) (cwV 1 ht0 (gV wd762 wd763 wd764 wd744 wd765) rfl rfl rfl (by decide +kernel) ⟨Nat.le_of_ble_eq_true rfl, Nat.le_of_ble_eq_true rfl⟩) hK hN hP hD hSt hS hA [0, 1] rfl (by decide) 0 8 rfl rfl rfl hl.1 rfl (Nat.le_of_ble_eq_true rfl) dX9_mustName_65 ⟨Nat.zero_le _, Nat.zero_le _⟩) hP hD hS hA [0, 1] [] rfl rfl (by decide) (by decide) [0, 1] (by decide) rfl rfl (fun H locs hP hD hS => ?_)
                refine lv_if_ne (tgt := 80) hx hb dX9_mustName_68 (by decide) (fun c68 => ?_) (fun c68 => ?_)
                · have hok := k_neg c68 hok
                  exact J80  H locs ls hP hD hS (lv_sub hl [0] rfl) hok
                · have hok := k_pos c68 hok
                  refine lv_aload_n hx hb dX9_mustName_71 rfl (lv_at hl 0 rfl) ?_
                  refine va_ldcS (own := RX9) (tx := "lost") (index := 127) (q := ad.1 10) hx hb hown (hSt.2.1 (RX9, 127, "lost", 10) (List.mem_of_getElem? (i := 29) rfl)) dX9_mustName_72 ?_
                  obtain ⟨r74, hc74, hok⟩ := k_bind hok
                  refine kCi (wc := (wX9_isWord cy aM qM vM vM_letters)) (wc2 := (wX9_isWord cy aM qM vM vM_letters)) (wr := []) (ws2 := (wX9_mustName cy aM qM vM vM_letters)) (kRunVS (As := [.ref (ad.1 10)]) (rest := []) ⟨hx, hb, hml, hown, ht0⟩ (kX9_isWord l D cy ad _ aM qM vM vM_letters 10 r74 hc74 _ rfl) (cwV 1 ht0 (gV wd762 wd763 wd764 wd744 wd765) rfl rfl rfl (by decide +kernel) ⟨Nat.le_of_ble_eq_true rfl, Nat.le_of_ble_eq_true rfl⟩) hK hN hP hD hSt hS hA [0, 1] rfl (by decide) 0 8 rfl rfl rfl hl.1 rfl (Nat.le_of_ble_eq_true rfl) dX9_mustName_74 ⟨Nat.zero_le _, Nat.zero_le _⟩) hP hD hS hA [0, 1] [] rfl rfl (by decide) (by decide) [0, 1] (by decide) rfl rfl (fun H locs hP hD hS => ?_)
                  refine lv_if_eq (tgt := 89) hx hb dX9_mustName_77 (by decide) (fun c77 => ?_) (fun c77 => ?_)
                  · have hok := k_pos c77 hok
                    exact J89 vM H locs ls hP hD hS (lv_sub hl [] rfl) hok
                  · have hok := k_neg c77 hok
                    exact J80  H locs ls hP hD hS (lv_sub hl [0] rfl) hok
