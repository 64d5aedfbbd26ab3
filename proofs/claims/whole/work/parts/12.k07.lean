def wsX5_isMany : List Cond := .code yX5_isMany cX5_isMany 1 (some .boolean) :: W0
abbrev wX5_isMany (cy : Nat → ClassId) (aR : Nat) (qR : Nat → Nat) (aH : Nat) (qH : Nat → Nat) (qU : Nat → Nat) (fvR_2 : Nat) (vR_j11 : Int64) (vR : Nat → Int32) (vR_tape : Nat → Int32) (vH : Nat → Int32) (vU : Nat → Int32) : va_W := [(aR, oX5 vR qR vR_j11 fvR_2), (qR 0, rB cy 900 vR_tape), (aH, oX4 vH qH), (qH 7, oX7 vU qU)]
set_option maxHeartbeats 4000000 in
set_option maxRecDepth 100000 in
theorem kX5_isMany (l : Launch) (D : va_G) (cy : Nat → ClassId) (ad : (Nat → Nat) × (Nat → Nat)) (sz : Nat) (aR : Nat) (qR : Nat → Nat) (aH : Nat) (qH : Nat → Nat) (qU : Nat → Nat) (vR_j11 : Int64) (vR : Nat → Int32) (vR_tape : Nat → Int32) (vH : Nat → Int32) (vU : Nat → Int32) (zr : Int32) (hok : fX5_isMany vR_j11 vR vR_tape vH vU = some zr) (A : Nat → Prop) (hAe : va_A (wX5_isMany cy aR qR aH qH qU aH vR_j11 vR vR_tape vH vU) sz = A) : Met l yX5_isMany wsX5_isMany ({ frames := 5, cells := 0, slots := 0, locals := 108 } : Room) (kPreS D cy ad [.ref aR] (wX5_isMany cy aR qR aH qH qU aH vR_j11 vR vR_tape vH vU) sz A) (kQi D cy zr A (wX5_isMany cy aR qR aH qH qU aH vR_j11 vR vR_tape vH vU)) 0 0 A := by
  refine Met.ofW (cc := cX5_isMany) (maxL := 1) (ret := (some .boolean)) (by decide) rfl ?_
  intro p e s m args below meth c s₁ B hml hv
  obtain ⟨rfl, ⟨hsz, hP, hK, hD0, hN⟩, hSt⟩ := hv
  have hx := B.exec
  have hb := B.bytes
  have hr := B.returns
  have ht0 : ∀ w ∈ W0, w.before _ s = true := fun w h => atoms_spec (ws := wsX5_isMany) B.pre w (List.mem_cons_of_mem _ h)
  have hown : s.vm.findClass RX5 = some m.cls := findClass_of_methodNamed B.named
  have hlocks := B.notSynchronized
  subst hsz
  have hD : va_D A (wX5_isMany cy aR qR aH qH qU aH vR_j11 vR vR_tape vH vU) := by rw [← hAe]; exact hD0.self
  have hA : ∀ q : Nat, s.heap.size ≤ q → A q := fun q h => by rw [← hAe]; exact Or.inr h
  have hS : va_S A s.heap s.heap [] := va_S.rf
  have hl := lv_entry ([.ref aR]) (n := 1) (Nat.le_of_ble_eq_true rfl)
  rw [lg_entry_eq]
  generalize (lg_sl ([.ref aR]) ++ List.replicate (1 - (lg_sl ([.ref aR])).length) Slot.unset).toArray = ls at hl ⊢
  have hl : lv_has ls 1 [(0, .ref aR)] := hl
  generalize hQe : MQ below (kQi D cy zr A (wX5_isMany cy aR qR aH qH qU aH vR_j11 vR vR_tape vH vU)) ([.ref aR] : List Value).toArray s 0 0 A = Q
  have J155 : ∀ (t0_155 : Int32), ∀ (H : Heap) (locs : List Loc) (ls : Array Slot), va_P D vwCl (wX5_isMany cy aR qR aH qH qU aH vR_j11 vR vR_tape vH vU) H → va_D A (wX5_isMany cy aR qR aH qH qU aH vR_j11 vR vR_tape vH vU) → va_S A s.heap H locs → lv_has ls 1 [] → fX5_isMany_J155 t0_155 = some zr → W p l e ({ frames := 5, cells := 0, slots := 0, locals := 108 } : Room) s m ([.ref aR] : List Value).toArray below meth c H locs 0 0 Q (F0 m 155 ls [.int t0_155]) := by
    intro t0_155 H locs ls hP hD hS hl hok
    unfold fX5_isMany_J155 at hok
    obtain ⟨g155, hok⟩ := gd_some hok
    cases hok
    subst hQe; exact W.zret hx hb hr (isB_nar g155) (fun t ht hW => ⟨⟨_, (), rfl, rfl, by rw [ht]; exact hP, va_K.moved hW.alike hK, hD⟩, hS.F ht⟩) hS.2.2 dX5_isMany_155
  have J105 : ∀ (t0_105 : Int32), ∀ (H : Heap) (locs : List Loc) (ls : Array Slot), va_P D vwCl (wX5_isMany cy aR qR aH qH qU aH vR_j11 vR vR_tape vH vU) H → va_D A (wX5_isMany cy aR qR aH qH qU aH vR_j11 vR vR_tape vH vU) → va_S A s.heap H locs → lv_has ls 1 [] → fX5_isMany_J105 t0_105 = some zr → W p l e ({ frames := 5, cells := 0, slots := 0, locals := 108 } : Room) s m ([.ref aR] : List Value).toArray below meth c H locs 0 0 Q (F0 m 105 ls [.int t0_105]) := by
    intro t0_105 H locs ls hP hD hS hl hok
    unfold fX5_isMany_J105 at hok
    obtain ⟨g105, hok⟩ := gd_some hok
    cases hok
    subst hQe; exact W.zret hx hb hr (isB_nar g105) (fun t ht hW => ⟨⟨_, (), rfl, rfl, by rw [ht]; exact hP, va_K.moved hW.alike hK, hD⟩, hS.F ht⟩) hS.2.2 dX5_isMany_105
  have J78 : ∀ (t0_78 : Int32), ∀ (H : Heap) (locs : List Loc) (ls : Array Slot), va_P D vwCl (wX5_isMany cy aR qR aH qH qU aH vR_j11 vR vR_tape vH vU) H → va_D A (wX5_isMany cy aR qR aH qH qU aH vR_j11 vR vR_tape vH vU) → va_S A s.heap H locs → lv_has ls 1 [] → fX5_isMany_J78 t0_78 = some zr → W p l e ({ frames := 5, cells := 0, slots := 0, locals := 108 } : Room) s m ([.ref aR] : List Value).toArray below meth c H locs 0 0 Q (F0 m 78 ls [.int t0_78]) := by
    intro t0_78 H locs ls hP hD hS hl hok
    unfold fX5_isMany_J78 at hok
    obtain ⟨g78, hok⟩ := gd_some hok
    cases hok
    subst hQe; exact W.zret hx hb hr (isB_nar g78) (fun t ht hW => ⟨⟨_, (), rfl, rfl, by rw [ht]; exact hP, va_K.moved hW.alike hK, hD⟩, hS.F ht⟩) hS.2.2 dX5_isMany_78
  have J52 : ∀ (t0_52 : Int32), ∀ (H : Heap) (locs : List Loc) (ls : Array Slot), va_P D vwCl (wX5_isMany cy aR qR aH qH qU aH vR_j11 vR vR_tape vH vU) H → va_D A (wX5_isMany cy aR qR aH qH qU aH vR_j11 vR vR_tape vH vU) → va_S A s.heap H locs → lv_has ls 1 [] → fX5_isMany_J52 t0_52 = some zr → W p l e ({ frames := 5, cells := 0, slots := 0, locals := 108 } : Room) s m ([.ref aR] : List Value).toArray below meth c H locs 0 0 Q (F0 m 52 ls [.int t0_52]) := by
    intro t0_52 H locs ls hP hD hS hl hok
    unfold fX5_isMany_J52 at hok
    obtain ⟨g52, hok⟩ := gd_some hok
    cases hok
    subst hQe; exact W.zret hx hb hr (isB_nar g52) (fun t ht hW => ⟨⟨_, (), rfl, rfl, by rw [ht]; exact hP, va_K.moved hW.alike hK, hD⟩, hS.F ht⟩) hS.2.2 dX5_isMany_52
  have J25 : ∀ (t0_25 : Int32), ∀ (H : Heap) (locs : List Loc) (ls : Array Slot), va_P D vwCl (wX5_isMany cy aR qR aH qH qU aH vR_j11 vR vR_tape vH vU) H → va_D A (wX5_isMany cy aR qR aH qH qU aH vR_j11 vR vR_tape vH vU) → va_S A s.heap H locs → lv_has ls 1 [] → fX5_isMany_J25 t0_25 = some zr → W p l e ({ frames := 5, cells := 0, slots := 0, locals := 108 } : Room) s m ([.ref aR] : List Value).toArray below meth c H locs 0 0 Q (F0 m 25 ls [.int t0_25]) := by
    intro t0_25 H locs ls hP hD hS hl hok
    unfold fX5_isMany_J25 at hok
    obtain ⟨g25, hok⟩ := gd_some hok
    cases hok
    subst hQe; exact W.zret hx hb hr (isB_nar g25) (fun t ht hW => ⟨⟨_, (), rfl, rfl, by rw [ht]; exact hP, va_K.moved hW.alike hK, hD⟩, hS.F ht⟩) hS.2.2 dX5_isMany_25
  unfold fX5_isMany at hok
  obtain ⟨H, hH⟩ : ∃ H, H = s.heap := ⟨_, rfl⟩
  obtain ⟨locs, hlc⟩ : ∃ x : List Loc, x = [] := ⟨_, rfl⟩
  have hP : va_P D vwCl (wX5_isMany cy aR qR aH qH qU aH vR_j11 vR vR_tape vH vU) H := by rw [hH]; exact hP
  have hS : va_S A s.heap H locs := by rw [hH, hlc]; exact hS
  rw [show W p l e _ s m _ below meth c s.heap [] = W p l e _ s m _ below meth c H locs from by rw [hH, hlc]]
  refine lv_aload_n hx hb dX5_isMany_0 rfl (lv_at hl 0 rfl) ?_
  refine va_ldcS (own := RX5) (tx := "ring") (index := 104) (q := ad.1 18) hx hb hown (hSt.2.1 (RX5, 104, "ring", 18) (List.mem_of_getElem? (i := 1) rfl)) dX5_isMany_1 ?_
  obtain ⟨r3, hc3, hok⟩ := k_bind hok
  refine kCi (wc := (wX5_says cy aR qR aH aH vR_j11 vR vR_tape)) (wc2 := (wX5_says cy aR qR aH aH vR_j11 vR vR_tape)) (wr := [(aH, oX4 vH qH), (qH 7, oX7 vU qU)]) (ws2 := (wX5_isMany cy aR qR aH qH qU aH vR_j11 vR vR_tape vH vU)) (kRunVS (As := [.ref (ad.1 18)]) (rest := []) ⟨hx, hb, hml, hown, ht0⟩ (kX5_says l D cy ad _ aR qR aH vR_j11 vR vR_tape 18 r3 hc3 _ rfl) (cwV 1 ht0 (gV wd324 wd325 wd326 wd276 wd327) rfl rfl rfl (by decide +kernel) ⟨Nat.le_of_ble_eq_true rfl, Nat.le_of_ble_eq_true rfl⟩) hK hN hP hD hSt hS hA [0, 1] rfl (by decide) 0 4 rfl rfl rfl hl.1 rfl (Nat.le_of_ble_eq_true rfl) dX5_isMany_3 ⟨Nat.zero_le _, Nat.zero_le _⟩) hP hD hS hA [0, 1] [2, 3] rfl rfl (by decide) (by decide) [2, 3, 0, 1] (by decide) rfl rfl (fun H locs hP hD hS => ?_)
  refine lv_if_eq (tgt := 26) hx hb dX5_isMany_6 (by decide) (fun c6 => ?_) (fun c6 => ?_)
  · have hok := k_pos c6 hok
    refine lv_aload_n hx hb dX5_isMany_26 rfl (lv_at hl 0 rfl) ?_
    refine va_ldcS (own := RX5) (tx := "narrow") (index := 106) (q := ad.1 11) hx hb hown (hSt.2.1 (RX5, 106, "narrow", 11) (List.mem_of_getElem? (i := 2) rfl)) dX5_isMany_27 ?_
    obtain ⟨r29, hc29, hok⟩ := k_bind hok
    refine kCi (wc := (wX5_says cy aR qR aH aH vR_j11 vR vR_tape)) (wc2 := (wX5_says cy aR qR aH aH vR_j11 vR vR_tape)) (wr := [(aH, oX4 vH qH), (qH 7, oX7 vU qU)]) (ws2 := (wX5_isMany cy aR qR aH qH qU aH vR_j11 vR vR_tape vH vU)) (kRunVS (As := [.ref (ad.1 11)]) (rest := []) ⟨hx, hb, hml, hown, ht0⟩ (kX5_says l D cy ad _ aR qR aH vR_j11 vR vR_tape 11 r29 hc29 _ rfl) (cwV 1 ht0 (gV wd324 wd325 wd326 wd276 wd327) rfl rfl rfl (by decide +kernel) ⟨Nat.le_of_ble_eq_true rfl, Nat.le_of_ble_eq_true rfl⟩) hK hN hP hD hSt hS hA [0, 1] rfl (by decide) 0 4 rfl rfl rfl hl.1 rfl (Nat.le_of_ble_eq_true rfl) dX5_isMany_29 ⟨Nat.zero_le _, Nat.zero_le _⟩) hP hD hS hA [0, 1] [2, 3] rfl rfl (by decide) (by decide) [2, 3, 0, 1] (by decide) rfl rfl (fun H locs hP hD hS => ?_)
    refine lv_if_eq (tgt := 53) hx hb dX5_isMany_32 (by decide) (fun c32 => ?_) (fun c32 => ?_)
    · have hok := k_pos c32 hok
      refine lv_aload_n hx hb dX5_isMany_53 rfl (lv_at hl 0 rfl) ?_
      refine va_ldcS (own := RX5) (tx := "door") (index := 108) (q := ad.1 6) hx hb hown (hSt.2.1 (RX5, 108, "door", 6) (List.mem_of_getElem? (i := 3) rfl)) dX5_isMany_54 ?_
      obtain ⟨r56, hc56, hok⟩ := k_bind hok
      refine kCi (wc := (wX5_says cy aR qR aH aH vR_j11 vR vR_tape)) (wc2 := (wX5_says cy aR qR aH aH vR_j11 vR vR_tape)) (wr := [(aH, oX4 vH qH), (qH 7, oX7 vU qU)]) (ws2 := (wX5_isMany cy aR qR aH qH qU aH vR_j11 vR vR_tape vH vU)) (kRunVS (As := [.ref (ad.1 6)]) (rest := []) ⟨hx, hb, hml, hown, ht0⟩ (kX5_says l D cy ad _ aR qR aH vR_j11 vR vR_tape 6 r56 hc56 _ rfl) (cwV 1 ht0 (gV wd324 wd325 wd326 wd276 wd327) rfl rfl rfl (by decide +kernel) ⟨Nat.le_of_ble_eq_true rfl, Nat.le_of_ble_eq_true rfl⟩) hK hN hP hD hSt hS hA [0, 1] rfl (by decide) 0 4 rfl rfl rfl hl.1 rfl (Nat.le_of_ble_eq_true rfl) dX5_isMany_56 ⟨Nat.zero_le _, Nat.zero_le _⟩) hP hD hS hA [0, 1] [2, 3] rfl rfl (by decide) (by decide) [2, 3, 0, 1] (by decide) rfl rfl (fun H locs hP hD hS => ?_)
      refine lv_if_eq (tgt := 79) hx hb dX5_isMany_59 (by decide) (fun c59 => ?_) (fun c59 => ?_)
      · have hok := k_pos c59 hok
        refine lv_aload_n hx hb dX5_isMany_79 rfl (lv_at hl 0 rfl) ?_
        refine va_ldcS (own := RX5) (tx := "thing") (index := 110) (q := ad.1 20) hx hb hown (hSt.2.1 (RX5, 110, "thing", 20) (List.mem_of_getElem? (i := 4) rfl)) dX5_isMany_80 ?_
        obtain ⟨r82, hc82, hok⟩ := k_bind hok
        refine kCi (wc := (wX5_says cy aR qR aH aH vR_j11 vR vR_tape)) (wc2 := (wX5_says cy aR qR aH aH vR_j11 vR vR_tape)) (wr := [(aH, oX4 vH qH), (qH 7, oX7 vU qU)]) (ws2 := (wX5_isMany cy aR qR aH qH qU aH vR_j11 vR vR_tape vH vU)) (kRunVS (As := [.ref (ad.1 20)]) (rest := []) ⟨hx, hb, hml, hown, ht0⟩ (kX5_says l D cy ad _ aR qR aH vR_j11 vR vR_tape 20 r82 hc82 _ rfl) (cwV 1 ht0 (gV wd324 wd325 wd326 wd276 wd327) rfl rfl rfl (by decide +kernel) ⟨Nat.le_of_ble_eq_true rfl, Nat.le_of_ble_eq_true rfl⟩) hK hN hP hD hSt hS hA [0, 1] rfl (by decide) 0 4 rfl rfl rfl hl.1 rfl (Nat.le_of_ble_eq_true rfl) dX5_isMany_82 ⟨Nat.zero_le _, Nat.zero_le _⟩) hP hD hS hA [0, 1] [2, 3] rfl rfl (by decide) (by decide) [2, 3, 0, 1] (by decide) rfl rfl (fun H locs hP hD hS => ?_)
        refine lv_if_eq (tgt := 106) hx hb dX5_isMany_85 (by decide) (fun c85 => ?_) (fun c85 => ?_)
        · have hok := k_pos c85 hok
          refine lv_aload_n hx hb dX5_isMany_106 rfl (lv_at hl 0 rfl) ?_
          refine va_ldcS (own := RX5) (tx := "want") (index := 112) (q := ad.1 21) hx hb hown (hSt.2.1 (RX5, 112, "want", 21) (List.mem_of_getElem? (i := 5) rfl)) dX5_isMany_107 ?_
          obtain ⟨r109, hc109, hok⟩ := k_bind hok
          refine kCi (wc := (wX5_says cy aR qR aH aH vR_j11 vR vR_tape)) (wc2 := (wX5_says cy aR qR aH aH vR_j11 vR vR_tape)) (wr := [(aH, oX4 vH qH), (qH 7, oX7 vU qU)]) (ws2 := (wX5_isMany cy aR qR aH qH qU aH vR_j11 vR vR_tape vH vU)) (kRunVS (As := [.ref (ad.1 21)]) (rest := []) ⟨hx, hb, hml, hown, ht0⟩ (kX5_says l D cy ad _ aR qR aH vR_j11 vR vR_tape 21 r109 hc109 _ rfl) (cwV 1 ht0 (gV wd324 wd325 wd326 wd276 wd327) rfl rfl rfl (by decide +kernel) ⟨Nat.le_of_ble_eq_true rfl, Nat.le_of_ble_eq_true rfl⟩) hK hN hP hD hSt hS hA [0, 1] rfl (by decide) 0 4 rfl rfl rfl hl.1 rfl (Nat.le_of_ble_eq_true rfl) dX5_isMany_109 ⟨Nat.zero_le _, Nat.zero_le _⟩) hP hD hS hA [0, 1] [2, 3] rfl rfl (by decide) (by decide) [2, 3, 0, 1] (by decide) rfl rfl (fun H locs hP hD hS => ?_)
          refine lv_if_eq (tgt := 138) hx hb dX5_isMany_112 (by decide) (fun c112 => ?_) (fun c112 => ?_)
          · have hok := k_pos c112 hok
            refine lv_aload_n hx hb dX5_isMany_138 rfl (lv_at hl 0 rfl) ?_
            refine va_get (D := D) (ci := 4) (v := .ref aH) (C := RX5) (T := TX5) (N := 13) hx hb ht0 niX5 hown hK hP 0 rfl rfl 2 (by decide) (ht0 _ wd266) (fun _ h9 => h9) rfl dX5_isMany_139 ?_
            refine va_get (D := D) (ci := 3) (v := .int (vH 6)) (C := RX4) (T := TX4) (N := 20) hx hb ht0 niX4 hown hK hP 2 rfl rfl 6 (by decide) (ht0 _ wd351) (fun _ h9 => h9) rfl dX5_isMany_142 ?_
            refine lv_bipush (v := 6) hx hb dX5_isMany_145 (by decide) ?_
            refine lv_icmp_lt (tgt := 154) hx hb dX5_isMany_147 (by decide) (fun c147 => ?_) (fun c147 => ?_)
            · have hok := k_pos c147 hok
              refine lv_iconst (v := 0) hx hb dX5_isMany_154 (by decide) ?_
              exact J155 (0 : Int32) H locs ls hP hD hS (lv_sub hl [] rfl) hok
            · have hok := k_neg c147 hok
              refine lv_iconst (v := 1) hx hb dX5_isMany_150 (by decide) ?_
              refine lv_goto (tgt := 155) hx hb dX5_isMany_151 (by decide) ?_
              exact J155 (1 : Int32) H locs ls hP hD hS (lv_sub hl [] rfl) hok
          · have hok := k_neg c112 hok
            refine lv_aload_n hx hb dX5_isMany_115 rfl (lv_at hl 0 rfl) ?_
            refine va_get (D := D) (ci := 4) (v := .ref aH) (C := RX5) (T := TX5) (N := 13) hx hb ht0 niX5 hown hK hP 0 rfl rfl 2 (by decide) (ht0 _ wd266) (fun _ h9 => h9) rfl dX5_isMany_116 ?_
            refine va_get (D := D) (ci := 3) (v := .ref (qH 7)) (C := RX4) (T := TX4) (N := 20) hx hb ht0 niX4 hown hK hP 2 rfl rfl 7 (by decide) (ht0 _ wd352) (fun _ h9 => h9) rfl dX5_isMany_119 ?_
            obtain ⟨r122, hc122, hok⟩ := k_bind hok
            refine kCi (wc := (wX7_count cy (qH 7) qU vU)) (wc2 := (wX7_count cy (qH 7) qU vU)) (wr := [(aR, oX5 vR qR vR_j11 aH), (qR 0, rB cy 900 vR_tape), (aH, oX4 vH qH)]) (ws2 := (wX5_isMany cy aR qR aH qH qU aH vR_j11 vR vR_tape vH vU)) (kRunV (As := []) (rest := []) ⟨hx, hb, hml, hown, ht0⟩ (kX7_count l D cy _ (qH 7) qU vU r122 hc122 _ rfl) (cwV 0 ht0 (gV wd353 wd354 wd355 wd218 wd356) rfl rfl rfl (by decide +kernel) ⟨Nat.le_of_ble_eq_true rfl, Nat.le_of_ble_eq_true rfl⟩) hK hN hP hD [3] rfl (by decide) 3 6 rfl rfl rfl hl.1 rfl (Nat.le_of_ble_eq_true rfl) dX5_isMany_122 ⟨Nat.zero_le _, Nat.zero_le _⟩) hP hD hS hA [3] [0, 1, 2] rfl rfl (by decide) (by decide) [0, 1, 2, 3] (by decide) rfl rfl (fun H locs hP hD hS => ?_)
            refine lv_bipush (v := 6) hx hb dX5_isMany_125 (by decide) ?_
            refine lv_icmp_lt (tgt := 134) hx hb dX5_isMany_127 (by decide) (fun c127 => ?_) (fun c127 => ?_)
            · have hok := k_pos c127 hok
              refine lv_iconst (v := 0) hx hb dX5_isMany_134 (by decide) ?_
              refine lv_goto (tgt := 155) hx hb dX5_isMany_135 (by decide) ?_
              exact J155 (0 : Int32) H locs ls hP hD hS (lv_sub hl [] rfl) hok
            · have hok := k_neg c127 hok
              refine lv_iconst (v := 1) hx hb dX5_isMany_130 (by decide) ?_
              refine lv_goto (tgt := 155) hx hb dX5_isMany_131 (by decide) ?_
              exact J155 (1 : Int32) H locs ls hP hD hS (lv_sub hl [] rfl) hok
        · have hok := k_neg c85 hok
          refine lv_aload_n hx hb dX5_isMany_88 rfl (lv_at hl 0 rfl) ?_
          refine va_get (D := D) (ci := 4) (v := .ref aH) (C := RX5) (T := TX5) (N := 13) hx hb ht0 niX5 hown hK hP 0 rfl rfl 2 (by decide) (ht0 _ wd266) (fun _ h9 => h9) rfl dX5_isMany_89 ?_
          refine va_get (D := D) (ci := 3) (v := .int (vH 5)) (C := RX4) (T := TX4) (N := 20) hx hb ht0 niX4 hown hK hP 2 rfl rfl 5 (by decide) (ht0 _ wd357) (fun _ h9 => h9) rfl dX5_isMany_92 ?_
          refine lv_bipush (v := 7) hx hb dX5_isMany_95 (by decide) ?_
          refine lv_icmp_lt (tgt := 104) hx hb dX5_isMany_97 (by decide) (fun c97 => ?_) (fun c97 => ?_)
          · have hok := k_pos c97 hok
            refine lv_iconst (v := 0) hx hb dX5_isMany_104 (by decide) ?_
            exact J105 (0 : Int32) H locs ls hP hD hS (lv_sub hl [] rfl) hok
          · have hok := k_neg c97 hok
            refine lv_iconst (v := 1) hx hb dX5_isMany_100 (by decide) ?_
            refine lv_goto (tgt := 105) hx hb dX5_isMany_101 (by decide) ?_
            exact J105 (1 : Int32) H locs ls hP hD hS (lv_sub hl [] rfl) hok
      · have hok := k_neg c59 hok
        refine lv_aload_n hx hb dX5_isMany_62 rfl (lv_at hl 0 rfl) ?_
        refine va_get (D := D) (ci := 4) (v := .ref aH) (C := RX5) (T := TX5) (N := 13) hx hb ht0 niX5 hown hK hP 0 rfl rfl 2 (by decide) (ht0 _ wd266) (fun _ h9 => h9) rfl dX5_isMany_63 ?_
        refine va_get (D := D) (ci := 3) (v := .int (vH 4)) (C := RX4) (T := TX4) (N := 20) hx hb ht0 niX4 hown hK hP 2 rfl rfl 4 (by decide) (ht0 _ wd358) (fun _ h9 => h9) rfl dX5_isMany_66 ?_
        refine lv_iconst (v := 5) hx hb dX5_isMany_69 (by decide) ?_
        refine lv_icmp_lt (tgt := 77) hx hb dX5_isMany_70 (by decide) (fun c70 => ?_) (fun c70 => ?_)
        · have hok := k_pos c70 hok
          refine lv_iconst (v := 0) hx hb dX5_isMany_77 (by decide) ?_
          exact J78 (0 : Int32) H locs ls hP hD hS (lv_sub hl [] rfl) hok
        · have hok := k_neg c70 hok
          refine lv_iconst (v := 1) hx hb dX5_isMany_73 (by decide) ?_
          refine lv_goto (tgt := 78) hx hb dX5_isMany_74 (by decide) ?_
          exact J78 (1 : Int32) H locs ls hP hD hS (lv_sub hl [] rfl) hok
    · have hok := k_neg c32 hok
      refine lv_aload_n hx hb dX5_isMany_35 rfl (lv_at hl 0 rfl) ?_
      refine va_get (D := D) (ci := 4) (v := .ref aH) (C := RX5) (T := TX5) (N := 13) hx hb ht0 niX5 hown hK hP 0 rfl rfl 2 (by decide) (ht0 _ wd266) (fun _ h9 => h9) rfl dX5_isMany_36 ?_
      refine va_get (D := D) (ci := 3) (v := .int (vH 3)) (C := RX4) (T := TX4) (N := 20) hx hb ht0 niX4 hown hK hP 2 rfl rfl 3 (by decide) (ht0 _ wd359) (fun _ h9 => h9) rfl dX5_isMany_39 ?_
      refine lv_bipush (v := 6) hx hb dX5_isMany_42 (by decide) ?_
      refine lv_icmp_lt (tgt := 51) hx hb dX5_isMany_44 (by decide) (fun c44 => ?_) (fun c44 => ?_)
      · have hok := k_pos c44 hok
        refine lv_iconst (v := 0) hx hb dX5_isMany_51 (by decide) ?_
        exact J52 (0 : Int32) H locs ls hP hD hS (lv_sub hl [] rfl) hok
      · have hok := k_neg c44 hok
        refine lv_iconst (v := 1) hx hb dX5_isMany_47 (by decide) ?_
        refine lv_goto (tgt := 52) hx hb dX5_isMany_48 (by decide) ?_
        exact J52 (1 : Int32) H locs ls hP hD hS (lv_sub hl [] rfl) hok
  · have hok := k_neg c6 hok
    refine lv_aload_n hx hb dX5_isMany_9 rfl (lv_at hl 0 rfl) ?_
    refine va_get (D := D) (ci := 4) (v := .ref aH) (C := RX5) (T := TX5) (N := 13) hx hb ht0 niX5 hown hK hP 0 rfl rfl 2 (by decide) (ht0 _ wd266) (fun _ h9 => h9) rfl dX5_isMany_10 ?_
    refine va_get (D := D) (ci := 3) (v := .int (vH 2)) (C := RX4) (T := TX4) (N := 20) hx hb ht0 niX4 hown hK hP 2 rfl rfl 2 (by decide) (ht0 _ wd360) (fun _ h9 => h9) rfl dX5_isMany_13 ?_
    refine lv_iconst (v := 4) hx hb dX5_isMany_16 (by decide) ?_
    refine lv_icmp_lt (tgt := 24) hx hb dX5_isMany_17 (by decide) (fun c17 => ?_) (fun c17 => ?_)
    · have hok := k_pos c17 hok
      refine lv_iconst (v := 0) hx hb dX5_isMany_24 (by decide) ?_
      exact J25 (0 : Int32) H locs ls hP hD hS (lv_sub hl [] rfl) hok
    · have hok := k_neg c17 hok
      refine lv_iconst (v := 1) hx hb dX5_isMany_20 (by decide) ?_
      refine lv_goto (tgt := 25) hx hb dX5_isMany_21 (by decide) ?_
      exact J25 (1 : Int32) H locs ls hP hD hS (lv_sub hl [] rfl) hok
def wsX5_placeOfName : List Cond := .code yX5_placeOfName cX5_placeOfName 5 (some .int) :: W0
abbrev wX5_placeOfName (cy : Nat → ClassId) (ap2 : Nat) (n2 : Nat) (p2 : Nat → Int64) : va_W := [(ap2, rJ cy n2 p2)]
set_option maxHeartbeats 4000000 in
set_option maxRecDepth 100000 in
theorem kX5_placeOfName (l : Launch) (D : va_G) (cy : Nat → ClassId) (sz : Nat) (ap2 : Nat) (n2 : Nat) (p2 : Nat → Int64) (x0 : Int64) (x3 : Int32) (zr : Int32) (hok : fX5_placeOfName n2 p2 x0 x3 = some zr) (A : Nat → Prop) (hAe : va_A (wX5_placeOfName cy ap2 n2 p2) sz = A) : Met l yX5_placeOfName wsX5_placeOfName ({ frames := 0, cells := 0, slots := 0, locals := 0 } : Room) (kPre D cy [.long x0, .ref ap2, .int x3] (wX5_placeOfName cy ap2 n2 p2) sz) (kQi D cy zr A (wX5_placeOfName cy ap2 n2 p2)) 0 0 A := by
  refine Met.ofW (cc := cX5_placeOfName) (maxL := 5) (ret := (some .int)) (by decide) rfl ?_
  intro p e s m args below meth c s₁ B hml hv
  obtain ⟨rfl, hsz, hP, hK, hD0, hN⟩ := hv
  have hx := B.exec
  have hb := B.bytes
  have hr := B.returns
  have ht0 : ∀ w ∈ W0, w.before _ s = true := fun w h => atoms_spec (ws := wsX5_placeOfName) B.pre w (List.mem_cons_of_mem _ h)
  have hown : s.vm.findClass RX5 = some m.cls := findClass_of_methodNamed B.named
  have hlocks := B.notSynchronized
  subst hsz
  have hD : va_D A (wX5_placeOfName cy ap2 n2 p2) := by rw [← hAe]; exact hD0.self
  have hA : ∀ q : Nat, s.heap.size ≤ q → A q := fun q h => by rw [← hAe]; exact Or.inr h
  have hS : va_S A s.heap s.heap [] := va_S.rf
  have hl := lv_entry ([.long x0, .ref ap2, .int x3]) (n := 5) (Nat.le_of_ble_eq_true rfl)
  rw [lg_entry_eq]
  generalize (lg_sl ([.long x0, .ref ap2, .int x3]) ++ List.replicate (5 - (lg_sl ([.long x0, .ref ap2, .int x3])).length) Slot.unset).toArray = ls at hl ⊢
  have hl : lv_has ls 5 [(0, .long x0), (2, .ref ap2), (3, .int x3)] := hl
  generalize hQe : MQ below (kQi D cy zr A (wX5_placeOfName cy ap2 n2 p2)) ([.long x0, .ref ap2, .int x3] : List Value).toArray s 0 0 A = Q
  have J34 : ∀ (H : Heap) (locs : List Loc) (ls : Array Slot), va_P D vwCl (wX5_placeOfName cy ap2 n2 p2) H → va_D A (wX5_placeOfName cy ap2 n2 p2) → va_S A s.heap H locs → lv_has ls 5 [] → fX5_placeOfName_J34 = some zr → W p l e ({ frames := 0, cells := 0, slots := 0, locals := 0 } : Room) s m ([.long x0, .ref ap2, .int x3] : List Value).toArray below meth c H locs 0 0 Q (F0 m 34 ls []) := by
    intro  H locs ls hP hD hS hl hok
    unfold fX5_placeOfName_J34 at hok
    refine lv_iconst (v := -1) hx hb dX5_placeOfName_34 (by decide) ?_
    cases hok
    subst hQe; exact W.iret hx hb hr (fun t ht hW => ⟨⟨_, (), rfl, rfl, by rw [ht]; exact hP, va_K.moved hW.alike hK, hD⟩, hS.F ht⟩) hS.2.2 dX5_placeOfName_35
  have L3 : ∀ (fuel : Nat) (y4_3 : Int32), ∀ (H : Heap) (locs : List Loc) (ls : Array Slot), va_P D vwCl (wX5_placeOfName cy ap2 n2 p2) H → va_D A (wX5_placeOfName cy ap2 n2 p2) → va_S A s.heap H locs → lv_has ls 5 [(0, .long x0), (2, .ref ap2), (3, .int x3), (4, .int y4_3)] → lp (fX5_placeOfName_B3 n2 p2 x0 x3) fuel y4_3 = some zr → W p l e ({ frames := 0, cells := 0, slots := 0, locals := 0 } : Room) s m ([.long x0, .ref ap2, .int x3] : List Value).toArray below meth c H locs 0 0 Q (F0 m 3 ls []) := by
    intro fuel
    induction fuel with
    | zero => intro y4_3 H locs ls hP hD hS hl hok; exact (lp_0 hok).elim
    | succ fuel ih3 =>
      intro y4_3 H locs ls hP hD hS hl hok
      obtain ⟨y3, hok, hL3, hR3⟩ := lp_step hok
      unfold fX5_placeOfName_B3 at hok
      refine lv_iload hx hb dX5_placeOfName_3 (lv_at hl 3 rfl) ?_
      refine lv_iload_n hx hb dX5_placeOfName_5 rfl (lv_at hl 2 rfl) ?_
      refine lv_icmp_ge (tgt := 34) hx hb dX5_placeOfName_6 (by decide) (fun c6 => ?_) (fun c6 => ?_)
      · have hok := k_pos c6 hok
        obtain ⟨e3, hok, he3⟩ := ex_some hok
        have hok := hok.trans (congrArg some (hL3 _ he3))
        exact J34  H locs ls hP hD hS (lv_sub hl [] rfl) hok
      · have hok := k_neg c6 hok
        refine lv_iload hx hb dX5_placeOfName_9 (lv_at hl 3 rfl) ?_
        refine lv_aload_n hx hb dX5_placeOfName_11 rfl (lv_at hl 1 rfl) ?_
        refine va_alen hx hb hK hP 0 2 rfl rfl (v := (nI n2)) rfl dX5_placeOfName_12 ?_
        refine lv_icmp_ge (tgt := 34) hx hb dX5_placeOfName_13 (by decide) (fun c13 => ?_) (fun c13 => ?_)
        · have hok := k_pos c13 hok
          obtain ⟨e3, hok, he3⟩ := ex_some hok
          have hok := hok.trans (congrArg some (hL3 _ he3))
          exact J34  H locs ls hP hD hS (lv_sub hl [] rfl) hok
        · have hok := k_neg c13 hok
          refine lv_aload_n hx hb dX5_placeOfName_16 rfl (lv_at hl 1 rfl) ?_
          refine lv_iload hx hb dX5_placeOfName_17 (lv_at hl 3 rfl) ?_
          obtain ⟨g19, hok⟩ := gd_some hok
          refine va_lald hx hb hK hP 0 2 rfl rfl (okI_in g19) dX5_placeOfName_19 ?_
          refine lv_lload_n hx hb dX5_placeOfName_20 rfl (lv_at hl 0 rfl) ?_
          refine W.lcmp hx hb dX5_placeOfName_21 ?_
          refine lv_if_ne (tgt := 28) hx hb dX5_placeOfName_22 (by decide) (fun c22 => ?_) (fun c22 => ?_)
          · have hok := k_neg c22 hok
            refine lv_iinc (v := (y4_3 + 1)) (lv' := [(4, .int (y4_3 + 1)), (0, .long x0), (2, .ref ap2), (3, .int x3)]) hx hb dX5_placeOfName_28 hl (k := 3) rfl (by first | rfl | decide) (by decide) rfl (fun ls hl => ?_)
            refine lv_goto (tgt := 3) hx hb dX5_placeOfName_31 (by decide) ?_
            exact ih3 (y4_3 + 1) H locs ls hP hD hS (lv_sub hl [1, 2, 3, 0] rfl) (hR3 _ (Option.some.inj hok).symm)
          · have hok := k_pos c22 hok
            obtain ⟨e3, hok, he3⟩ := ex_some hok
            have hok := hok.trans (congrArg some (hL3 _ he3))
            refine lv_iload hx hb dX5_placeOfName_25 (lv_at hl 3 rfl) ?_
            cases hok
            subst hQe; exact W.iret hx hb hr (fun t ht hW => ⟨⟨_, (), rfl, rfl, by rw [ht]; exact hP, va_K.moved hW.alike hK, hD⟩, hS.F ht⟩) hS.2.2 dX5_placeOfName_27
  unfold fX5_placeOfName at hok
  obtain ⟨H, hH⟩ : ∃ H, H = s.heap := ⟨_, rfl⟩
  obtain ⟨locs, hlc⟩ : ∃ x : List Loc, x = [] := ⟨_, rfl⟩
  have hP : va_P D vwCl (wX5_placeOfName cy ap2 n2 p2) H := by rw [hH]; exact hP
  have hS : va_S A s.heap H locs := by rw [hH, hlc]; exact hS
  rw [show W p l e _ s m _ below meth c s.heap [] = W p l e _ s m _ below meth c H locs from by rw [hH, hlc]]
  refine lv_iconst (v := 0) hx hb dX5_placeOfName_0 (by decide) ?_
  refine lv_istore (lv' := [(4, .int 0), (0, .long x0), (2, .ref ap2), (3, .int x3)]) hx hb dX5_placeOfName_1 hl (by decide) rfl (fun ls hl => ?_)
  exact L3 5000 (0 : Int32) H locs ls hP hD hS (lv_sub hl [1, 2, 3, 0] rfl) hok
def wsX5_takeNewName : List Cond := .code yX5_takeNewName cX5_takeNewName 4 (some .long) :: W0
abbrev wX5_takeNewName (cy : Nat → ClassId) (aR : Nat) (qR : Nat → Nat) (aH : Nat) (qH : Nat → Nat) (fvR_2 : Nat) (vR_j11 : Int64) (vR : Nat → Int32) (vR_tape : Nat → Int32) (vH : Nat → Int32) (vR_ringNames : Nat → Int64) (vR_thingNames : Nat → Int64) : va_W := [(aR, oX5 vR qR vR_j11 fvR_2), (qR 0, rB cy 900 vR_tape), (aH, oX4 vH qH), (qR 3, rJ cy 4 vR_ringNames), (qR 4, rJ cy 7 vR_thingNames)]
set_option maxHeartbeats 4000000 in
set_option maxRecDepth 100000 in
theorem kX5_takeNewName (l : Launch) (D : va_G) (cy : Nat → ClassId) (ad : (Nat → Nat) × (Nat → Nat)) (sz : Nat) (aR : Nat) (qR : Nat → Nat) (aH : Nat) (qH : Nat → Nat) (vR_j11 : Int64) (vR : Nat → Int32) (vR_tape : Nat → Int32) (vH : Nat → Int32) (vR_ringNames : Nat → Int64) (vR_thingNames : Nat → Int64) (zr : Int64) (z_vR_j11 : Int64) (z_vR : Nat → Int32) (hok : fX5_takeNewName vR_j11 vR vR_tape vH vR_ringNames vR_thingNames = some (zr, z_vR_j11, z_vR)) (A : Nat → Prop) (hAe : va_A (wX5_takeNewName cy aR qR aH qH aH vR_j11 vR vR_tape vH vR_ringNames vR_thingNames) sz = A) : Met l yX5_takeNewName wsX5_takeNewName ({ frames := 6, cells := 0, slots := 0, locals := 130 } : Room) (kPreS D cy ad [.ref aR] (wX5_takeNewName cy aR qR aH qH aH vR_j11 vR vR_tape vH vR_ringNames vR_thingNames) sz A) (kQl D cy zr A (wX5_takeNewName cy aR qR aH qH aH z_vR_j11 z_vR vR_tape vH vR_ringNames vR_thingNames)) 0 0 A := by
  refine Met.ofW (cc := cX5_takeNewName) (maxL := 4) (ret := (some .long)) (by decide) rfl ?_
  intro p e s m args below meth c s₁ B hml hv
  obtain ⟨rfl, ⟨hsz, hP, hK, hD0, hN⟩, hSt⟩ := hv
  have hx := B.exec
  have hb := B.bytes
  have hr := B.returns
  have ht0 : ∀ w ∈ W0, w.before _ s = true := fun w h => atoms_spec (ws := wsX5_takeNewName) B.pre w (List.mem_cons_of_mem _ h)
  have hown : s.vm.findClass RX5 = some m.cls := findClass_of_methodNamed B.named
  have hlocks := B.notSynchronized
  subst hsz
  have hD : va_D A (wX5_takeNewName cy aR qR aH qH aH vR_j11 vR vR_tape vH vR_ringNames vR_thingNames) := by rw [← hAe]; exact hD0.self
  have hA : ∀ q : Nat, s.heap.size ≤ q → A q := fun q h => by rw [← hAe]; exact Or.inr h
  have hS : va_S A s.heap s.heap [] := va_S.rf
  have hl := lv_entry ([.ref aR]) (n := 4) (Nat.le_of_ble_eq_true rfl)
  rw [lg_entry_eq]
  generalize (lg_sl ([.ref aR]) ++ List.replicate (4 - (lg_sl ([.ref aR])).length) Slot.unset).toArray = ls at hl ⊢
  have hl : lv_has ls 4 [(0, .ref aR)] := hl
  generalize hQe : MQ below (kQl D cy zr A (wX5_takeNewName cy aR qR aH qH aH z_vR_j11 z_vR vR_tape vH vR_ringNames vR_thingNames)) ([.ref aR] : List Value).toArray s 0 0 A = Q
  have J69 : ∀ (H : Heap) (locs : List Loc) (ls : Array Slot), va_P D vwCl (wX5_takeNewName cy aR qR aH qH aH vR_j11 vR vR_tape vH vR_ringNames vR_thingNames) H → va_D A (wX5_takeNewName cy aR qR aH qH aH vR_j11 vR vR_tape vH vR_ringNames vR_thingNames) → va_S A s.heap H locs → lv_has ls 4 [(0, .ref aR)] → fX5_takeNewName_J69 vR_j11 vR = some (zr, z_vR_j11, z_vR) → W p l e ({ frames := 6, cells := 0, slots := 0, locals := 130 } : Room) s m ([.ref aR] : List Value).toArray below meth c H locs 0 0 Q (F0 m 69 ls []) := by
    intro  H locs ls hP hD hS hl hok
    unfold fX5_takeNewName_J69 at hok
    refine lv_aload_n hx hb dX5_takeNewName_69 rfl (lv_at hl 0 rfl) ?_
    refine lv_iconst (v := 3) hx hb dX5_takeNewName_70 (by decide) ?_
    obtain ⟨⟨r71, vR_71⟩, hc71, hok⟩ := k_bind hok
    try dsimp only at hok
    refine kCi (wc := (wX5_fails cy aR qR aH aH vR_j11 vR)) (wc2 := (wX5_fails cy aR qR aH aH vR_j11 vR_71)) (wr := [(qR 0, rB cy 900 vR_tape), (aH, oX4 vH qH), (qR 3, rJ cy 4 vR_ringNames), (qR 4, rJ cy 7 vR_thingNames)]) (ws2 := (wX5_takeNewName cy aR qR aH qH aH vR_j11 vR_71 vR_tape vH vR_ringNames vR_thingNames)) (kRunV (As := [.int 3]) (rest := []) ⟨hx, hb, hml, hown, ht0⟩ (kX5_fails l D cy _ aR qR aH vR_j11 vR (3 : Int32) r71 vR_71 hc71 _ rfl) (cwV 1 ht0 (gV wd332 wd333 wd334 wd276 wd335) rfl rfl rfl (by decide +kernel) ⟨Nat.le_of_ble_eq_true rfl, Nat.le_of_ble_eq_true rfl⟩) hK hN hP hD [0] rfl (by decide) 0 4 rfl rfl rfl hl.1 rfl (Nat.le_of_ble_eq_true rfl) dX5_takeNewName_71 ⟨Nat.zero_le _, Nat.zero_le _⟩) hP hD hS hA [0] [1, 2, 3, 4] rfl rfl (by decide) (by decide) [4, 0, 1, 2, 3] (by decide) rfl rfl (fun H locs hP hD hS => ?_)
    refine lv_pop hx hb dX5_takeNewName_74 rfl ?_
    refine lv_ldc2 (v := -1) hx hb hown (ht0 _ wd361) dX5_takeNewName_75 ?_
    cases hok
    subst hQe; exact W.lret hx hb hr (fun t ht hW => ⟨⟨_, (), rfl, rfl, by rw [ht]; exact hP, va_K.moved hW.alike hK, hD⟩, hS.F ht⟩) hS.2.2 dX5_takeNewName_78
  have J43 : ∀ (t0_43 : Int32), ∀ (H : Heap) (locs : List Loc) (ls : Array Slot), va_P D vwCl (wX5_takeNewName cy aR qR aH qH aH vR_j11 vR vR_tape vH vR_ringNames vR_thingNames) H → va_D A (wX5_takeNewName cy aR qR aH qH aH vR_j11 vR vR_tape vH vR_ringNames vR_thingNames) → va_S A s.heap H locs → lv_has ls 4 [(0, .ref aR)] → fX5_takeNewName_J43 vR_j11 vR vR_tape vH vR_thingNames t0_43 = some (zr, z_vR_j11, z_vR) → W p l e ({ frames := 6, cells := 0, slots := 0, locals := 130 } : Room) s m ([.ref aR] : List Value).toArray below meth c H locs 0 0 Q (F0 m 43 ls [.int t0_43]) := by
    intro t0_43 H locs ls hP hD hS hl hok
    unfold fX5_takeNewName_J43 at hok
    refine lv_istore_n (lv' := [(1, .int t0_43), (0, .ref aR)]) hx hb dX5_takeNewName_43 rfl hl (by decide) rfl (fun ls hl => ?_)
    refine lv_iload_n hx hb dX5_takeNewName_44 rfl (lv_at hl 0 rfl) ?_
    refine lv_if_ne (tgt := 69) hx hb dX5_takeNewName_45 (by decide) (fun c45 => ?_) (fun c45 => ?_)
    · have hok := k_neg c45 hok
      exact J69  H locs ls hP hD hS (lv_sub hl [1] rfl) hok
    · have hok := k_pos c45 hok
      refine lv_aload_n hx hb dX5_takeNewName_48 rfl (lv_at hl 1 rfl) ?_
      refine va_get (D := D) (ci := 4) (v := .long vR_j11) (C := RX5) (T := TX5) (N := 13) hx hb ht0 niX5 hown hK hP 0 rfl rfl 11 (by decide) (ht0 _ wd271) (fun _ h9 => h9) rfl dX5_takeNewName_49 ?_
      refine lv_aload_n hx hb dX5_takeNewName_52 rfl (lv_at hl 1 rfl) ?_
      refine va_get (D := D) (ci := 4) (v := .ref (qR 4)) (C := RX5) (T := TX5) (N := 13) hx hb ht0 niX5 hown hK hP 0 rfl rfl 4 (by decide) (ht0 _ wd362) (fun _ h9 => h9) rfl dX5_takeNewName_53 ?_
      refine lv_aload_n hx hb dX5_takeNewName_56 rfl (lv_at hl 1 rfl) ?_
      refine va_get (D := D) (ci := 4) (v := .ref aH) (C := RX5) (T := TX5) (N := 13) hx hb ht0 niX5 hown hK hP 0 rfl rfl 2 (by decide) (ht0 _ wd266) (fun _ h9 => h9) rfl dX5_takeNewName_57 ?_
      refine va_get (D := D) (ci := 3) (v := .int (vH 5)) (C := RX4) (T := TX4) (N := 20) hx hb ht0 niX4 hown hK hP 2 rfl rfl 5 (by decide) (ht0 _ wd357) (fun _ h9 => h9) rfl dX5_takeNewName_60 ?_
      obtain ⟨r63, hc63, hok⟩ := k_bind hok
      refine kCi (wc := (wX5_placeOfName cy (qR 4) 7 vR_thingNames)) (wc2 := (wX5_placeOfName cy (qR 4) 7 vR_thingNames)) (wr := [(aR, oX5 vR qR vR_j11 aH), (qR 0, rB cy 900 vR_tape), (aH, oX4 vH qH), (qR 3, rJ cy 4 vR_ringNames)]) (ws2 := (wX5_takeNewName cy aR qR aH qH aH vR_j11 vR vR_tape vH vR_ringNames vR_thingNames)) (kRunS (As := [.long vR_j11, .ref (qR 4), .int (vH 5)]) (rest := []) ⟨hx, hb, hml, hown, ht0⟩ (kX5_placeOfName l D cy _ (qR 4) 7 vR_thingNames vR_j11 (vH 5) r63 hc63 _ rfl) (va_cwS 3 ht0 (gS wd363 wd364 wd276 wd365) rfl rfl rfl (by decide +kernel) ⟨Nat.le_of_ble_eq_true rfl, Nat.le_of_ble_eq_true rfl⟩) hK hN hP hD [4] rfl (by decide) rfl hl.1 rfl (Nat.le_of_ble_eq_true rfl) dX5_takeNewName_63 ⟨Nat.zero_le _, Nat.zero_le _⟩) hP hD hS hA [4] [0, 1, 2, 3] rfl rfl (by decide) (by decide) [0, 1, 2, 3, 4] (by decide) rfl rfl (fun H locs hP hD hS => ?_)
      refine lv_if_lt (tgt := 79) hx hb dX5_takeNewName_66 (by decide) (fun c66 => ?_) (fun c66 => ?_)
      · have hok := k_pos c66 hok
        refine lv_aload_n hx hb dX5_takeNewName_79 rfl (lv_at hl 1 rfl) ?_
        refine va_get (D := D) (ci := 4) (v := .long vR_j11) (C := RX5) (T := TX5) (N := 13) hx hb ht0 niX5 hown hK hP 0 rfl rfl 11 (by decide) (ht0 _ wd271) (fun _ h9 => h9) rfl dX5_takeNewName_80 ?_
        refine lv_lstore_n (lv' := [(2, .long vR_j11), (1, .int t0_43), (0, .ref aR)]) hx hb dX5_takeNewName_83 rfl hl (by decide) rfl (fun ls hl => ?_)
        refine lv_aload_n hx hb dX5_takeNewName_84 rfl (lv_at hl 2 rfl) ?_
        obtain ⟨⟨vR_j11_85, vR_85⟩, hc85, hok⟩ := k_bind hok
        try dsimp only at hok
        refine kCv (wc := (wX5_step cy aR qR aH aH vR_j11 vR vR_tape)) (wc2 := (wX5_step cy aR qR aH aH vR_j11_85 vR_85 vR_tape)) (wr := [(aH, oX4 vH qH), (qR 3, rJ cy 4 vR_ringNames), (qR 4, rJ cy 7 vR_thingNames)]) (ws2 := (wX5_takeNewName cy aR qR aH qH aH vR_j11_85 vR_85 vR_tape vH vR_ringNames vR_thingNames)) (kRunV (As := []) (rest := []) ⟨hx, hb, hml, hown, ht0⟩ (kX5_step l D cy _ aR qR aH vR_j11 vR vR_tape vR_j11_85 vR_85 hc85 _ rfl) (cwV 0 ht0 (gV wd328 wd329 wd330 wd276 wd331) rfl rfl rfl (by decide +kernel) ⟨Nat.le_of_ble_eq_true rfl, Nat.le_of_ble_eq_true rfl⟩) hK hN hP hD [0, 1] rfl (by decide) 0 4 rfl rfl rfl hl.1 rfl (Nat.le_of_ble_eq_true rfl) dX5_takeNewName_85 ⟨Nat.zero_le _, Nat.zero_le _⟩) hP hD hS hA [0, 1] [2, 3, 4] rfl rfl (by decide) (by decide) [3, 4, 0, 1, 2] (by decide) rfl rfl (fun H locs hP hD hS => ?_)
        refine lv_lload_n hx hb dX5_takeNewName_88 rfl (lv_at hl 0 rfl) ?_
        cases hok
        subst hQe; exact W.lret hx hb hr (fun t ht hW => ⟨⟨_, (), rfl, rfl, by rw [ht]; exact hP, va_K.moved hW.alike hK, hD⟩, hS.F ht⟩) hS.2.2 dX5_takeNewName_89
      · have hok := k_neg c66 hok
        exact J69  H locs ls hP hD hS (lv_sub hl [1] rfl) hok
  unfold fX5_takeNewName at hok
  obtain ⟨H, hH⟩ : ∃ H, H = s.heap := ⟨_, rfl⟩
  obtain ⟨locs, hlc⟩ : ∃ x : List Loc, x = [] := ⟨_, rfl⟩
  have hP : va_P D vwCl (wX5_takeNewName cy aR qR aH qH aH vR_j11 vR vR_tape vH vR_ringNames vR_thingNames) H := by rw [hH]; exact hP
  have hS : va_S A s.heap H locs := by rw [hH, hlc]; exact hS
  rw [show W p l e _ s m _ below meth c s.heap [] = W p l e _ s m _ below meth c H locs from by rw [hH, hlc]]
  refine lv_aload_n hx hb dX5_takeNewName_0 rfl (lv_at hl 0 rfl) ?_
  obtain ⟨r1, hc1, hok⟩ := k_bind hok
  refine kCi (wc := (wX5_isName cy aR qR aH aH vR_j11 vR vR_tape)) (wc2 := (wX5_isName cy aR qR aH aH vR_j11 vR vR_tape)) (wr := [(aH, oX4 vH qH), (qR 3, rJ cy 4 vR_ringNames), (qR 4, rJ cy 7 vR_thingNames)]) (ws2 := (wX5_takeNewName cy aR qR aH qH aH vR_j11 vR vR_tape vH vR_ringNames vR_thingNames)) (kRunVS (As := []) (rest := []) ⟨hx, hb, hml, hown, ht0⟩ (kX5_isName l D cy ad _ aR qR aH vR_j11 vR vR_tape r1 hc1 _ rfl) (cwV 0 ht0 (gV wd366 wd367 wd368 wd276 wd369) rfl rfl rfl (by decide +kernel) ⟨Nat.le_of_ble_eq_true rfl, Nat.le_of_ble_eq_true rfl⟩) hK hN hP hD hSt hS hA [0, 1] rfl (by decide) 0 4 rfl rfl rfl hl.1 rfl (Nat.le_of_ble_eq_true rfl) dX5_takeNewName_1 ⟨Nat.zero_le _, Nat.zero_le _⟩) hP hD hS hA [0, 1] [2, 3, 4] rfl rfl (by decide) (by decide) [3, 4, 0, 1, 2] (by decide) rfl rfl (fun H locs hP hD hS => ?_)
  refine lv_if_ne (tgt := 17) hx hb dX5_takeNewName_4 (by decide) (fun c4 => ?_) (fun c4 => ?_)
  · have hok := k_neg c4 hok
    refine lv_aload_n hx hb dX5_takeNewName_17 rfl (lv_at hl 0 rfl) ?_
    refine va_get (D := D) (ci := 4) (v := .long vR_j11) (C := RX5) (T := TX5) (N := 13) hx hb ht0 niX5 hown hK hP 0 rfl rfl 11 (by decide) (ht0 _ wd271) (fun _ h9 => h9) rfl dX5_takeNewName_18 ?_
    refine lv_aload_n hx hb dX5_takeNewName_21 rfl (lv_at hl 0 rfl) ?_
    refine va_get (D := D) (ci := 4) (v := .ref (qR 3)) (C := RX5) (T := TX5) (N := 13) hx hb ht0 niX5 hown hK hP 0 rfl rfl 3 (by decide) (ht0 _ wd370) (fun _ h9 => h9) rfl dX5_takeNewName_22 ?_
    refine lv_aload_n hx hb dX5_takeNewName_25 rfl (lv_at hl 0 rfl) ?_
    refine va_get (D := D) (ci := 4) (v := .ref aH) (C := RX5) (T := TX5) (N := 13) hx hb ht0 niX5 hown hK hP 0 rfl rfl 2 (by decide) (ht0 _ wd266) (fun _ h9 => h9) rfl dX5_takeNewName_26 ?_
    refine va_get (D := D) (ci := 3) (v := .int (vH 2)) (C := RX4) (T := TX4) (N := 20) hx hb ht0 niX4 hown hK hP 2 rfl rfl 2 (by decide) (ht0 _ wd360) (fun _ h9 => h9) rfl dX5_takeNewName_29 ?_
    obtain ⟨r32, hc32, hok⟩ := k_bind hok
    refine kCi (wc := (wX5_placeOfName cy (qR 3) 4 vR_ringNames)) (wc2 := (wX5_placeOfName cy (qR 3) 4 vR_ringNames)) (wr := [(aR, oX5 vR qR vR_j11 aH), (qR 0, rB cy 900 vR_tape), (aH, oX4 vH qH), (qR 4, rJ cy 7 vR_thingNames)]) (ws2 := (wX5_takeNewName cy aR qR aH qH aH vR_j11 vR vR_tape vH vR_ringNames vR_thingNames)) (kRunS (As := [.long vR_j11, .ref (qR 3), .int (vH 2)]) (rest := []) ⟨hx, hb, hml, hown, ht0⟩ (kX5_placeOfName l D cy _ (qR 3) 4 vR_ringNames vR_j11 (vH 2) r32 hc32 _ rfl) (va_cwS 3 ht0 (gS wd363 wd364 wd276 wd365) rfl rfl rfl (by decide +kernel) ⟨Nat.le_of_ble_eq_true rfl, Nat.le_of_ble_eq_true rfl⟩) hK hN hP hD [3] rfl (by decide) rfl hl.1 rfl (Nat.le_of_ble_eq_true rfl) dX5_takeNewName_32 ⟨Nat.zero_le _, Nat.zero_le _⟩) hP hD hS hA [3] [0, 1, 2, 4] rfl rfl (by decide) (by decide) [0, 1, 2, 4, 3] (by decide) rfl rfl (fun H locs hP hD hS => ?_)
    refine lv_if_lt (tgt := 42) hx hb dX5_takeNewName_35 (by decide) (fun c35 => ?_) (fun c35 => ?_)
    · have hok := k_pos c35 hok
      refine lv_iconst (v := 0) hx hb dX5_takeNewName_42 (by decide) ?_
      exact J43 (0 : Int32) H locs ls hP hD hS (lv_sub hl [0] rfl) hok
    · have hok := k_neg c35 hok
      refine lv_iconst (v := 1) hx hb dX5_takeNewName_38 (by decide) ?_
      refine lv_goto (tgt := 43) hx hb dX5_takeNewName_39 (by decide) ?_
      exact J43 (1 : Int32) H locs ls hP hD hS (lv_sub hl [0] rfl) hok
  · have hok := k_pos c4 hok
    refine lv_aload_n hx hb dX5_takeNewName_7 rfl (lv_at hl 0 rfl) ?_
    refine lv_iconst (v := 1) hx hb dX5_takeNewName_8 (by decide) ?_
    obtain ⟨⟨r9, vR_9⟩, hc9, hok⟩ := k_bind hok
    try dsimp only at hok
    refine kCi (wc := (wX5_fails cy aR qR aH aH vR_j11 vR)) (wc2 := (wX5_fails cy aR qR aH aH vR_j11 vR_9)) (wr := [(qR 0, rB cy 900 vR_tape), (aH, oX4 vH qH), (qR 3, rJ cy 4 vR_ringNames), (qR 4, rJ cy 7 vR_thingNames)]) (ws2 := (wX5_takeNewName cy aR qR aH qH aH vR_j11 vR_9 vR_tape vH vR_ringNames vR_thingNames)) (kRunV (As := [.int 1]) (rest := []) ⟨hx, hb, hml, hown, ht0⟩ (kX5_fails l D cy _ aR qR aH vR_j11 vR (1 : Int32) r9 vR_9 hc9 _ rfl) (cwV 1 ht0 (gV wd332 wd333 wd334 wd276 wd335) rfl rfl rfl (by decide +kernel) ⟨Nat.le_of_ble_eq_true rfl, Nat.le_of_ble_eq_true rfl⟩) hK hN hP hD [0] rfl (by decide) 0 4 rfl rfl rfl hl.1 rfl (Nat.le_of_ble_eq_true rfl) dX5_takeNewName_9 ⟨Nat.zero_le _, Nat.zero_le _⟩) hP hD hS hA [0] [1, 2, 3, 4] rfl rfl (by decide) (by decide) [4, 0, 1, 2, 3] (by decide) rfl rfl (fun H locs hP hD hS => ?_)
    refine lv_pop hx hb dX5_takeNewName_12 rfl ?_
    refine lv_ldc2 (v := -1) hx hb hown (ht0 _ wd361) dX5_takeNewName_13 ?_
    cases hok
    subst hQe; exact W.lret hx hb hr (fun t ht hW => ⟨⟨_, (), rfl, rfl, by rw [ht]; exact hP, va_K.moved hW.alike hK, hD⟩, hS.F ht⟩) hS.2.2 dX5_takeNewName_16
def wsX5_sortSaid : List Cond := .code yX5_sortSaid cX5_sortSaid 1 (some .int) :: W0
abbrev wX5_sortSaid (cy : Nat → ClassId) (aR : Nat) (qR : Nat → Nat) (aH : Nat) (fvR_2 : Nat) (vR_j11 : Int64) (vR : Nat → Int32) (vR_tape : Nat → Int32) : va_W := [(aR, oX5 vR qR vR_j11 fvR_2), (qR 0, rB cy 900 vR_tape)]
set_option maxHeartbeats 4000000 in
set_option maxRecDepth 100000 in
theorem kX5_sortSaid (l : Launch) (D : va_G) (cy : Nat → ClassId) (ad : (Nat → Nat) × (Nat → Nat)) (sz : Nat) (aR : Nat) (qR : Nat → Nat) (aH : Nat) (vR_j11 : Int64) (vR : Nat → Int32) (vR_tape : Nat → Int32) (zr : Int32) (hok : fX5_sortSaid vR_j11 vR vR_tape = some zr) (A : Nat → Prop) (hAe : va_A (wX5_sortSaid cy aR qR aH aH vR_j11 vR vR_tape) sz = A) : Met l yX5_sortSaid wsX5_sortSaid ({ frames := 5, cells := 0, slots := 0, locals := 108 } : Room) (kPreS D cy ad [.ref aR] (wX5_sortSaid cy aR qR aH aH vR_j11 vR vR_tape) sz A) (kQi D cy zr A (wX5_sortSaid cy aR qR aH aH vR_j11 vR vR_tape)) 0 0 A := by
  refine Met.ofW (cc := cX5_sortSaid) (maxL := 1) (ret := (some .int)) (by decide) rfl ?_
  intro p e s m args below meth c s₁ B hml hv
  obtain ⟨rfl, ⟨hsz, hP, hK, hD0, hN⟩, hSt⟩ := hv
  have hx := B.exec
  have hb := B.bytes
  have hr := B.returns
  have ht0 : ∀ w ∈ W0, w.before _ s = true := fun w h => atoms_spec (ws := wsX5_sortSaid) B.pre w (List.mem_cons_of_mem _ h)
  have hown : s.vm.findClass RX5 = some m.cls := findClass_of_methodNamed B.named
  have hlocks := B.notSynchronized
  subst hsz
  have hD : va_D A (wX5_sortSaid cy aR qR aH aH vR_j11 vR vR_tape) := by rw [← hAe]; exact hD0.self
  have hA : ∀ q : Nat, s.heap.size ≤ q → A q := fun q h => by rw [← hAe]; exact Or.inr h
  have hS : va_S A s.heap s.heap [] := va_S.rf
  have hl := lv_entry ([.ref aR]) (n := 1) (Nat.le_of_ble_eq_true rfl)
  rw [lg_entry_eq]
  generalize (lg_sl ([.ref aR]) ++ List.replicate (1 - (lg_sl ([.ref aR])).length) Slot.unset).toArray = ls at hl ⊢
  have hl : lv_has ls 1 [(0, .ref aR)] := hl
  generalize hQe : MQ below (kQi D cy zr A (wX5_sortSaid cy aR qR aH aH vR_j11 vR vR_tape)) ([.ref aR] : List Value).toArray s 0 0 A = Q
  have J36 : ∀ (t0_36 : Int32), ∀ (H : Heap) (locs : List Loc) (ls : Array Slot), va_P D vwCl (wX5_sortSaid cy aR qR aH aH vR_j11 vR vR_tape) H → va_D A (wX5_sortSaid cy aR qR aH aH vR_j11 vR vR_tape) → va_S A s.heap H locs → lv_has ls 1 [] → fX5_sortSaid_J36 t0_36 = some zr → W p l e ({ frames := 5, cells := 0, slots := 0, locals := 108 } : Room) s m ([.ref aR] : List Value).toArray below meth c H locs 0 0 Q (F0 m 36 ls [.int t0_36]) := by
    intro t0_36 H locs ls hP hD hS hl hok
    unfold fX5_sortSaid_J36 at hok
    cases hok
    subst hQe; exact W.iret hx hb hr (fun t ht hW => ⟨⟨_, (), rfl, rfl, by rw [ht]; exact hP, va_K.moved hW.alike hK, hD⟩, hS.F ht⟩) hS.2.2 dX5_sortSaid_36
  unfold fX5_sortSaid at hok
  obtain ⟨H, hH⟩ : ∃ H, H = s.heap := ⟨_, rfl⟩
  obtain ⟨locs, hlc⟩ : ∃ x : List Loc, x = [] := ⟨_, rfl⟩
  have hP : va_P D vwCl (wX5_sortSaid cy aR qR aH aH vR_j11 vR vR_tape) H := by rw [hH]; exact hP
  have hS : va_S A s.heap H locs := by rw [hH, hlc]; exact hS
  rw [show W p l e _ s m _ below meth c s.heap [] = W p l e _ s m _ below meth c H locs from by rw [hH, hlc]]
  refine lv_aload_n hx hb dX5_sortSaid_0 rfl (lv_at hl 0 rfl) ?_
  refine va_ldcS (own := RX5) (tx := "plain") (index := 136) (q := ad.1 17) hx hb hown (hSt.2.1 (RX5, 136, "plain", 17) (List.mem_of_getElem? (i := 8) rfl)) dX5_sortSaid_1 ?_
  obtain ⟨r3, hc3, hok⟩ := k_bind hok
  refine kCi (wc := (wX5_says cy aR qR aH aH vR_j11 vR vR_tape)) (wc2 := (wX5_says cy aR qR aH aH vR_j11 vR vR_tape)) (wr := []) (ws2 := (wX5_sortSaid cy aR qR aH aH vR_j11 vR vR_tape)) (kRunVS (As := [.ref (ad.1 17)]) (rest := []) ⟨hx, hb, hml, hown, ht0⟩ (kX5_says l D cy ad _ aR qR aH vR_j11 vR vR_tape 17 r3 hc3 _ rfl) (cwV 1 ht0 (gV wd324 wd325 wd326 wd276 wd327) rfl rfl rfl (by decide +kernel) ⟨Nat.le_of_ble_eq_true rfl, Nat.le_of_ble_eq_true rfl⟩) hK hN hP hD hSt hS hA [0, 1] rfl (by decide) 0 4 rfl rfl rfl hl.1 rfl (Nat.le_of_ble_eq_true rfl) dX5_sortSaid_3 ⟨Nat.zero_le _, Nat.zero_le _⟩) hP hD hS hA [0, 1] [] rfl rfl (by decide) (by decide) [0, 1] (by decide) rfl rfl (fun H locs hP hD hS => ?_)
  refine lv_if_eq (tgt := 11) hx hb dX5_sortSaid_6 (by decide) (fun c6 => ?_) (fun c6 => ?_)
  · have hok := k_pos c6 hok
    refine lv_aload_n hx hb dX5_sortSaid_11 rfl (lv_at hl 0 rfl) ?_
    refine va_ldcS (own := RX5) (tx := "cellar") (index := 138) (q := ad.1 4) hx hb hown (hSt.2.1 (RX5, 138, "cellar", 4) (List.mem_of_getElem? (i := 9) rfl)) dX5_sortSaid_12 ?_
    obtain ⟨r14, hc14, hok⟩ := k_bind hok
    refine kCi (wc := (wX5_says cy aR qR aH aH vR_j11 vR vR_tape)) (wc2 := (wX5_says cy aR qR aH aH vR_j11 vR vR_tape)) (wr := []) (ws2 := (wX5_sortSaid cy aR qR aH aH vR_j11 vR vR_tape)) (kRunVS (As := [.ref (ad.1 4)]) (rest := []) ⟨hx, hb, hml, hown, ht0⟩ (kX5_says l D cy ad _ aR qR aH vR_j11 vR vR_tape 4 r14 hc14 _ rfl) (cwV 1 ht0 (gV wd324 wd325 wd326 wd276 wd327) rfl rfl rfl (by decide +kernel) ⟨Nat.le_of_ble_eq_true rfl, Nat.le_of_ble_eq_true rfl⟩) hK hN hP hD hSt hS hA [0, 1] rfl (by decide) 0 4 rfl rfl rfl hl.1 rfl (Nat.le_of_ble_eq_true rfl) dX5_sortSaid_14 ⟨Nat.zero_le _, Nat.zero_le _⟩) hP hD hS hA [0, 1] [] rfl rfl (by decide) (by decide) [0, 1] (by decide) rfl rfl (fun H locs hP hD hS => ?_)
    refine lv_if_eq (tgt := 22) hx hb dX5_sortSaid_17 (by decide) (fun c17 => ?_) (fun c17 => ?_)
    · have hok := k_pos c17 hok
      refine lv_aload_n hx hb dX5_sortSaid_22 rfl (lv_at hl 0 rfl) ?_
      refine va_ldcS (own := RX5) (tx := "attic") (index := 140) (q := ad.1 1) hx hb hown (hSt.2.1 (RX5, 140, "attic", 1) (List.mem_of_getElem? (i := 10) rfl)) dX5_sortSaid_23 ?_
      obtain ⟨r25, hc25, hok⟩ := k_bind hok
      refine kCi (wc := (wX5_says cy aR qR aH aH vR_j11 vR vR_tape)) (wc2 := (wX5_says cy aR qR aH aH vR_j11 vR vR_tape)) (wr := []) (ws2 := (wX5_sortSaid cy aR qR aH aH vR_j11 vR vR_tape)) (kRunVS (As := [.ref (ad.1 1)]) (rest := []) ⟨hx, hb, hml, hown, ht0⟩ (kX5_says l D cy ad _ aR qR aH vR_j11 vR vR_tape 1 r25 hc25 _ rfl) (cwV 1 ht0 (gV wd324 wd325 wd326 wd276 wd327) rfl rfl rfl (by decide +kernel) ⟨Nat.le_of_ble_eq_true rfl, Nat.le_of_ble_eq_true rfl⟩) hK hN hP hD hSt hS hA [0, 1] rfl (by decide) 0 4 rfl rfl rfl hl.1 rfl (Nat.le_of_ble_eq_true rfl) dX5_sortSaid_25 ⟨Nat.zero_le _, Nat.zero_le _⟩) hP hD hS hA [0, 1] [] rfl rfl (by decide) (by decide) [0, 1] (by decide) rfl rfl (fun H locs hP hD hS => ?_)
      refine lv_if_eq (tgt := 35) hx hb dX5_sortSaid_28 (by decide) (fun c28 => ?_) (fun c28 => ?_)
      · have hok := k_pos c28 hok
        refine lv_iconst (v := -1) hx hb dX5_sortSaid_35 (by decide) ?_
        exact J36 (-1 : Int32) H locs ls hP hD hS (lv_sub hl [] rfl) hok
      · have hok := k_neg c28 hok
        refine lv_iconst (v := 2) hx hb dX5_sortSaid_31 (by decide) ?_
        refine lv_goto (tgt := 36) hx hb dX5_sortSaid_32 (by decide) ?_
        exact J36 (2 : Int32) H locs ls hP hD hS (lv_sub hl [] rfl) hok
    · have hok := k_neg c17 hok
      refine lv_iconst (v := 1) hx hb dX5_sortSaid_20 (by decide) ?_
      cases hok
      subst hQe; exact W.iret hx hb hr (fun t ht hW => ⟨⟨_, (), rfl, rfl, by rw [ht]; exact hP, va_K.moved hW.alike hK, hD⟩, hS.F ht⟩) hS.2.2 dX5_sortSaid_21
  · have hok := k_neg c6 hok
    refine lv_iconst (v := 0) hx hb dX5_sortSaid_9 (by decide) ?_
    cases hok
    subst hQe; exact W.iret hx hb hr (fun t ht hW => ⟨⟨_, (), rfl, rfl, by rw [ht]; exact hP, va_K.moved hW.alike hK, hD⟩, hS.F ht⟩) hS.2.2 dX5_sortSaid_10
def wsX5_takeChoice : List Cond := .code yX5_takeChoice cX5_takeChoice 2 (some .int) :: W0
abbrev wX5_takeChoice (cy : Nat → ClassId) (aR : Nat) (qR : Nat → Nat) (aH : Nat) (fvR_2 : Nat) (vR_j11 : Int64) (vR : Nat → Int32) (vR_tape : Nat → Int32) : va_W := [(aR, oX5 vR qR vR_j11 fvR_2), (qR 0, rB cy 900 vR_tape)]
set_option maxHeartbeats 4000000 in
set_option maxRecDepth 100000 in
theorem kX5_takeChoice (l : Launch) (D : va_G) (cy : Nat → ClassId) (sz : Nat) (aR : Nat) (qR : Nat → Nat) (aH : Nat) (vR_j11 : Int64) (vR : Nat → Int32) (vR_tape : Nat → Int32) (x1 : Int32) (zr : Int32) (z_vR_j11 : Int64) (z_vR : Nat → Int32) (hok : fX5_takeChoice vR_j11 vR vR_tape x1 = some (zr, z_vR_j11, z_vR)) (A : Nat → Prop) (hAe : va_A (wX5_takeChoice cy aR qR aH aH vR_j11 vR vR_tape) sz = A) : Met l yX5_takeChoice wsX5_takeChoice ({ frames := 2, cells := 0, slots := 0, locals := 43 } : Room) (kPre D cy [.ref aR, .int x1] (wX5_takeChoice cy aR qR aH aH vR_j11 vR vR_tape) sz) (kQi D cy zr A (wX5_takeChoice cy aR qR aH aH z_vR_j11 z_vR vR_tape)) 0 0 A := by
  refine Met.ofW (cc := cX5_takeChoice) (maxL := 2) (ret := (some .int)) (by decide) rfl ?_
  intro p e s m args below meth c s₁ B hml hv
  obtain ⟨rfl, hsz, hP, hK, hD0, hN⟩ := hv
  have hx := B.exec
  have hb := B.bytes
  have hr := B.returns
  have ht0 : ∀ w ∈ W0, w.before _ s = true := fun w h => atoms_spec (ws := wsX5_takeChoice) B.pre w (List.mem_cons_of_mem _ h)
  have hown : s.vm.findClass RX5 = some m.cls := findClass_of_methodNamed B.named
  have hlocks := B.notSynchronized
  subst hsz
  have hD : va_D A (wX5_takeChoice cy aR qR aH aH vR_j11 vR vR_tape) := by rw [← hAe]; exact hD0.self
  have hA : ∀ q : Nat, s.heap.size ≤ q → A q := fun q h => by rw [← hAe]; exact Or.inr h
  have hS : va_S A s.heap s.heap [] := va_S.rf
  have hl := lv_entry ([.ref aR, .int x1]) (n := 2) (Nat.le_of_ble_eq_true rfl)
  rw [lg_entry_eq]
  generalize (lg_sl ([.ref aR, .int x1]) ++ List.replicate (2 - (lg_sl ([.ref aR, .int x1])).length) Slot.unset).toArray = ls at hl ⊢
  have hl : lv_has ls 2 [(0, .ref aR), (1, .int x1)] := hl
  unfold fX5_takeChoice at hok
  obtain ⟨H, hH⟩ : ∃ H, H = s.heap := ⟨_, rfl⟩
  obtain ⟨locs, hlc⟩ : ∃ x : List Loc, x = [] := ⟨_, rfl⟩
  have hP : va_P D vwCl (wX5_takeChoice cy aR qR aH aH vR_j11 vR vR_tape) H := by rw [hH]; exact hP
  have hS : va_S A s.heap H locs := by rw [hH, hlc]; exact hS
  rw [show W p l e _ s m _ below meth c s.heap [] = W p l e _ s m _ below meth c H locs from by rw [hH, hlc]]
  refine lv_iload_n hx hb dX5_takeChoice_0 rfl (lv_at hl 1 rfl) ?_
  refine lv_if_ge (tgt := 12) hx hb dX5_takeChoice_1 (by decide) (fun c1 => ?_) (fun c1 => ?_)
  · have hok := k_pos c1 hok
    refine lv_aload_n hx hb dX5_takeChoice_12 rfl (lv_at hl 0 rfl) ?_
    obtain ⟨⟨vR_j11_13, vR_13⟩, hc13, hok⟩ := k_bind hok
    try dsimp only at hok
    refine kCv (wc := (wX5_step cy aR qR aH aH vR_j11 vR vR_tape)) (wc2 := (wX5_step cy aR qR aH aH vR_j11_13 vR_13 vR_tape)) (wr := []) (ws2 := (wX5_takeChoice cy aR qR aH aH vR_j11_13 vR_13 vR_tape)) (kRunV (As := []) (rest := []) ⟨hx, hb, hml, hown, ht0⟩ (kX5_step l D cy _ aR qR aH vR_j11 vR vR_tape vR_j11_13 vR_13 hc13 _ rfl) (cwV 0 ht0 (gV wd328 wd329 wd330 wd276 wd331) rfl rfl rfl (by decide +kernel) ⟨Nat.le_of_ble_eq_true rfl, Nat.le_of_ble_eq_true rfl⟩) hK hN hP hD [0, 1] rfl (by decide) 0 4 rfl rfl rfl hl.1 rfl (Nat.le_of_ble_eq_true rfl) dX5_takeChoice_13 ⟨Nat.zero_le _, Nat.zero_le _⟩) hP hD hS hA [0, 1] [] rfl rfl (by decide) (by decide) [0, 1] (by decide) rfl rfl (fun H locs hP hD hS => ?_)
    refine lv_iload_n hx hb dX5_takeChoice_16 rfl (lv_at hl 1 rfl) ?_
    cases hok
    exact W.iret hx hb hr (fun t ht hW => ⟨⟨_, (), rfl, rfl, by rw [ht]; exact hP, va_K.moved hW.alike hK, hD⟩, hS.F ht⟩) hS.2.2 dX5_takeChoice_17
  · have hok := k_neg c1 hok
    refine lv_aload_n hx hb dX5_takeChoice_4 rfl (lv_at hl 0 rfl) ?_
    refine lv_iconst (v := 1) hx hb dX5_takeChoice_5 (by decide) ?_
    obtain ⟨⟨r6, vR_6⟩, hc6, hok⟩ := k_bind hok
    try dsimp only at hok
    refine kCi (wc := (wX5_fails cy aR qR aH aH vR_j11 vR)) (wc2 := (wX5_fails cy aR qR aH aH vR_j11 vR_6)) (wr := [(qR 0, rB cy 900 vR_tape)]) (ws2 := (wX5_takeChoice cy aR qR aH aH vR_j11 vR_6 vR_tape)) (kRunV (As := [.int 1]) (rest := []) ⟨hx, hb, hml, hown, ht0⟩ (kX5_fails l D cy _ aR qR aH vR_j11 vR (1 : Int32) r6 vR_6 hc6 _ rfl) (cwV 1 ht0 (gV wd332 wd333 wd334 wd276 wd335) rfl rfl rfl (by decide +kernel) ⟨Nat.le_of_ble_eq_true rfl, Nat.le_of_ble_eq_true rfl⟩) hK hN hP hD [0] rfl (by decide) 0 4 rfl rfl rfl hl.1 rfl (Nat.le_of_ble_eq_true rfl) dX5_takeChoice_6 ⟨Nat.zero_le _, Nat.zero_le _⟩) hP hD hS hA [0] [1] rfl rfl (by decide) (by decide) [1, 0] (by decide) rfl rfl (fun H locs hP hD hS => ?_)
    refine lv_pop hx hb dX5_takeChoice_9 rfl ?_
    refine lv_iconst (v := -1) hx hb dX5_takeChoice_10 (by decide) ?_
    cases hok
    exact W.iret hx hb hr (fun t ht hW => ⟨⟨_, (), rfl, rfl, by rw [ht]; exact hP, va_K.moved hW.alike hK, hD⟩, hS.F ht⟩) hS.2.2 dX5_takeChoice_11
def wsX5_readRing : List Cond := .code yX5_readRing cX5_readRing 5 (some .boolean) :: W0
abbrev wX5_readRing (cy : Nat → ClassId) (aR : Nat) (qR : Nat → Nat) (aH : Nat) (qH : Nat → Nat) (fvR_2 : Nat) (vR_j11 : Int64) (vR : Nat → Int32) (vR_tape : Nat → Int32) (vH : Nat → Int32) (vR_ringNames : Nat → Int64) (vR_thingNames : Nat → Int64) (vH_sorts : Nat → Int32) (vH_places : Nat → Int32) (vH_next : Nat → Int32) : va_W := [(aR, oX5 vR qR vR_j11 fvR_2), (qR 0, rB cy 900 vR_tape), (aH, oX4 vH qH), (qR 3, rJ cy 4 vR_ringNames), (qR 4, rJ cy 7 vR_thingNames), (qH 8, rI cy 4 vH_sorts), (qH 9, rI cy 4 vH_places), (qH 10, rI cy 36 vH_next)]
set_option maxHeartbeats 4000000 in
set_option maxRecDepth 100000 in
theorem kX5_readRing (l : Launch) (D : va_G) (cy : Nat → ClassId) (ad : (Nat → Nat) × (Nat → Nat)) (sz : Nat) (aR : Nat) (qR : Nat → Nat) (aH : Nat) (qH : Nat → Nat) (vR_j11 : Int64) (vR : Nat → Int32) (vR_tape : Nat → Int32) (vH : Nat → Int32) (vR_ringNames : Nat → Int64) (vR_thingNames : Nat → Int64) (vH_sorts : Nat → Int32) (vH_places : Nat → Int32) (vH_next : Nat → Int32) (zr : Int32) (z_vR_j11 : Int64) (z_vR : Nat → Int32) (z_vH : Nat → Int32) (z_vR_ringNames : Nat → Int64) (z_vH_sorts : Nat → Int32) (z_vH_places : Nat → Int32) (z_vH_next : Nat → Int32) (hok : fX5_readRing vR_j11 vR vR_tape vH vR_ringNames vR_thingNames vH_sorts vH_places vH_next = some (zr, z_vR_j11, z_vR, z_vH, z_vR_ringNames, z_vH_sorts, z_vH_places, z_vH_next)) (A : Nat → Prop) (hAe : va_A (wX5_readRing cy aR qR aH qH aH vR_j11 vR vR_tape vH vR_ringNames vR_thingNames vH_sorts vH_places vH_next) sz = A) : Met l yX5_readRing wsX5_readRing ({ frames := 7, cells := 0, slots := 0, locals := 153 } : Room) (kPreS D cy ad [.ref aR] (wX5_readRing cy aR qR aH qH aH vR_j11 vR vR_tape vH vR_ringNames vR_thingNames vH_sorts vH_places vH_next) sz A) (kQi D cy zr A (wX5_readRing cy aR qR aH qH aH z_vR_j11 z_vR vR_tape z_vH z_vR_ringNames vR_thingNames z_vH_sorts z_vH_places z_vH_next)) 0 0 A := by
  refine Met.ofW (cc := cX5_readRing) (maxL := 5) (ret := (some .boolean)) (by decide) rfl ?_
  intro p e s m args below meth c s₁ B hml hv
  obtain ⟨rfl, ⟨hsz, hP, hK, hD0, hN⟩, hSt⟩ := hv
  have hx := B.exec
  have hb := B.bytes
  have hr := B.returns
  have ht0 : ∀ w ∈ W0, w.before _ s = true := fun w h => atoms_spec (ws := wsX5_readRing) B.pre w (List.mem_cons_of_mem _ h)
  have hown : s.vm.findClass RX5 = some m.cls := findClass_of_methodNamed B.named
  have hlocks := B.notSynchronized
  subst hsz
  have hD : va_D A (wX5_readRing cy aR qR aH qH aH vR_j11 vR vR_tape vH vR_ringNames vR_thingNames vH_sorts vH_places vH_next) := by rw [← hAe]; exact hD0.self
  have hA : ∀ q : Nat, s.heap.size ≤ q → A q := fun q h => by rw [← hAe]; exact Or.inr h
  have hS : va_S A s.heap s.heap [] := va_S.rf
  have hl := lv_entry ([.ref aR]) (n := 5) (Nat.le_of_ble_eq_true rfl)
  rw [lg_entry_eq]
  generalize (lg_sl ([.ref aR]) ++ List.replicate (5 - (lg_sl ([.ref aR])).length) Slot.unset).toArray = ls at hl ⊢
  have hl : lv_has ls 5 [(0, .ref aR)] := hl
  generalize hQe : MQ below (kQi D cy zr A (wX5_readRing cy aR qR aH qH aH z_vR_j11 z_vR vR_tape z_vH z_vR_ringNames vR_thingNames z_vH_sorts z_vH_places z_vH_next)) ([.ref aR] : List Value).toArray s 0 0 A = Q
  have J76 : ∀ (vR_11_76 : Int64) (vR_76 : Nat → Int32), ∀ (H : Heap) (locs : List Loc) (ls : Array Slot), va_P D vwCl (wX5_readRing cy aR qR aH qH aH vR_11_76 vR_76 vR_tape vH vR_ringNames vR_thingNames vH_sorts vH_places vH_next) H → va_D A (wX5_readRing cy aR qR aH qH aH vR_11_76 vR_76 vR_tape vH vR_ringNames vR_thingNames vH_sorts vH_places vH_next) → va_S A s.heap H locs → lv_has ls 5 [] → fX5_readRing_J76 vH vR_ringNames vH_sorts vH_places vH_next vR_11_76 vR_76 = some (zr, z_vR_j11, z_vR, z_vH, z_vR_ringNames, z_vH_sorts, z_vH_places, z_vH_next) → W p l e ({ frames := 7, cells := 0, slots := 0, locals := 153 } : Room) s m ([.ref aR] : List Value).toArray below meth c H locs 0 0 Q (F0 m 76 ls []) := by
    intro vR_11_76 vR_76 H locs ls hP hD hS hl hok
    unfold fX5_readRing_J76 at hok
    refine lv_iconst (v := 0) hx hb dX5_readRing_76 (by decide) ?_
    cases hok
    subst hQe; exact W.zret hx hb hr rfl (fun t ht hW => ⟨⟨_, (), rfl, rfl, by rw [ht]; exact hP, va_K.moved hW.alike hK, hD⟩, hS.F ht⟩) hS.2.2 dX5_readRing_77
  have J39 : ∀ (vR_11_39 : Int64) (vR_39 : Nat → Int32), ∀ (H : Heap) (locs : List Loc) (ls : Array Slot), va_P D vwCl (wX5_readRing cy aR qR aH qH aH vR_11_39 vR_39 vR_tape vH vR_ringNames vR_thingNames vH_sorts vH_places vH_next) H → va_D A (wX5_readRing cy aR qR aH qH aH vR_11_39 vR_39 vR_tape vH vR_ringNames vR_thingNames vH_sorts vH_places vH_next) → va_S A s.heap H locs → lv_has ls 5 [] → fX5_readRing_J39 vH vR_ringNames vH_sorts vH_places vH_next vR_11_39 vR_39 = some (zr, z_vR_j11, z_vR, z_vH, z_vR_ringNames, z_vH_sorts, z_vH_places, z_vH_next) → W p l e ({ frames := 7, cells := 0, slots := 0, locals := 153 } : Room) s m ([.ref aR] : List Value).toArray below meth c H locs 0 0 Q (F0 m 39 ls []) := by
    intro vR_11_39 vR_39 H locs ls hP hD hS hl hok
    unfold fX5_readRing_J39 at hok
    refine lv_iconst (v := 0) hx hb dX5_readRing_39 (by decide) ?_
    cases hok
    subst hQe; exact W.zret hx hb hr rfl (fun t ht hW => ⟨⟨_, (), rfl, rfl, by rw [ht]; exact hP, va_K.moved hW.alike hK, hD⟩, hS.F ht⟩) hS.2.2 dX5_readRing_40
  unfold fX5_readRing at hok
  obtain ⟨H, hH⟩ : ∃ H, H = s.heap := ⟨_, rfl⟩
  obtain ⟨locs, hlc⟩ : ∃ x : List Loc, x = [] := ⟨_, rfl⟩
  have hP : va_P D vwCl (wX5_readRing cy aR qR aH qH aH vR_j11 vR vR_tape vH vR_ringNames vR_thingNames vH_sorts vH_places vH_next) H := by rw [hH]; exact hP
  have hS : va_S A s.heap H locs := by rw [hH, hlc]; exact hS
  rw [show W p l e _ s m _ below meth c s.heap [] = W p l e _ s m _ below meth c H locs from by rw [hH, hlc]]
  refine lv_aload_n hx hb dX5_readRing_0 rfl (lv_at hl 0 rfl) ?_
  obtain ⟨⟨vR_j11_1, vR_1⟩, hc1, hok⟩ := k_bind hok
  try dsimp only at hok
  refine kCv (wc := (wX5_step cy aR qR aH aH vR_j11 vR vR_tape)) (wc2 := (wX5_step cy aR qR aH aH vR_j11_1 vR_1 vR_tape)) (wr := [(aH, oX4 vH qH), (qR 3, rJ cy 4 vR_ringNames), (qR 4, rJ cy 7 vR_thingNames), (qH 8, rI cy 4 vH_sorts), (qH 9, rI cy 4 vH_places), (qH 10, rI cy 36 vH_next)]) (ws2 := (wX5_readRing cy aR qR aH qH aH vR_j11_1 vR_1 vR_tape vH vR_ringNames vR_thingNames vH_sorts vH_places vH_next)) (kRunV (As := []) (rest := []) ⟨hx, hb, hml, hown, ht0⟩ (kX5_step l D cy _ aR qR aH vR_j11 vR vR_tape vR_j11_1 vR_1 hc1 _ rfl) (cwV 0 ht0 (gV wd328 wd329 wd330 wd276 wd331) rfl rfl rfl (by decide +kernel) ⟨Nat.le_of_ble_eq_true rfl, Nat.le_of_ble_eq_true rfl⟩) hK hN hP hD [0, 1] rfl (by decide) 0 4 rfl rfl rfl hl.1 rfl (Nat.le_of_ble_eq_true rfl) dX5_readRing_1 ⟨Nat.zero_le _, Nat.zero_le _⟩) hP hD hS hA [0, 1] [2, 3, 4, 5, 6, 7] rfl rfl (by decide) (by decide) [6, 7, 0, 1, 2, 3, 4, 5] (by decide) rfl rfl (fun H locs hP hD hS => ?_)
  refine lv_aload_n hx hb dX5_readRing_4 rfl (lv_at hl 0 rfl) ?_
  obtain ⟨⟨r5, vR_j11_5, vR_5⟩, hc5, hok⟩ := k_bind hok
  try dsimp only at hok
  refine kCl (wc := (wX5_takeNewName cy aR qR aH qH aH vR_j11_1 vR_1 vR_tape vH vR_ringNames vR_thingNames)) (wc2 := (wX5_takeNewName cy aR qR aH qH aH vR_j11_5 vR_5 vR_tape vH vR_ringNames vR_thingNames)) (wr := [(qH 8, rI cy 4 vH_sorts), (qH 9, rI cy 4 vH_places), (qH 10, rI cy 36 vH_next)]) (ws2 := (wX5_readRing cy aR qR aH qH aH vR_j11_5 vR_5 vR_tape vH vR_ringNames vR_thingNames vH_sorts vH_places vH_next)) (kRunVS (As := []) (rest := []) ⟨hx, hb, hml, hown, ht0⟩ (kX5_takeNewName l D cy ad _ aR qR aH qH vR_j11_1 vR_1 vR_tape vH vR_ringNames vR_thingNames r5 vR_j11_5 vR_5 hc5 _ rfl) (cwV 0 ht0 (gV wd371 wd372 wd373 wd276 wd374) rfl rfl rfl (by decide +kernel) ⟨Nat.le_of_ble_eq_true rfl, Nat.le_of_ble_eq_true rfl⟩) hK hN hP hD hSt hS hA [0, 1, 2, 3, 4] rfl (by decide) 0 4 rfl rfl rfl hl.1 rfl (Nat.le_of_ble_eq_true rfl) dX5_readRing_5 ⟨Nat.zero_le _, Nat.zero_le _⟩) hP hD hS hA [0, 1, 2, 3, 4] [5, 6, 7] rfl rfl (by decide) (by decide) [3, 4, 5, 6, 7, 0, 1, 2] (by decide) rfl rfl (fun H locs hP hD hS => ?_)
  refine lv_lstore_n (lv' := [(1, .long r5), (0, .ref aR)]) hx hb dX5_readRing_8 rfl hl (by decide) rfl (fun ls hl => ?_)
  refine lv_lload_n hx hb dX5_readRing_9 rfl (lv_at hl 0 rfl) ?_
  refine lv_lconst (v := 0) hx hb dX5_readRing_10 (by decide) ?_
  refine W.lcmp hx hb dX5_readRing_11 ?_
  refine lv_if_ge (tgt := 17) hx hb dX5_readRing_12 (by decide) (fun c12 => ?_) (fun c12 => ?_)
  · have hok := k_pos c12 hok
    refine lv_aload_n hx hb dX5_readRing_17 rfl (lv_at hl 1 rfl) ?_
    refine lv_aload_n hx hb dX5_readRing_18 rfl (lv_at hl 1 rfl) ?_
    obtain ⟨r19, hc19, hok⟩ := k_bind hok
    refine kCi (wc := (wX5_sortSaid cy aR qR aH aH vR_j11_5 vR_5 vR_tape)) (wc2 := (wX5_sortSaid cy aR qR aH aH vR_j11_5 vR_5 vR_tape)) (wr := [(aH, oX4 vH qH), (qR 3, rJ cy 4 vR_ringNames), (qR 4, rJ cy 7 vR_thingNames), (qH 8, rI cy 4 vH_sorts), (qH 9, rI cy 4 vH_places), (qH 10, rI cy 36 vH_next)]) (ws2 := (wX5_readRing cy aR qR aH qH aH vR_j11_5 vR_5 vR_tape vH vR_ringNames vR_thingNames vH_sorts vH_places vH_next)) (kRunVS (As := []) (rest := [.ref aR]) ⟨hx, hb, hml, hown, ht0⟩ (kX5_sortSaid l D cy ad _ aR qR aH vR_j11_5 vR_5 vR_tape r19 hc19 _ rfl) (cwV 0 ht0 (gV wd375 wd376 wd377 wd276 wd378) rfl rfl rfl (by decide +kernel) ⟨Nat.le_of_ble_eq_true rfl, Nat.le_of_ble_eq_true rfl⟩) hK hN hP hD hSt hS hA [0, 1] rfl (by decide) 0 4 rfl rfl rfl hl.1 rfl (Nat.le_of_ble_eq_true rfl) dX5_readRing_19 ⟨Nat.zero_le _, Nat.zero_le _⟩) hP hD hS hA [0, 1] [2, 3, 4, 5, 6, 7] rfl rfl (by decide) (by decide) [6, 7, 0, 1, 2, 3, 4, 5] (by decide) rfl rfl (fun H locs hP hD hS => ?_)
    obtain ⟨⟨r22, vR_j11_22, vR_22⟩, hc22, hok⟩ := k_bind hok
    try dsimp only at hok
    refine kCi (wc := (wX5_takeChoice cy aR qR aH aH vR_j11_5 vR_5 vR_tape)) (wc2 := (wX5_takeChoice cy aR qR aH aH vR_j11_22 vR_22 vR_tape)) (wr := [(aH, oX4 vH qH), (qR 3, rJ cy 4 vR_ringNames), (qR 4, rJ cy 7 vR_thingNames), (qH 8, rI cy 4 vH_sorts), (qH 9, rI cy 4 vH_places), (qH 10, rI cy 36 vH_next)]) (ws2 := (wX5_readRing cy aR qR aH qH aH vR_j11_22 vR_22 vR_tape vH vR_ringNames vR_thingNames vH_sorts vH_places vH_next)) (kRunV (As := [.int r19]) (rest := []) ⟨hx, hb, hml, hown, ht0⟩ (kX5_takeChoice l D cy _ aR qR aH vR_j11_5 vR_5 vR_tape r19 r22 vR_j11_22 vR_22 hc22 _ rfl) (cwV 1 ht0 (gV wd379 wd380 wd381 wd276 wd382) rfl rfl rfl (by decide +kernel) ⟨Nat.le_of_ble_eq_true rfl, Nat.le_of_ble_eq_true rfl⟩) hK hN hP hD [0, 1] rfl (by decide) 0 4 rfl rfl rfl hl.1 rfl (Nat.le_of_ble_eq_true rfl) dX5_readRing_22 ⟨Nat.zero_le _, Nat.zero_le _⟩) hP hD hS hA [0, 1] [2, 3, 4, 5, 6, 7] rfl rfl (by decide) (by decide) [6, 7, 0, 1, 2, 3, 4, 5] (by decide) rfl rfl (fun H locs hP hD hS => ?_)
    refine lv_istore_n (lv' := [(3, .int r22), (1, .long r5), (0, .ref aR)]) hx hb dX5_readRing_25 rfl hl (by decide) rfl (fun ls hl => ?_)
    refine lv_iload_n hx hb dX5_readRing_26 rfl (lv_at hl 0 rfl) ?_
    refine lv_if_lt (tgt := 39) hx hb dX5_readRing_27 (by decide) (fun c27 => ?_) (fun c27 => ?_)
    · have hok := k_pos c27 hok
      exact J39 vR_j11_22 vR_22 H locs ls hP hD hS (lv_sub hl [] rfl) hok
    · have hok := k_neg c27 hok
      refine lv_aload_n hx hb dX5_readRing_30 rfl (lv_at hl 2 rfl) ?_
      refine va_ldcS (own := RX5) (tx := "places") (index := 213) (q := ad.1 16) hx hb hown (hSt.2.1 (RX5, 213, "places", 16) (List.mem_of_getElem? (i := 15) rfl)) dX5_readRing_31 ?_
      obtain ⟨⟨r33, vR_j11_33, vR_33⟩, hc33, hok⟩ := k_bind hok
      try dsimp only at hok
      refine kCi (wc := (wX5_passes cy aR qR aH aH vR_j11_22 vR_22 vR_tape)) (wc2 := (wX5_passes cy aR qR aH aH vR_j11_33 vR_33 vR_tape)) (wr := [(aH, oX4 vH qH), (qR 3, rJ cy 4 vR_ringNames), (qR 4, rJ cy 7 vR_thingNames), (qH 8, rI cy 4 vH_sorts), (qH 9, rI cy 4 vH_places), (qH 10, rI cy 36 vH_next)]) (ws2 := (wX5_readRing cy aR qR aH qH aH vR_j11_33 vR_33 vR_tape vH vR_ringNames vR_thingNames vH_sorts vH_places vH_next)) (kRunVS (As := [.ref (ad.1 16)]) (rest := []) ⟨hx, hb, hml, hown, ht0⟩ (kX5_passes l D cy ad _ aR qR aH vR_j11_22 vR_22 vR_tape 16 r33 vR_j11_33 vR_33 hc33 _ rfl) (cwV 1 ht0 (gV wd341 wd342 wd343 wd276 wd344) rfl rfl rfl (by decide +kernel) ⟨Nat.le_of_ble_eq_true rfl, Nat.le_of_ble_eq_true rfl⟩) hK hN hP hD hSt hS hA [0, 1] rfl (by decide) 0 4 rfl rfl rfl hl.1 rfl (Nat.le_of_ble_eq_true rfl) dX5_readRing_33 ⟨Nat.zero_le _, Nat.zero_le _⟩) hP hD hS hA [0, 1] [2, 3, 4, 5, 6, 7] rfl rfl (by decide) (by decide) [6, 7, 0, 1, 2, 3, 4, 5] (by decide) rfl rfl (fun H locs hP hD hS => ?_)
      refine lv_if_ne (tgt := 41) hx hb dX5_readRing_36 (by decide) (fun c36 => ?_) (fun c36 => ?_)
      · have hok := k_neg c36 hok
        refine lv_aload_n hx hb dX5_readRing_41 rfl (lv_at hl 2 rfl) ?_
        refine lv_iconst (v := 2) hx hb dX5_readRing_42 (by decide) ?_
        refine lv_bipush (v := 9) hx hb dX5_readRing_43 (by decide) ?_
        obtain ⟨⟨r45, vR_j11_45, vR_45⟩, hc45, hok⟩ := k_bind hok
        try dsimp only at hok
        refine kCi (wc := (wX5_takeWhole cy aR qR aH aH vR_j11_33 vR_33 vR_tape)) (wc2 := (wX5_takeWhole cy aR qR aH aH vR_j11_45 vR_45 vR_tape)) (wr := [(aH, oX4 vH qH), (qR 3, rJ cy 4 vR_ringNames), (qR 4, rJ cy 7 vR_thingNames), (qH 8, rI cy 4 vH_sorts), (qH 9, rI cy 4 vH_places), (qH 10, rI cy 36 vH_next)]) (ws2 := (wX5_readRing cy aR qR aH qH aH vR_j11_45 vR_45 vR_tape vH vR_ringNames vR_thingNames vH_sorts vH_places vH_next)) (kRunV (As := [.int 2, .int 9]) (rest := []) ⟨hx, hb, hml, hown, ht0⟩ (kX5_takeWhole l D cy _ aR qR aH vR_j11_33 vR_33 vR_tape (2 : Int32) (9 : Int32) r45 vR_j11_45 vR_45 hc45 _ rfl) (cwV 2 ht0 (gV wd345 wd346 wd347 wd276 wd348) rfl rfl rfl (by decide +kernel) ⟨Nat.le_of_ble_eq_true rfl, Nat.le_of_ble_eq_true rfl⟩) hK hN hP hD [0, 1] rfl (by decide) 0 4 rfl rfl rfl hl.1 rfl (Nat.le_of_ble_eq_true rfl) dX5_readRing_45 ⟨Nat.zero_le _, Nat.zero_le _⟩) hP hD hS hA [0, 1] [2, 3, 4, 5, 6, 7] rfl rfl (by decide) (by decide) [6, 7, 0, 1, 2, 3, 4, 5] (by decide) rfl rfl (fun H locs hP hD hS => ?_)
        refine lv_istore (lv' := [(4, .int r45), (3, .int r22), (1, .long r5), (0, .ref aR)]) hx hb dX5_readRing_48 hl (by decide) rfl (fun ls hl => ?_)
        refine lv_iload hx hb dX5_readRing_50 (lv_at hl 0 rfl) ?_
        refine lv_if_lt (tgt := 76) hx hb dX5_readRing_52 (by decide) (fun c52 => ?_) (fun c52 => ?_)
        · have hok := k_pos c52 hok
          exact J76 vR_j11_45 vR_45 H locs ls hP hD hS (lv_sub hl [] rfl) hok
        · have hok := k_neg c52 hok
          refine lv_aload_n hx hb dX5_readRing_55 rfl (lv_at hl 3 rfl) ?_
          refine va_get (D := D) (ci := 4) (v := .ref aH) (C := RX5) (T := TX5) (N := 13) hx hb ht0 niX5 hown hK hP 0 rfl rfl 2 (by decide) (ht0 _ wd266) (fun _ h9 => h9) rfl dX5_readRing_56 ?_
          refine va_get (D := D) (ci := 3) (v := .int (vH 2)) (C := RX4) (T := TX4) (N := 20) hx hb ht0 niX4 hown hK hP 2 rfl rfl 2 (by decide) (ht0 _ wd360) (fun _ h9 => h9) rfl dX5_readRing_59 ?_
          refine lv_if_lt (tgt := 76) hx hb dX5_readRing_62 (by decide) (fun c62 => ?_) (fun c62 => ?_)
          · have hok := k_pos c62 hok
            exact J76 vR_j11_45 vR_45 H locs ls hP hD hS (lv_sub hl [] rfl) hok
          · have hok := k_neg c62 hok
            refine lv_aload_n hx hb dX5_readRing_65 rfl (lv_at hl 3 rfl) ?_
            refine va_get (D := D) (ci := 4) (v := .ref aH) (C := RX5) (T := TX5) (N := 13) hx hb ht0 niX5 hown hK hP 0 rfl rfl 2 (by decide) (ht0 _ wd266) (fun _ h9 => h9) rfl dX5_readRing_66 ?_
            refine va_get (D := D) (ci := 3) (v := .int (vH 2)) (C := RX4) (T := TX4) (N := 20) hx hb ht0 niX4 hown hK hP 2 rfl rfl 2 (by decide) (ht0 _ wd360) (fun _ h9 => h9) rfl dX5_readRing_69 ?_
            refine lv_iconst (v := 4) hx hb dX5_readRing_72 (by decide) ?_
            refine lv_icmp_lt (tgt := 78) hx hb dX5_readRing_73 (by decide) (fun c73 => ?_) (fun c73 => ?_)
            · have hok := k_pos c73 hok
              refine lv_aload_n hx hb dX5_readRing_78 rfl (lv_at hl 3 rfl) ?_
              refine va_get (D := D) (ci := 4) (v := .ref (qR 3)) (C := RX5) (T := TX5) (N := 13) hx hb ht0 niX5 hown hK hP 0 rfl rfl 3 (by decide) (ht0 _ wd370) (fun _ h9 => h9) rfl dX5_readRing_79 ?_
              refine lv_aload_n hx hb dX5_readRing_82 rfl (lv_at hl 3 rfl) ?_
              refine va_get (D := D) (ci := 4) (v := .ref aH) (C := RX5) (T := TX5) (N := 13) hx hb ht0 niX5 hown hK hP 0 rfl rfl 2 (by decide) (ht0 _ wd266) (fun _ h9 => h9) rfl dX5_readRing_83 ?_
              refine va_get (D := D) (ci := 3) (v := .int (vH 2)) (C := RX4) (T := TX4) (N := 20) hx hb ht0 niX4 hown hK hP 2 rfl rfl 2 (by decide) (ht0 _ wd360) (fun _ h9 => h9) rfl dX5_readRing_86 ?_
              refine lv_lload_n hx hb dX5_readRing_89 rfl (lv_at hl 2 rfl) ?_
              obtain ⟨g90, hok⟩ := gd_some hok
              refine va_last hx hb hK hP hD hS 3 2 rfl rfl (okI_in g90) dX5_readRing_90 (fun H locs hP hD hS => ?_)
              have hP : va_P D vwCl (wX5_readRing cy aR qR aH qH aH vR_j11_45 vR_45 vR_tape vH (vp_updL vR_ringNames (vH 2).toNatClampNeg r5) vR_thingNames vH_sorts vH_places vH_next) H := hP
              have hD : va_D A (wX5_readRing cy aR qR aH qH aH vR_j11_45 vR_45 vR_tape vH (vp_updL vR_ringNames (vH 2).toNatClampNeg r5) vR_thingNames vH_sorts vH_places vH_next) := hD
              refine lv_aload_n hx hb dX5_readRing_91 rfl (lv_at hl 3 rfl) ?_
              refine va_get (D := D) (ci := 4) (v := .ref aH) (C := RX5) (T := TX5) (N := 13) hx hb ht0 niX5 hown hK hP 0 rfl rfl 2 (by decide) (ht0 _ wd266) (fun _ h9 => h9) rfl dX5_readRing_92 ?_
              refine lv_iload_n hx hb dX5_readRing_95 rfl (lv_at hl 1 rfl) ?_
              refine lv_iload hx hb dX5_readRing_96 (lv_at hl 0 rfl) ?_
              obtain ⟨⟨vH_98, vH_sorts_98, vH_places_98, vH_next_98⟩, hc98, hok⟩ := k_bind hok
              try dsimp only at hok
              refine kCv (wc := (wX4_addRing cy aH qH vH vH_sorts vH_places vH_next)) (wc2 := (wX4_addRing cy aH qH vH_98 vH_sorts_98 vH_places_98 vH_next_98)) (wr := [(aR, oX5 vR_45 qR vR_j11_45 aH), (qR 0, rB cy 900 vR_tape), (qR 3, rJ cy 4 (vp_updL vR_ringNames (vH 2).toNatClampNeg r5)), (qR 4, rJ cy 7 vR_thingNames)]) (ws2 := (wX5_readRing cy aR qR aH qH aH vR_j11_45 vR_45 vR_tape vH_98 (vp_updL vR_ringNames (vH 2).toNatClampNeg r5) vR_thingNames vH_sorts_98 vH_places_98 vH_next_98)) (kRunV (As := [.int r22, .int r45]) (rest := []) ⟨hx, hb, hml, hown, ht0⟩ (kX4_addRing l D cy _ aH qH vH vH_sorts vH_places vH_next r22 r45 vH_98 vH_sorts_98 vH_places_98 vH_next_98 hc98 _ rfl) (cwV 2 ht0 (gV wd383 wd384 wd385 wd9 wd386) rfl rfl rfl (by decide +kernel) ⟨Nat.le_of_ble_eq_true rfl, Nat.le_of_ble_eq_true rfl⟩) hK hN hP hD [2, 5, 6, 7] rfl (by decide) 2 3 rfl rfl rfl hl.1 rfl (Nat.le_of_ble_eq_true rfl) dX5_readRing_98 ⟨Nat.zero_le _, Nat.zero_le _⟩) hP hD hS hA [2, 5, 6, 7] [0, 1, 3, 4] rfl rfl (by decide) (by decide) [0, 1, 4, 2, 3, 5, 6, 7] (by decide) rfl rfl (fun H locs hP hD hS => ?_)
              refine lv_iconst (v := 1) hx hb dX5_readRing_101 (by decide) ?_
              cases hok
              subst hQe; exact W.zret hx hb hr rfl (fun t ht hW => ⟨⟨_, (), rfl, rfl, by rw [ht]; exact hP, va_K.moved hW.alike hK, hD⟩, hS.F ht⟩) hS.2.2 dX5_readRing_102
            · have hok := k_neg c73 hok
              exact J76 vR_j11_45 vR_45 H locs ls hP hD hS (lv_sub hl [] rfl) hok
      · have hok := k_pos c36 hok
        exact J39 vR_j11_33 vR_33 H locs ls hP hD hS (lv_sub hl [] rfl) hok
  · have hok := k_neg c12 hok
    refine lv_iconst (v := 0) hx hb dX5_readRing_15 (by decide) ?_
    cases hok
    subst hQe; exact W.zret hx hb hr rfl (fun t ht hW => ⟨⟨_, (), rfl, rfl, by rw [ht]; exact hP, va_K.moved hW.alike hK, hD⟩, hS.F ht⟩) hS.2.2 dX5_readRing_16
def wsX5_takeToldName : List Cond := .code yX5_takeToldName cX5_takeToldName 4 (some .int) :: W0
abbrev wX5_takeToldName (cy : Nat → ClassId) (aR : Nat) (ap1 : Nat) (qR : Nat → Nat) (aH : Nat) (fvR_2 : Nat) (vR_j11 : Int64) (vR : Nat → Int32) (vR_tape : Nat → Int32) (n1 : Nat) (p1 : Nat → Int64) : va_W := [(aR, oX5 vR qR vR_j11 fvR_2), (qR 0, rB cy 900 vR_tape), (ap1, rJ cy n1 p1)]
set_option maxHeartbeats 4000000 in
set_option maxRecDepth 100000 in
theorem kX5_takeToldName (l : Launch) (D : va_G) (cy : Nat → ClassId) (ad : (Nat → Nat) × (Nat → Nat)) (sz : Nat) (aR : Nat) (ap1 : Nat) (qR : Nat → Nat) (aH : Nat) (vR_j11 : Int64) (vR : Nat → Int32) (vR_tape : Nat → Int32) (n1 : Nat) (p1 : Nat → Int64) (x2 : Int32) (zr : Int32) (z_vR_j11 : Int64) (z_vR : Nat → Int32) (hok : fX5_takeToldName vR_j11 vR vR_tape n1 p1 x2 = some (zr, z_vR_j11, z_vR)) (A : Nat → Prop) (hAe : va_A (wX5_takeToldName cy aR ap1 qR aH aH vR_j11 vR vR_tape n1 p1) sz = A) : Met l yX5_takeToldName wsX5_takeToldName ({ frames := 6, cells := 0, slots := 0, locals := 130 } : Room) (kPreS D cy ad [.ref aR, .ref ap1, .int x2] (wX5_takeToldName cy aR ap1 qR aH aH vR_j11 vR vR_tape n1 p1) sz A) (kQi D cy zr A (wX5_takeToldName cy aR ap1 qR aH aH z_vR_j11 z_vR vR_tape n1 p1)) 0 0 A := by
  refine Met.ofW (cc := cX5_takeToldName) (maxL := 4) (ret := (some .int)) (by decide) rfl ?_
  intro p e s m args below meth c s₁ B hml hv
  obtain ⟨rfl, ⟨hsz, hP, hK, hD0, hN⟩, hSt⟩ := hv
  have hx := B.exec
  have hb := B.bytes
  have hr := B.returns
  have ht0 : ∀ w ∈ W0, w.before _ s = true := fun w h => atoms_spec (ws := wsX5_takeToldName) B.pre w (List.mem_cons_of_mem _ h)
  have hown : s.vm.findClass RX5 = some m.cls := findClass_of_methodNamed B.named
  have hlocks := B.notSynchronized
  subst hsz
  have hD : va_D A (wX5_takeToldName cy aR ap1 qR aH aH vR_j11 vR vR_tape n1 p1) := by rw [← hAe]; exact hD0.self
  have hA : ∀ q : Nat, s.heap.size ≤ q → A q := fun q h => by rw [← hAe]; exact Or.inr h
  have hS : va_S A s.heap s.heap [] := va_S.rf
  have hl := lv_entry ([.ref aR, .ref ap1, .int x2]) (n := 4) (Nat.le_of_ble_eq_true rfl)
  rw [lg_entry_eq]
  generalize (lg_sl ([.ref aR, .ref ap1, .int x2]) ++ List.replicate (4 - (lg_sl ([.ref aR, .ref ap1, .int x2])).length) Slot.unset).toArray = ls at hl ⊢
  have hl : lv_has ls 4 [(0, .ref aR), (1, .ref ap1), (2, .int x2)] := hl
  unfold fX5_takeToldName at hok
  obtain ⟨H, hH⟩ : ∃ H, H = s.heap := ⟨_, rfl⟩
  obtain ⟨locs, hlc⟩ : ∃ x : List Loc, x = [] := ⟨_, rfl⟩
  have hP : va_P D vwCl (wX5_takeToldName cy aR ap1 qR aH aH vR_j11 vR vR_tape n1 p1) H := by rw [hH]; exact hP
  have hS : va_S A s.heap H locs := by rw [hH, hlc]; exact hS
  rw [show W p l e _ s m _ below meth c s.heap [] = W p l e _ s m _ below meth c H locs from by rw [hH, hlc]]
  refine lv_aload_n hx hb dX5_takeToldName_0 rfl (lv_at hl 0 rfl) ?_
  obtain ⟨r1, hc1, hok⟩ := k_bind hok
  refine kCi (wc := (wX5_isName cy aR qR aH aH vR_j11 vR vR_tape)) (wc2 := (wX5_isName cy aR qR aH aH vR_j11 vR vR_tape)) (wr := [(ap1, rJ cy n1 p1)]) (ws2 := (wX5_takeToldName cy aR ap1 qR aH aH vR_j11 vR vR_tape n1 p1)) (kRunVS (As := []) (rest := []) ⟨hx, hb, hml, hown, ht0⟩ (kX5_isName l D cy ad _ aR qR aH vR_j11 vR vR_tape r1 hc1 _ rfl) (cwV 0 ht0 (gV wd366 wd367 wd368 wd276 wd369) rfl rfl rfl (by decide +kernel) ⟨Nat.le_of_ble_eq_true rfl, Nat.le_of_ble_eq_true rfl⟩) hK hN hP hD hSt hS hA [0, 1] rfl (by decide) 0 4 rfl rfl rfl hl.1 rfl (Nat.le_of_ble_eq_true rfl) dX5_takeToldName_1 ⟨Nat.zero_le _, Nat.zero_le _⟩) hP hD hS hA [0, 1] [2] rfl rfl (by decide) (by decide) [1, 2, 0] (by decide) rfl rfl (fun H locs hP hD hS => ?_)
  refine lv_if_ne (tgt := 15) hx hb dX5_takeToldName_4 (by decide) (fun c4 => ?_) (fun c4 => ?_)
  · have hok := k_neg c4 hok
    refine lv_aload_n hx hb dX5_takeToldName_15 rfl (lv_at hl 0 rfl) ?_
    refine va_get (D := D) (ci := 4) (v := .long vR_j11) (C := RX5) (T := TX5) (N := 13) hx hb ht0 niX5 hown hK hP 0 rfl rfl 11 (by decide) (ht0 _ wd271) (fun _ h9 => h9) rfl dX5_takeToldName_16 ?_
    refine lv_aload_n hx hb dX5_takeToldName_19 rfl (lv_at hl 1 rfl) ?_
    refine lv_iload_n hx hb dX5_takeToldName_20 rfl (lv_at hl 2 rfl) ?_
    obtain ⟨r21, hc21, hok⟩ := k_bind hok
    refine kCi (wc := (wX5_placeOfName cy ap1 n1 p1)) (wc2 := (wX5_placeOfName cy ap1 n1 p1)) (wr := [(aR, oX5 vR qR vR_j11 aH), (qR 0, rB cy 900 vR_tape)]) (ws2 := (wX5_takeToldName cy aR ap1 qR aH aH vR_j11 vR vR_tape n1 p1)) (kRunS (As := [.long vR_j11, .ref ap1, .int x2]) (rest := []) ⟨hx, hb, hml, hown, ht0⟩ (kX5_placeOfName l D cy _ ap1 n1 p1 vR_j11 x2 r21 hc21 _ rfl) (va_cwS 3 ht0 (gS wd363 wd364 wd276 wd365) rfl rfl rfl (by decide +kernel) ⟨Nat.le_of_ble_eq_true rfl, Nat.le_of_ble_eq_true rfl⟩) hK hN hP hD [2] rfl (by decide) rfl hl.1 rfl (Nat.le_of_ble_eq_true rfl) dX5_takeToldName_21 ⟨Nat.zero_le _, Nat.zero_le _⟩) hP hD hS hA [2] [0, 1] rfl rfl (by decide) (by decide) [0, 1, 2] (by decide) rfl rfl (fun H locs hP hD hS => ?_)
    refine lv_istore_n (lv' := [(3, .int r21), (0, .ref aR), (1, .ref ap1), (2, .int x2)]) hx hb dX5_takeToldName_24 rfl hl (by decide) rfl (fun ls hl => ?_)
    refine lv_iload_n hx hb dX5_takeToldName_25 rfl (lv_at hl 0 rfl) ?_
    refine lv_if_ge (tgt := 37) hx hb dX5_takeToldName_26 (by decide) (fun c26 => ?_) (fun c26 => ?_)
    · have hok := k_pos c26 hok
      refine lv_aload_n hx hb dX5_takeToldName_37 rfl (lv_at hl 1 rfl) ?_
      obtain ⟨⟨vR_j11_38, vR_38⟩, hc38, hok⟩ := k_bind hok
      try dsimp only at hok
      refine kCv (wc := (wX5_step cy aR qR aH aH vR_j11 vR vR_tape)) (wc2 := (wX5_step cy aR qR aH aH vR_j11_38 vR_38 vR_tape)) (wr := [(ap1, rJ cy n1 p1)]) (ws2 := (wX5_takeToldName cy aR ap1 qR aH aH vR_j11_38 vR_38 vR_tape n1 p1)) (kRunV (As := []) (rest := []) ⟨hx, hb, hml, hown, ht0⟩ (kX5_step l D cy _ aR qR aH vR_j11 vR vR_tape vR_j11_38 vR_38 hc38 _ rfl) (cwV 0 ht0 (gV wd328 wd329 wd330 wd276 wd331) rfl rfl rfl (by decide +kernel) ⟨Nat.le_of_ble_eq_true rfl, Nat.le_of_ble_eq_true rfl⟩) hK hN hP hD [0, 1] rfl (by decide) 0 4 rfl rfl rfl hl.1 rfl (Nat.le_of_ble_eq_true rfl) dX5_takeToldName_38 ⟨Nat.zero_le _, Nat.zero_le _⟩) hP hD hS hA [0, 1] [2] rfl rfl (by decide) (by decide) [1, 2, 0] (by decide) rfl rfl (fun H locs hP hD hS => ?_)
      refine lv_iload_n hx hb dX5_takeToldName_41 rfl (lv_at hl 0 rfl) ?_
      cases hok
      exact W.iret hx hb hr (fun t ht hW => ⟨⟨_, (), rfl, rfl, by rw [ht]; exact hP, va_K.moved hW.alike hK, hD⟩, hS.F ht⟩) hS.2.2 dX5_takeToldName_42
    · have hok := k_neg c26 hok
      refine lv_aload_n hx hb dX5_takeToldName_29 rfl (lv_at hl 1 rfl) ?_
      refine lv_iconst (v := 2) hx hb dX5_takeToldName_30 (by decide) ?_
      obtain ⟨⟨r31, vR_31⟩, hc31, hok⟩ := k_bind hok
      try dsimp only at hok
      refine kCi (wc := (wX5_fails cy aR qR aH aH vR_j11 vR)) (wc2 := (wX5_fails cy aR qR aH aH vR_j11 vR_31)) (wr := [(qR 0, rB cy 900 vR_tape), (ap1, rJ cy n1 p1)]) (ws2 := (wX5_takeToldName cy aR ap1 qR aH aH vR_j11 vR_31 vR_tape n1 p1)) (kRunV (As := [.int 2]) (rest := []) ⟨hx, hb, hml, hown, ht0⟩ (kX5_fails l D cy _ aR qR aH vR_j11 vR (2 : Int32) r31 vR_31 hc31 _ rfl) (cwV 1 ht0 (gV wd332 wd333 wd334 wd276 wd335) rfl rfl rfl (by decide +kernel) ⟨Nat.le_of_ble_eq_true rfl, Nat.le_of_ble_eq_true rfl⟩) hK hN hP hD [0] rfl (by decide) 0 4 rfl rfl rfl hl.1 rfl (Nat.le_of_ble_eq_true rfl) dX5_takeToldName_31 ⟨Nat.zero_le _, Nat.zero_le _⟩) hP hD hS hA [0] [1, 2] rfl rfl (by decide) (by decide) [2, 0, 1] (by decide) rfl rfl (fun H locs hP hD hS => ?_)
      refine lv_pop hx hb dX5_takeToldName_34 rfl ?_
      refine lv_iconst (v := -1) hx hb dX5_takeToldName_35 (by decide) ?_
      cases hok
      exact W.iret hx hb hr (fun t ht hW => ⟨⟨_, (), rfl, rfl, by rw [ht]; exact hP, va_K.moved hW.alike hK, hD⟩, hS.F ht⟩) hS.2.2 dX5_takeToldName_36
  · have hok := k_pos c4 hok
    refine lv_aload_n hx hb dX5_takeToldName_7 rfl (lv_at hl 0 rfl) ?_
    refine lv_iconst (v := 1) hx hb dX5_takeToldName_8 (by decide) ?_
    obtain ⟨⟨r9, vR_9⟩, hc9, hok⟩ := k_bind hok
    try dsimp only at hok
    refine kCi (wc := (wX5_fails cy aR qR aH aH vR_j11 vR)) (wc2 := (wX5_fails cy aR qR aH aH vR_j11 vR_9)) (wr := [(qR 0, rB cy 900 vR_tape), (ap1, rJ cy n1 p1)]) (ws2 := (wX5_takeToldName cy aR ap1 qR aH aH vR_j11 vR_9 vR_tape n1 p1)) (kRunV (As := [.int 1]) (rest := []) ⟨hx, hb, hml, hown, ht0⟩ (kX5_fails l D cy _ aR qR aH vR_j11 vR (1 : Int32) r9 vR_9 hc9 _ rfl) (cwV 1 ht0 (gV wd332 wd333 wd334 wd276 wd335) rfl rfl rfl (by decide +kernel) ⟨Nat.le_of_ble_eq_true rfl, Nat.le_of_ble_eq_true rfl⟩) hK hN hP hD [0] rfl (by decide) 0 4 rfl rfl rfl hl.1 rfl (Nat.le_of_ble_eq_true rfl) dX5_takeToldName_9 ⟨Nat.zero_le _, Nat.zero_le _⟩) hP hD hS hA [0] [1, 2] rfl rfl (by decide) (by decide) [2, 0, 1] (by decide) rfl rfl (fun H locs hP hD hS => ?_)
    refine lv_pop hx hb dX5_takeToldName_12 rfl ?_
    refine lv_iconst (v := -1) hx hb dX5_takeToldName_13 (by decide) ?_
    cases hok
    exact W.iret hx hb hr (fun t ht hW => ⟨⟨_, (), rfl, rfl, by rw [ht]; exact hP, va_K.moved hW.alike hK, hD⟩, hS.F ht⟩) hS.2.2 dX5_takeToldName_14
def wsX5_readNarrow : List Cond := .code yX5_readNarrow cX5_readNarrow 4 (some .boolean) :: W0
abbrev wX5_readNarrow (cy : Nat → ClassId) (aR : Nat) (qR : Nat → Nat) (aH : Nat) (qH : Nat → Nat) (fvR_2 : Nat) (vR_j11 : Int64) (vR : Nat → Int32) (vR_tape : Nat → Int32) (vH : Nat → Int32) (vR_ringNames : Nat → Int64) (vH_places : Nat → Int32) (vH_width : Nat → Int32) : va_W := [(aR, oX5 vR qR vR_j11 fvR_2), (qR 0, rB cy 900 vR_tape), (aH, oX4 vH qH), (qR 3, rJ cy 4 vR_ringNames), (qH 9, rI cy 4 vH_places), (qH 11, rI cy 36 vH_width)]
set_option maxHeartbeats 4000000 in
set_option maxRecDepth 100000 in
theorem kX5_readNarrow (l : Launch) (D : va_G) (cy : Nat → ClassId) (ad : (Nat → Nat) × (Nat → Nat)) (sz : Nat) (aR : Nat) (qR : Nat → Nat) (aH : Nat) (qH : Nat → Nat) (vR_j11 : Int64) (vR : Nat → Int32) (vR_tape : Nat → Int32) (vH : Nat → Int32) (vR_ringNames : Nat → Int64) (vH_places : Nat → Int32) (vH_width : Nat → Int32) (zr : Int32) (z_vR_j11 : Int64) (z_vR : Nat → Int32) (z_vH : Nat → Int32) (z_vH_width : Nat → Int32) (hok : fX5_readNarrow vR_j11 vR vR_tape vH vR_ringNames vH_places vH_width = some (zr, z_vR_j11, z_vR, z_vH, z_vH_width)) (A : Nat → Prop) (hAe : va_A (wX5_readNarrow cy aR qR aH qH aH vR_j11 vR vR_tape vH vR_ringNames vH_places vH_width) sz = A) : Met l yX5_readNarrow wsX5_readNarrow ({ frames := 7, cells := 0, slots := 0, locals := 153 } : Room) (kPreS D cy ad [.ref aR] (wX5_readNarrow cy aR qR aH qH aH vR_j11 vR vR_tape vH vR_ringNames vH_places vH_width) sz A) (kQi D cy zr A (wX5_readNarrow cy aR qR aH qH aH z_vR_j11 z_vR vR_tape z_vH vR_ringNames vH_places z_vH_width)) 0 0 A := by
  refine Met.ofW (cc := cX5_readNarrow) (maxL := 4) (ret := (some .boolean)) (by decide) rfl ?_
  intro p e s m args below meth c s₁ B hml hv
  obtain ⟨rfl, ⟨hsz, hP, hK, hD0, hN⟩, hSt⟩ := hv
  have hx := B.exec
  have hb := B.bytes
  have hr := B.returns
  have ht0 : ∀ w ∈ W0, w.before _ s = true := fun w h => atoms_spec (ws := wsX5_readNarrow) B.pre w (List.mem_cons_of_mem _ h)
  have hown : s.vm.findClass RX5 = some m.cls := findClass_of_methodNamed B.named
  have hlocks := B.notSynchronized
  subst hsz
  have hD : va_D A (wX5_readNarrow cy aR qR aH qH aH vR_j11 vR vR_tape vH vR_ringNames vH_places vH_width) := by rw [← hAe]; exact hD0.self
  have hA : ∀ q : Nat, s.heap.size ≤ q → A q := fun q h => by rw [← hAe]; exact Or.inr h
  have hS : va_S A s.heap s.heap [] := va_S.rf
  have hl := lv_entry ([.ref aR]) (n := 4) (Nat.le_of_ble_eq_true rfl)
  rw [lg_entry_eq]
  generalize (lg_sl ([.ref aR]) ++ List.replicate (4 - (lg_sl ([.ref aR])).length) Slot.unset).toArray = ls at hl ⊢
  have hl : lv_has ls 4 [(0, .ref aR)] := hl
  generalize hQe : MQ below (kQi D cy zr A (wX5_readNarrow cy aR qR aH qH aH z_vR_j11 z_vR vR_tape z_vH vR_ringNames vH_places z_vH_width)) ([.ref aR] : List Value).toArray s 0 0 A = Q
  have J42 : ∀ (vR_11_42 : Int64) (vR_42 : Nat → Int32), ∀ (H : Heap) (locs : List Loc) (ls : Array Slot), va_P D vwCl (wX5_readNarrow cy aR qR aH qH aH vR_11_42 vR_42 vR_tape vH vR_ringNames vH_places vH_width) H → va_D A (wX5_readNarrow cy aR qR aH qH aH vR_11_42 vR_42 vR_tape vH vR_ringNames vH_places vH_width) → va_S A s.heap H locs → lv_has ls 4 [] → fX5_readNarrow_J42 vH vH_width vR_11_42 vR_42 = some (zr, z_vR_j11, z_vR, z_vH, z_vH_width) → W p l e ({ frames := 7, cells := 0, slots := 0, locals := 153 } : Room) s m ([.ref aR] : List Value).toArray below meth c H locs 0 0 Q (F0 m 42 ls []) := by
    intro vR_11_42 vR_42 H locs ls hP hD hS hl hok
    unfold fX5_readNarrow_J42 at hok
    refine lv_iconst (v := 0) hx hb dX5_readNarrow_42 (by decide) ?_
    cases hok
    subst hQe; exact W.zret hx hb hr rfl (fun t ht hW => ⟨⟨_, (), rfl, rfl, by rw [ht]; exact hP, va_K.moved hW.alike hK, hD⟩, hS.F ht⟩) hS.2.2 dX5_readNarrow_43
  unfold fX5_readNarrow at hok
  obtain ⟨H, hH⟩ : ∃ H, H = s.heap := ⟨_, rfl⟩
  obtain ⟨locs, hlc⟩ : ∃ x : List Loc, x = [] := ⟨_, rfl⟩
  have hP : va_P D vwCl (wX5_readNarrow cy aR qR aH qH aH vR_j11 vR vR_tape vH vR_ringNames vH_places vH_width) H := by rw [hH]; exact hP
  have hS : va_S A s.heap H locs := by rw [hH, hlc]; exact hS
  rw [show W p l e _ s m _ below meth c s.heap [] = W p l e _ s m _ below meth c H locs from by rw [hH, hlc]]
  refine lv_aload_n hx hb dX5_readNarrow_0 rfl (lv_at hl 0 rfl) ?_
  obtain ⟨⟨vR_j11_1, vR_1⟩, hc1, hok⟩ := k_bind hok
  try dsimp only at hok
  refine kCv (wc := (wX5_step cy aR qR aH aH vR_j11 vR vR_tape)) (wc2 := (wX5_step cy aR qR aH aH vR_j11_1 vR_1 vR_tape)) (wr := [(aH, oX4 vH qH), (qR 3, rJ cy 4 vR_ringNames), (qH 9, rI cy 4 vH_places), (qH 11, rI cy 36 vH_width)]) (ws2 := (wX5_readNarrow cy aR qR aH qH aH vR_j11_1 vR_1 vR_tape vH vR_ringNames vH_places vH_width)) (kRunV (As := []) (rest := []) ⟨hx, hb, hml, hown, ht0⟩ (kX5_step l D cy _ aR qR aH vR_j11 vR vR_tape vR_j11_1 vR_1 hc1 _ rfl) (cwV 0 ht0 (gV wd328 wd329 wd330 wd276 wd331) rfl rfl rfl (by decide +kernel) ⟨Nat.le_of_ble_eq_true rfl, Nat.le_of_ble_eq_true rfl⟩) hK hN hP hD [0, 1] rfl (by decide) 0 4 rfl rfl rfl hl.1 rfl (Nat.le_of_ble_eq_true rfl) dX5_readNarrow_1 ⟨Nat.zero_le _, Nat.zero_le _⟩) hP hD hS hA [0, 1] [2, 3, 4, 5] rfl rfl (by decide) (by decide) [4, 5, 0, 1, 2, 3] (by decide) rfl rfl (fun H locs hP hD hS => ?_)
  refine lv_aload_n hx hb dX5_readNarrow_4 rfl (lv_at hl 0 rfl) ?_
  refine lv_aload_n hx hb dX5_readNarrow_5 rfl (lv_at hl 0 rfl) ?_
  refine va_get (D := D) (ci := 4) (v := .ref (qR 3)) (C := RX5) (T := TX5) (N := 13) hx hb ht0 niX5 hown hK hP 0 rfl rfl 3 (by decide) (ht0 _ wd370) (fun _ h9 => h9) rfl dX5_readNarrow_6 ?_
  refine lv_aload_n hx hb dX5_readNarrow_9 rfl (lv_at hl 0 rfl) ?_
  refine va_get (D := D) (ci := 4) (v := .ref aH) (C := RX5) (T := TX5) (N := 13) hx hb ht0 niX5 hown hK hP 0 rfl rfl 2 (by decide) (ht0 _ wd266) (fun _ h9 => h9) rfl dX5_readNarrow_10 ?_
  refine va_get (D := D) (ci := 3) (v := .int (vH 2)) (C := RX4) (T := TX4) (N := 20) hx hb ht0 niX4 hown hK hP 2 rfl rfl 2 (by decide) (ht0 _ wd360) (fun _ h9 => h9) rfl dX5_readNarrow_13 ?_
  obtain ⟨⟨r16, vR_j11_16, vR_16⟩, hc16, hok⟩ := k_bind hok
  try dsimp only at hok
  refine kCi (wc := (wX5_takeToldName cy aR (qR 3) qR aH aH vR_j11_1 vR_1 vR_tape 4 vR_ringNames)) (wc2 := (wX5_takeToldName cy aR (qR 3) qR aH aH vR_j11_16 vR_16 vR_tape 4 vR_ringNames)) (wr := [(aH, oX4 vH qH), (qH 9, rI cy 4 vH_places), (qH 11, rI cy 36 vH_width)]) (ws2 := (wX5_readNarrow cy aR qR aH qH aH vR_j11_16 vR_16 vR_tape vH vR_ringNames vH_places vH_width)) (kRunVS (As := [.ref (qR 3), .int (vH 2)]) (rest := []) ⟨hx, hb, hml, hown, ht0⟩ (kX5_takeToldName l D cy ad _ aR (qR 3) qR aH vR_j11_1 vR_1 vR_tape 4 vR_ringNames (vH 2) r16 vR_j11_16 vR_16 hc16 _ rfl) (cwV 2 ht0 (gV wd387 wd388 wd389 wd276 wd390) rfl rfl rfl (by decide +kernel) ⟨Nat.le_of_ble_eq_true rfl, Nat.le_of_ble_eq_true rfl⟩) hK hN hP hD hSt hS hA [0, 1, 3] rfl (by decide) 0 4 rfl rfl rfl hl.1 rfl (Nat.le_of_ble_eq_true rfl) dX5_readNarrow_16 ⟨Nat.zero_le _, Nat.zero_le _⟩) hP hD hS hA [0, 1, 3] [2, 4, 5] rfl rfl (by decide) (by decide) [3, 4, 0, 5, 1, 2] (by decide) rfl rfl (fun H locs hP hD hS => ?_)
  refine lv_istore_n (lv' := [(1, .int r16), (0, .ref aR)]) hx hb dX5_readNarrow_19 rfl hl (by decide) rfl (fun ls hl => ?_)
  refine lv_iload_n hx hb dX5_readNarrow_20 rfl (lv_at hl 0 rfl) ?_
  refine lv_if_lt (tgt := 42) hx hb dX5_readNarrow_21 (by decide) (fun c21 => ?_) (fun c21 => ?_)
  · have hok := k_pos c21 hok
    exact J42 vR_j11_16 vR_16 H locs ls hP hD hS (lv_sub hl [] rfl) hok
  · have hok := k_neg c21 hok
    refine lv_aload_n hx hb dX5_readNarrow_24 rfl (lv_at hl 1 rfl) ?_
    refine lv_iconst (v := 0) hx hb dX5_readNarrow_25 (by decide) ?_
    refine lv_aload_n hx hb dX5_readNarrow_26 rfl (lv_at hl 1 rfl) ?_
    refine va_get (D := D) (ci := 4) (v := .ref aH) (C := RX5) (T := TX5) (N := 13) hx hb ht0 niX5 hown hK hP 0 rfl rfl 2 (by decide) (ht0 _ wd266) (fun _ h9 => h9) rfl dX5_readNarrow_27 ?_
    refine lv_iload_n hx hb dX5_readNarrow_30 rfl (lv_at hl 0 rfl) ?_
    obtain ⟨r31, hc31, hok⟩ := k_bind hok
    refine kCi (wc := (wX4_placesOf cy aH qH vH vH_places)) (wc2 := (wX4_placesOf cy aH qH vH vH_places)) (wr := [(aR, oX5 vR_16 qR vR_j11_16 aH), (qR 0, rB cy 900 vR_tape), (qR 3, rJ cy 4 vR_ringNames), (qH 11, rI cy 36 vH_width)]) (ws2 := (wX5_readNarrow cy aR qR aH qH aH vR_j11_16 vR_16 vR_tape vH vR_ringNames vH_places vH_width)) (kRunV (As := [.int r16]) (rest := [.int 0, .ref aR]) ⟨hx, hb, hml, hown, ht0⟩ (kX4_placesOf l D cy _ aH qH vH vH_places r16 r31 hc31 _ rfl) (cwV 1 ht0 (gV wd391 wd257 wd258 wd9 wd259) rfl rfl rfl (by decide +kernel) ⟨Nat.le_of_ble_eq_true rfl, Nat.le_of_ble_eq_true rfl⟩) hK hN hP hD [2, 4] rfl (by decide) 2 3 rfl rfl rfl hl.1 rfl (Nat.le_of_ble_eq_true rfl) dX5_readNarrow_31 ⟨Nat.zero_le _, Nat.zero_le _⟩) hP hD hS hA [2, 4] [0, 1, 3, 5] rfl rfl (by decide) (by decide) [0, 1, 4, 2, 5, 3] (by decide) rfl rfl (fun H locs hP hD hS => ?_)
    refine lv_iconst (v := 1) hx hb dX5_readNarrow_34 (by decide) ?_
    refine lv_isub hx hb dX5_readNarrow_35 ?_
    obtain ⟨⟨r36, vR_36⟩, hc36, hok⟩ := k_bind hok
    try dsimp only at hok
    refine kCi (wc := (wX5_isWhole cy aR qR aH aH vR_j11_16 vR_16)) (wc2 := (wX5_isWhole cy aR qR aH aH vR_j11_16 vR_36)) (wr := [(qR 0, rB cy 900 vR_tape), (aH, oX4 vH qH), (qR 3, rJ cy 4 vR_ringNames), (qH 9, rI cy 4 vH_places), (qH 11, rI cy 36 vH_width)]) (ws2 := (wX5_readNarrow cy aR qR aH qH aH vR_j11_16 vR_36 vR_tape vH vR_ringNames vH_places vH_width)) (kRunV (As := [.int 0, .int (r31 - (1 : Int32))]) (rest := []) ⟨hx, hb, hml, hown, ht0⟩ (kX5_isWhole l D cy _ aR qR aH vR_j11_16 vR_16 (0 : Int32) (r31 - (1 : Int32)) r36 vR_36 hc36 _ rfl) (cwV 2 ht0 (gV wd336 wd337 wd338 wd276 wd339) rfl rfl rfl (by decide +kernel) ⟨Nat.le_of_ble_eq_true rfl, Nat.le_of_ble_eq_true rfl⟩) hK hN hP hD [0] rfl (by decide) 0 4 rfl rfl rfl hl.1 rfl (Nat.le_of_ble_eq_true rfl) dX5_readNarrow_36 ⟨Nat.zero_le _, Nat.zero_le _⟩) hP hD hS hA [0] [1, 2, 3, 4, 5] rfl rfl (by decide) (by decide) [5, 0, 1, 2, 3, 4] (by decide) rfl rfl (fun H locs hP hD hS => ?_)
    refine lv_if_ne (tgt := 44) hx hb dX5_readNarrow_39 (by decide) (fun c39 => ?_) (fun c39 => ?_)
    · have hok := k_neg c39 hok
      refine lv_iload_n hx hb dX5_readNarrow_44 rfl (lv_at hl 0 rfl) ?_
      refine lv_aload_n hx hb dX5_readNarrow_45 rfl (lv_at hl 1 rfl) ?_
      refine va_get (D := D) (ci := 4) (v := .int (vR_36 10)) (C := RX5) (T := TX5) (N := 13) hx hb ht0 niX5 hown hK hP 0 rfl rfl 10 (by decide) (ht0 _ wd272) (fun _ h9 => h9) rfl dX5_readNarrow_46 ?_
      obtain ⟨r49, hc49, hok⟩ := k_bind hok
      refine kCi (wc := (wX8_cellAt cy )) (wc2 := (wX8_cellAt cy )) (wr := [(aR, oX5 vR_36 qR vR_j11_16 aH), (qR 0, rB cy 900 vR_tape), (aH, oX4 vH qH), (qR 3, rJ cy 4 vR_ringNames), (qH 9, rI cy 4 vH_places), (qH 11, rI cy 36 vH_width)]) (ws2 := (wX5_readNarrow cy aR qR aH qH aH vR_j11_16 vR_36 vR_tape vH vR_ringNames vH_places vH_width)) (kRunSN (As := [.int r16, .int (vR_36 10)]) (rest := []) ⟨hx, hb, hml, hown, ht0⟩ (kX8_cellAt l D cy _ r16 (vR_36 10) r49 hc49 _ rfl) ⟨va_cnB 2 ht0 (gN wd260) rfl rfl rfl (hN _ (List.mem_of_getElem? (i := 5) rfl)) (ht0 _ wd57) (by decide +kernel) ⟨Nat.le_of_ble_eq_true rfl, Nat.le_of_ble_eq_true rfl⟩, ht0 _ wd261, trivial⟩ hK hN hP hD [] rfl (by decide) rfl hl.1 rfl (Nat.le_of_ble_eq_true rfl) dX5_readNarrow_49 ⟨Nat.zero_le _, Nat.zero_le _⟩) hP hD hS hA [] [0, 1, 2, 3, 4, 5] rfl rfl (by decide) (by decide) [0, 1, 2, 3, 4, 5] (by decide) rfl rfl (fun H locs hP hD hS => ?_)
      refine lv_istore_n (lv' := [(2, .int r49), (1, .int r16), (0, .ref aR)]) hx hb dX5_readNarrow_52 rfl hl (by decide) rfl (fun ls hl => ?_)
      refine lv_aload_n hx hb dX5_readNarrow_53 rfl (lv_at hl 2 rfl) ?_
      refine va_get (D := D) (ci := 4) (v := .ref aH) (C := RX5) (T := TX5) (N := 13) hx hb ht0 niX5 hown hK hP 0 rfl rfl 2 (by decide) (ht0 _ wd266) (fun _ h9 => h9) rfl dX5_readNarrow_54 ?_
      refine lv_iload_n hx hb dX5_readNarrow_57 rfl (lv_at hl 0 rfl) ?_
      obtain ⟨r58, hc58, hok⟩ := k_bind hok
      refine kCi (wc := (wX4_widthOf cy aH qH vH vH_width)) (wc2 := (wX4_widthOf cy aH qH vH vH_width)) (wr := [(aR, oX5 vR_36 qR vR_j11_16 aH), (qR 0, rB cy 900 vR_tape), (qR 3, rJ cy 4 vR_ringNames), (qH 9, rI cy 4 vH_places)]) (ws2 := (wX5_readNarrow cy aR qR aH qH aH vR_j11_16 vR_36 vR_tape vH vR_ringNames vH_places vH_width)) (kRunV (As := [.int r49]) (rest := []) ⟨hx, hb, hml, hown, ht0⟩ (kX4_widthOf l D cy _ aH qH vH vH_width r49 r58 hc58 _ rfl) (cwV 1 ht0 (gV wd392 wd393 wd394 wd9 wd395) rfl rfl rfl (by decide +kernel) ⟨Nat.le_of_ble_eq_true rfl, Nat.le_of_ble_eq_true rfl⟩) hK hN hP hD [2, 5] rfl (by decide) 2 3 rfl rfl rfl hl.1 rfl (Nat.le_of_ble_eq_true rfl) dX5_readNarrow_58 ⟨Nat.zero_le _, Nat.zero_le _⟩) hP hD hS hA [2, 5] [0, 1, 3, 4] rfl rfl (by decide) (by decide) [0, 1, 4, 2, 3, 5] (by decide) rfl rfl (fun H locs hP hD hS => ?_)
      refine lv_bipush (v := 10) hx hb dX5_readNarrow_61 (by decide) ?_
      refine lv_icmp_eq (tgt := 72) hx hb dX5_readNarrow_63 (by decide) (fun c63 => ?_) (fun c63 => ?_)
      · have hok := k_pos c63 hok
        refine lv_aload_n hx hb dX5_readNarrow_72 rfl (lv_at hl 2 rfl) ?_
        obtain ⟨⟨vR_j11_73, vR_73⟩, hc73, hok⟩ := k_bind hok
        try dsimp only at hok
        refine kCv (wc := (wX5_step cy aR qR aH aH vR_j11_16 vR_36 vR_tape)) (wc2 := (wX5_step cy aR qR aH aH vR_j11_73 vR_73 vR_tape)) (wr := [(aH, oX4 vH qH), (qR 3, rJ cy 4 vR_ringNames), (qH 9, rI cy 4 vH_places), (qH 11, rI cy 36 vH_width)]) (ws2 := (wX5_readNarrow cy aR qR aH qH aH vR_j11_73 vR_73 vR_tape vH vR_ringNames vH_places vH_width)) (kRunV (As := []) (rest := []) ⟨hx, hb, hml, hown, ht0⟩ (kX5_step l D cy _ aR qR aH vR_j11_16 vR_36 vR_tape vR_j11_73 vR_73 hc73 _ rfl) (cwV 0 ht0 (gV wd328 wd329 wd330 wd276 wd331) rfl rfl rfl (by decide +kernel) ⟨Nat.le_of_ble_eq_true rfl, Nat.le_of_ble_eq_true rfl⟩) hK hN hP hD [0, 1] rfl (by decide) 0 4 rfl rfl rfl hl.1 rfl (Nat.le_of_ble_eq_true rfl) dX5_readNarrow_73 ⟨Nat.zero_le _, Nat.zero_le _⟩) hP hD hS hA [0, 1] [2, 3, 4, 5] rfl rfl (by decide) (by decide) [4, 5, 0, 1, 2, 3] (by decide) rfl rfl (fun H locs hP hD hS => ?_)
        refine lv_aload_n hx hb dX5_readNarrow_76 rfl (lv_at hl 2 rfl) ?_
        refine va_ldcS (own := RX5) (tx := "by") (index := 232) (q := ad.1 3) hx hb hown (hSt.2.1 (RX5, 232, "by", 3) (List.mem_of_getElem? (i := 16) rfl)) dX5_readNarrow_77 ?_
        obtain ⟨⟨r79, vR_j11_79, vR_79⟩, hc79, hok⟩ := k_bind hok
        try dsimp only at hok
        refine kCi (wc := (wX5_passes cy aR qR aH aH vR_j11_73 vR_73 vR_tape)) (wc2 := (wX5_passes cy aR qR aH aH vR_j11_79 vR_79 vR_tape)) (wr := [(aH, oX4 vH qH), (qR 3, rJ cy 4 vR_ringNames), (qH 9, rI cy 4 vH_places), (qH 11, rI cy 36 vH_width)]) (ws2 := (wX5_readNarrow cy aR qR aH qH aH vR_j11_79 vR_79 vR_tape vH vR_ringNames vH_places vH_width)) (kRunVS (As := [.ref (ad.1 3)]) (rest := []) ⟨hx, hb, hml, hown, ht0⟩ (kX5_passes l D cy ad _ aR qR aH vR_j11_73 vR_73 vR_tape 3 r79 vR_j11_79 vR_79 hc79 _ rfl) (cwV 1 ht0 (gV wd341 wd342 wd343 wd276 wd344) rfl rfl rfl (by decide +kernel) ⟨Nat.le_of_ble_eq_true rfl, Nat.le_of_ble_eq_true rfl⟩) hK hN hP hD hSt hS hA [0, 1] rfl (by decide) 0 4 rfl rfl rfl hl.1 rfl (Nat.le_of_ble_eq_true rfl) dX5_readNarrow_79 ⟨Nat.zero_le _, Nat.zero_le _⟩) hP hD hS hA [0, 1] [2, 3, 4, 5] rfl rfl (by decide) (by decide) [4, 5, 0, 1, 2, 3] (by decide) rfl rfl (fun H locs hP hD hS => ?_)
        refine lv_if_ne (tgt := 87) hx hb dX5_readNarrow_82 (by decide) (fun c82 => ?_) (fun c82 => ?_)
        · have hok := k_neg c82 hok
          refine lv_aload_n hx hb dX5_readNarrow_87 rfl (lv_at hl 2 rfl) ?_
          refine lv_iconst (v := 0) hx hb dX5_readNarrow_88 (by decide) ?_
          refine lv_bipush (v := 9) hx hb dX5_readNarrow_89 (by decide) ?_
          obtain ⟨⟨r91, vR_j11_91, vR_91⟩, hc91, hok⟩ := k_bind hok
          try dsimp only at hok
          refine kCi (wc := (wX5_takeWhole cy aR qR aH aH vR_j11_79 vR_79 vR_tape)) (wc2 := (wX5_takeWhole cy aR qR aH aH vR_j11_91 vR_91 vR_tape)) (wr := [(aH, oX4 vH qH), (qR 3, rJ cy 4 vR_ringNames), (qH 9, rI cy 4 vH_places), (qH 11, rI cy 36 vH_width)]) (ws2 := (wX5_readNarrow cy aR qR aH qH aH vR_j11_91 vR_91 vR_tape vH vR_ringNames vH_places vH_width)) (kRunV (As := [.int 0, .int 9]) (rest := []) ⟨hx, hb, hml, hown, ht0⟩ (kX5_takeWhole l D cy _ aR qR aH vR_j11_79 vR_79 vR_tape (0 : Int32) (9 : Int32) r91 vR_j11_91 vR_91 hc91 _ rfl) (cwV 2 ht0 (gV wd345 wd346 wd347 wd276 wd348) rfl rfl rfl (by decide +kernel) ⟨Nat.le_of_ble_eq_true rfl, Nat.le_of_ble_eq_true rfl⟩) hK hN hP hD [0, 1] rfl (by decide) 0 4 rfl rfl rfl hl.1 rfl (Nat.le_of_ble_eq_true rfl) dX5_readNarrow_91 ⟨Nat.zero_le _, Nat.zero_le _⟩) hP hD hS hA [0, 1] [2, 3, 4, 5] rfl rfl (by decide) (by decide) [4, 5, 0, 1, 2, 3] (by decide) rfl rfl (fun H locs hP hD hS => ?_)
          refine lv_istore_n (lv' := [(3, .int r91), (2, .int r49), (1, .int r16), (0, .ref aR)]) hx hb dX5_readNarrow_94 rfl hl (by decide) rfl (fun ls hl => ?_)
          refine lv_iload_n hx hb dX5_readNarrow_95 rfl (lv_at hl 0 rfl) ?_
          refine lv_if_ge (tgt := 101) hx hb dX5_readNarrow_96 (by decide) (fun c96 => ?_) (fun c96 => ?_)
          · have hok := k_pos c96 hok
            refine lv_aload_n hx hb dX5_readNarrow_101 rfl (lv_at hl 3 rfl) ?_
            refine va_get (D := D) (ci := 4) (v := .ref aH) (C := RX5) (T := TX5) (N := 13) hx hb ht0 niX5 hown hK hP 0 rfl rfl 2 (by decide) (ht0 _ wd266) (fun _ h9 => h9) rfl dX5_readNarrow_102 ?_
            refine lv_iload_n hx hb dX5_readNarrow_105 rfl (lv_at hl 1 rfl) ?_
            refine lv_iload_n hx hb dX5_readNarrow_106 rfl (lv_at hl 0 rfl) ?_
            obtain ⟨⟨vH_107, vH_width_107⟩, hc107, hok⟩ := k_bind hok
            try dsimp only at hok
            refine kCv (wc := (wX4_addNarrow cy aH qH vH vH_width)) (wc2 := (wX4_addNarrow cy aH qH vH_107 vH_width_107)) (wr := [(aR, oX5 vR_91 qR vR_j11_91 aH), (qR 0, rB cy 900 vR_tape), (qR 3, rJ cy 4 vR_ringNames), (qH 9, rI cy 4 vH_places)]) (ws2 := (wX5_readNarrow cy aR qR aH qH aH vR_j11_91 vR_91 vR_tape vH_107 vR_ringNames vH_places vH_width_107)) (kRunV (As := [.int r49, .int r91]) (rest := []) ⟨hx, hb, hml, hown, ht0⟩ (kX4_addNarrow l D cy _ aH qH vH vH_width r49 r91 vH_107 vH_width_107 hc107 _ rfl) (cwV 2 ht0 (gV wd396 wd397 wd398 wd9 wd399) rfl rfl rfl (by decide +kernel) ⟨Nat.le_of_ble_eq_true rfl, Nat.le_of_ble_eq_true rfl⟩) hK hN hP hD [2, 5] rfl (by decide) 2 3 rfl rfl rfl hl.1 rfl (Nat.le_of_ble_eq_true rfl) dX5_readNarrow_107 ⟨Nat.zero_le _, Nat.zero_le _⟩) hP hD hS hA [2, 5] [0, 1, 3, 4] rfl rfl (by decide) (by decide) [0, 1, 4, 2, 3, 5] (by decide) rfl rfl (fun H locs hP hD hS => ?_)
            refine lv_iconst (v := 1) hx hb dX5_readNarrow_110 (by decide) ?_
            cases hok
            subst hQe; exact W.zret hx hb hr rfl (fun t ht hW => ⟨⟨_, (), rfl, rfl, by rw [ht]; exact hP, va_K.moved hW.alike hK, hD⟩, hS.F ht⟩) hS.2.2 dX5_readNarrow_111
          · have hok := k_neg c96 hok
            refine lv_iconst (v := 0) hx hb dX5_readNarrow_99 (by decide) ?_
            cases hok
            subst hQe; exact W.zret hx hb hr rfl (fun t ht hW => ⟨⟨_, (), rfl, rfl, by rw [ht]; exact hP, va_K.moved hW.alike hK, hD⟩, hS.F ht⟩) hS.2.2 dX5_readNarrow_100
        · have hok := k_pos c82 hok
          refine lv_iconst (v := 0) hx hb dX5_readNarrow_85 (by decide) ?_
          cases hok
          subst hQe; exact W.zret hx hb hr rfl (fun t ht hW => ⟨⟨_, (), rfl, rfl, by rw [ht]; exact hP, va_K.moved hW.alike hK, hD⟩, hS.F ht⟩) hS.2.2 dX5_readNarrow_86
      · have hok := k_neg c63 hok
        refine lv_aload_n hx hb dX5_readNarrow_66 rfl (lv_at hl 2 rfl) ?_
        refine lv_iconst (v := 3) hx hb dX5_readNarrow_67 (by decide) ?_
        obtain ⟨⟨r68, vR_68⟩, hc68, hok⟩ := k_bind hok
        try dsimp only at hok
        refine kCi (wc := (wX5_fails cy aR qR aH aH vR_j11_16 vR_36)) (wc2 := (wX5_fails cy aR qR aH aH vR_j11_16 vR_68)) (wr := [(qR 0, rB cy 900 vR_tape), (aH, oX4 vH qH), (qR 3, rJ cy 4 vR_ringNames), (qH 9, rI cy 4 vH_places), (qH 11, rI cy 36 vH_width)]) (ws2 := (wX5_readNarrow cy aR qR aH qH aH vR_j11_16 vR_68 vR_tape vH vR_ringNames vH_places vH_width)) (kRunV (As := [.int 3]) (rest := []) ⟨hx, hb, hml, hown, ht0⟩ (kX5_fails l D cy _ aR qR aH vR_j11_16 vR_36 (3 : Int32) r68 vR_68 hc68 _ rfl) (cwV 1 ht0 (gV wd332 wd333 wd334 wd276 wd335) rfl rfl rfl (by decide +kernel) ⟨Nat.le_of_ble_eq_true rfl, Nat.le_of_ble_eq_true rfl⟩) hK hN hP hD [0] rfl (by decide) 0 4 rfl rfl rfl hl.1 rfl (Nat.le_of_ble_eq_true rfl) dX5_readNarrow_68 ⟨Nat.zero_le _, Nat.zero_le _⟩) hP hD hS hA [0] [1, 2, 3, 4, 5] rfl rfl (by decide) (by decide) [5, 0, 1, 2, 3, 4] (by decide) rfl rfl (fun H locs hP hD hS => ?_)
        obtain ⟨g71, hok⟩ := gd_some hok
        cases hok
        subst hQe; exact W.zret hx hb hr (isB_nar g71) (fun t ht hW => ⟨⟨_, (), rfl, rfl, by rw [ht]; exact hP, va_K.moved hW.alike hK, hD⟩, hS.F ht⟩) hS.2.2 dX5_readNarrow_71
    · have hok := k_pos c39 hok
      exact J42 vR_j11_16 vR_36 H locs ls hP hD hS (lv_sub hl [] rfl) hok
def wsX5_readDoor : List Cond := .code yX5_readDoor cX5_readDoor 5 (some .boolean) :: W0
abbrev wX5_readDoor (cy : Nat → ClassId) (aR : Nat) (qR : Nat → Nat) (aH : Nat) (qH : Nat → Nat) (fvR_2 : Nat) (vR_j11 : Int64) (vR : Nat → Int32) (vR_tape : Nat → Int32) (vH : Nat → Int32) (vR_ringNames : Nat → Int64) (vH_places : Nat → Int32) (vH_doorOne : Nat → Int32) (vH_doorTwo : Nat → Int32) : va_W := [(aR, oX5 vR qR vR_j11 fvR_2), (qR 0, rB cy 900 vR_tape), (aH, oX4 vH qH), (qR 3, rJ cy 4 vR_ringNames), (qH 9, rI cy 4 vH_places), (qH 12, rI cy 5 vH_doorOne), (qH 13, rI cy 5 vH_doorTwo)]
set_option maxHeartbeats 4000000 in
set_option maxRecDepth 100000 in
theorem kX5_readDoor (l : Launch) (D : va_G) (cy : Nat → ClassId) (ad : (Nat → Nat) × (Nat → Nat)) (sz : Nat) (aR : Nat) (qR : Nat → Nat) (aH : Nat) (qH : Nat → Nat) (vR_j11 : Int64) (vR : Nat → Int32) (vR_tape : Nat → Int32) (vH : Nat → Int32) (vR_ringNames : Nat → Int64) (vH_places : Nat → Int32) (vH_doorOne : Nat → Int32) (vH_doorTwo : Nat → Int32) (zr : Int32) (z_vR_j11 : Int64) (z_vR : Nat → Int32) (z_vH : Nat → Int32) (z_vH_doorOne : Nat → Int32) (z_vH_doorTwo : Nat → Int32) (hok : fX5_readDoor vR_j11 vR vR_tape vH vR_ringNames vH_places vH_doorOne vH_doorTwo = some (zr, z_vR_j11, z_vR, z_vH, z_vH_doorOne, z_vH_doorTwo)) (A : Nat → Prop) (hAe : va_A (wX5_readDoor cy aR qR aH qH aH vR_j11 vR vR_tape vH vR_ringNames vH_places vH_doorOne vH_doorTwo) sz = A) : Met l yX5_readDoor wsX5_readDoor ({ frames := 7, cells := 0, slots := 0, locals := 153 } : Room) (kPreS D cy ad [.ref aR] (wX5_readDoor cy aR qR aH qH aH vR_j11 vR vR_tape vH vR_ringNames vH_places vH_doorOne vH_doorTwo) sz A) (kQi D cy zr A (wX5_readDoor cy aR qR aH qH aH z_vR_j11 z_vR vR_tape z_vH vR_ringNames vH_places z_vH_doorOne z_vH_doorTwo)) 0 0 A := by
  refine Met.ofW (cc := cX5_readDoor) (maxL := 5) (ret := (some .boolean)) (by decide) rfl ?_
  intro p e s m args below meth c s₁ B hml hv
  obtain ⟨rfl, ⟨hsz, hP, hK, hD0, hN⟩, hSt⟩ := hv
  have hx := B.exec
  have hb := B.bytes
  have hr := B.returns
  have ht0 : ∀ w ∈ W0, w.before _ s = true := fun w h => atoms_spec (ws := wsX5_readDoor) B.pre w (List.mem_cons_of_mem _ h)
  have hown : s.vm.findClass RX5 = some m.cls := findClass_of_methodNamed B.named
  have hlocks := B.notSynchronized
  subst hsz
  have hD : va_D A (wX5_readDoor cy aR qR aH qH aH vR_j11 vR vR_tape vH vR_ringNames vH_places vH_doorOne vH_doorTwo) := by rw [← hAe]; exact hD0.self
  have hA : ∀ q : Nat, s.heap.size ≤ q → A q := fun q h => by rw [← hAe]; exact Or.inr h
  have hS : va_S A s.heap s.heap [] := va_S.rf
  have hl := lv_entry ([.ref aR]) (n := 5) (Nat.le_of_ble_eq_true rfl)
  rw [lg_entry_eq]
  generalize (lg_sl ([.ref aR]) ++ List.replicate (5 - (lg_sl ([.ref aR])).length) Slot.unset).toArray = ls at hl ⊢
  have hl : lv_has ls 5 [(0, .ref aR)] := hl
  generalize hQe : MQ below (kQi D cy zr A (wX5_readDoor cy aR qR aH qH aH z_vR_j11 z_vR vR_tape z_vH vR_ringNames vH_places z_vH_doorOne z_vH_doorTwo)) ([.ref aR] : List Value).toArray s 0 0 A = Q
  have J123 : ∀ (vR_11_123 : Int64) (vR_123 : Nat → Int32), ∀ (H : Heap) (locs : List Loc) (ls : Array Slot), va_P D vwCl (wX5_readDoor cy aR qR aH qH aH vR_11_123 vR_123 vR_tape vH vR_ringNames vH_places vH_doorOne vH_doorTwo) H → va_D A (wX5_readDoor cy aR qR aH qH aH vR_11_123 vR_123 vR_tape vH vR_ringNames vH_places vH_doorOne vH_doorTwo) → va_S A s.heap H locs → lv_has ls 5 [(0, .ref aR)] → fX5_readDoor_J123 vH vH_doorOne vH_doorTwo vR_11_123 vR_123 = some (zr, z_vR_j11, z_vR, z_vH, z_vH_doorOne, z_vH_doorTwo) → W p l e ({ frames := 7, cells := 0, slots := 0, locals := 153 } : Room) s m ([.ref aR] : List Value).toArray below meth c H locs 0 0 Q (F0 m 123 ls []) := by
    intro vR_11_123 vR_123 H locs ls hP hD hS hl hok
    unfold fX5_readDoor_J123 at hok
    refine lv_aload_n hx hb dX5_readDoor_123 rfl (lv_at hl 0 rfl) ?_
    refine lv_iconst (v := 3) hx hb dX5_readDoor_124 (by decide) ?_
    obtain ⟨⟨r125, vR_125⟩, hc125, hok⟩ := k_bind hok
    try dsimp only at hok
    refine kCi (wc := (wX5_fails cy aR qR aH aH vR_11_123 vR_123)) (wc2 := (wX5_fails cy aR qR aH aH vR_11_123 vR_125)) (wr := [(qR 0, rB cy 900 vR_tape), (aH, oX4 vH qH), (qR 3, rJ cy 4 vR_ringNames), (qH 9, rI cy 4 vH_places), (qH 12, rI cy 5 vH_doorOne), (qH 13, rI cy 5 vH_doorTwo)]) (ws2 := (wX5_readDoor cy aR qR aH qH aH vR_11_123 vR_125 vR_tape vH vR_ringNames vH_places vH_doorOne vH_doorTwo)) (kRunV (As := [.int 3]) (rest := []) ⟨hx, hb, hml, hown, ht0⟩ (kX5_fails l D cy _ aR qR aH vR_11_123 vR_123 (3 : Int32) r125 vR_125 hc125 _ rfl) (cwV 1 ht0 (gV wd332 wd333 wd334 wd276 wd335) rfl rfl rfl (by decide +kernel) ⟨Nat.le_of_ble_eq_true rfl, Nat.le_of_ble_eq_true rfl⟩) hK hN hP hD [0] rfl (by decide) 0 4 rfl rfl rfl hl.1 rfl (Nat.le_of_ble_eq_true rfl) dX5_readDoor_125 ⟨Nat.zero_le _, Nat.zero_le _⟩) hP hD hS hA [0] [1, 2, 3, 4, 5, 6] rfl rfl (by decide) (by decide) [6, 0, 1, 2, 3, 4, 5] (by decide) rfl rfl (fun H locs hP hD hS => ?_)
    obtain ⟨g128, hok⟩ := gd_some hok
    cases hok
    subst hQe; exact W.zret hx hb hr (isB_nar g128) (fun t ht hW => ⟨⟨_, (), rfl, rfl, by rw [ht]; exact hP, va_K.moved hW.alike hK, hD⟩, hS.F ht⟩) hS.2.2 dX5_readDoor_128
  have J92 : ∀ (vR_11_92 : Int64) (vR_92 : Nat → Int32), ∀ (H : Heap) (locs : List Loc) (ls : Array Slot), va_P D vwCl (wX5_readDoor cy aR qR aH qH aH vR_11_92 vR_92 vR_tape vH vR_ringNames vH_places vH_doorOne vH_doorTwo) H → va_D A (wX5_readDoor cy aR qR aH qH aH vR_11_92 vR_92 vR_tape vH vR_ringNames vH_places vH_doorOne vH_doorTwo) → va_S A s.heap H locs → lv_has ls 5 [] → fX5_readDoor_J92 vH vH_doorOne vH_doorTwo vR_11_92 vR_92 = some (zr, z_vR_j11, z_vR, z_vH, z_vH_doorOne, z_vH_doorTwo) → W p l e ({ frames := 7, cells := 0, slots := 0, locals := 153 } : Room) s m ([.ref aR] : List Value).toArray below meth c H locs 0 0 Q (F0 m 92 ls []) := by
    intro vR_11_92 vR_92 H locs ls hP hD hS hl hok
    unfold fX5_readDoor_J92 at hok
    refine lv_iconst (v := 0) hx hb dX5_readDoor_92 (by decide) ?_
    cases hok
    subst hQe; exact W.zret hx hb hr rfl (fun t ht hW => ⟨⟨_, (), rfl, rfl, by rw [ht]; exact hP, va_K.moved hW.alike hK, hD⟩, hS.F ht⟩) hS.2.2 dX5_readDoor_93
  unfold fX5_readDoor at hok
  obtain ⟨H, hH⟩ : ∃ H, H = s.heap := ⟨_, rfl⟩
  obtain ⟨locs, hlc⟩ : ∃ x : List Loc, x = [] := ⟨_, rfl⟩
  have hP : va_P D vwCl (wX5_readDoor cy aR qR aH qH aH vR_j11 vR vR_tape vH vR_ringNames vH_places vH_doorOne vH_doorTwo) H := by rw [hH]; exact hP
  have hS : va_S A s.heap H locs := by rw [hH, hlc]; exact hS
  rw [show W p l e _ s m _ below meth c s.heap [] = W p l e _ s m _ below meth c H locs from by rw [hH, hlc]]
  refine lv_aload_n hx hb dX5_readDoor_0 rfl (lv_at hl 0 rfl) ?_
  obtain ⟨⟨vR_j11_1, vR_1⟩, hc1, hok⟩ := k_bind hok
  try dsimp only at hok
  refine kCv (wc := (wX5_step cy aR qR aH aH vR_j11 vR vR_tape)) (wc2 := (wX5_step cy aR qR aH aH vR_j11_1 vR_1 vR_tape)) (wr := [(aH, oX4 vH qH), (qR 3, rJ cy 4 vR_ringNames), (qH 9, rI cy 4 vH_places), (qH 12, rI cy 5 vH_doorOne), (qH 13, rI cy 5 vH_doorTwo)]) (ws2 := (wX5_readDoor cy aR qR aH qH aH vR_j11_1 vR_1 vR_tape vH vR_ringNames vH_places vH_doorOne vH_doorTwo)) (kRunV (As := []) (rest := []) ⟨hx, hb, hml, hown, ht0⟩ (kX5_step l D cy _ aR qR aH vR_j11 vR vR_tape vR_j11_1 vR_1 hc1 _ rfl) (cwV 0 ht0 (gV wd328 wd329 wd330 wd276 wd331) rfl rfl rfl (by decide +kernel) ⟨Nat.le_of_ble_eq_true rfl, Nat.le_of_ble_eq_true rfl⟩) hK hN hP hD [0, 1] rfl (by decide) 0 4 rfl rfl rfl hl.1 rfl (Nat.le_of_ble_eq_true rfl) dX5_readDoor_1 ⟨Nat.zero_le _, Nat.zero_le _⟩) hP hD hS hA [0, 1] [2, 3, 4, 5, 6] rfl rfl (by decide) (by decide) [5, 6, 0, 1, 2, 3, 4] (by decide) rfl rfl (fun H locs hP hD hS => ?_)
  refine lv_aload_n hx hb dX5_readDoor_4 rfl (lv_at hl 0 rfl) ?_
  refine lv_aload_n hx hb dX5_readDoor_5 rfl (lv_at hl 0 rfl) ?_
  refine va_get (D := D) (ci := 4) (v := .ref (qR 3)) (C := RX5) (T := TX5) (N := 13) hx hb ht0 niX5 hown hK hP 0 rfl rfl 3 (by decide) (ht0 _ wd370) (fun _ h9 => h9) rfl dX5_readDoor_6 ?_
  refine lv_aload_n hx hb dX5_readDoor_9 rfl (lv_at hl 0 rfl) ?_
  refine va_get (D := D) (ci := 4) (v := .ref aH) (C := RX5) (T := TX5) (N := 13) hx hb ht0 niX5 hown hK hP 0 rfl rfl 2 (by decide) (ht0 _ wd266) (fun _ h9 => h9) rfl dX5_readDoor_10 ?_
  refine va_get (D := D) (ci := 3) (v := .int (vH 2)) (C := RX4) (T := TX4) (N := 20) hx hb ht0 niX4 hown hK hP 2 rfl rfl 2 (by decide) (ht0 _ wd360) (fun _ h9 => h9) rfl dX5_readDoor_13 ?_
  obtain ⟨⟨r16, vR_j11_16, vR_16⟩, hc16, hok⟩ := k_bind hok
  try dsimp only at hok
  refine kCi (wc := (wX5_takeToldName cy aR (qR 3) qR aH aH vR_j11_1 vR_1 vR_tape 4 vR_ringNames)) (wc2 := (wX5_takeToldName cy aR (qR 3) qR aH aH vR_j11_16 vR_16 vR_tape 4 vR_ringNames)) (wr := [(aH, oX4 vH qH), (qH 9, rI cy 4 vH_places), (qH 12, rI cy 5 vH_doorOne), (qH 13, rI cy 5 vH_doorTwo)]) (ws2 := (wX5_readDoor cy aR qR aH qH aH vR_j11_16 vR_16 vR_tape vH vR_ringNames vH_places vH_doorOne vH_doorTwo)) (kRunVS (As := [.ref (qR 3), .int (vH 2)]) (rest := []) ⟨hx, hb, hml, hown, ht0⟩ (kX5_takeToldName l D cy ad _ aR (qR 3) qR aH vR_j11_1 vR_1 vR_tape 4 vR_ringNames (vH 2) r16 vR_j11_16 vR_16 hc16 _ rfl) (cwV 2 ht0 (gV wd387 wd388 wd389 wd276 wd390) rfl rfl rfl (by decide +kernel) ⟨Nat.le_of_ble_eq_true rfl, Nat.le_of_ble_eq_true rfl⟩) hK hN hP hD hSt hS hA [0, 1, 3] rfl (by decide) 0 4 rfl rfl rfl hl.1 rfl (Nat.le_of_ble_eq_true rfl) dX5_readDoor_16 ⟨Nat.zero_le _, Nat.zero_le _⟩) hP hD hS hA [0, 1, 3] [2, 4, 5, 6] rfl rfl (by decide) (by decide) [4, 5, 0, 6, 1, 2, 3] (by decide) rfl rfl (fun H locs hP hD hS => ?_)
  refine lv_istore_n (lv' := [(1, .int r16), (0, .ref aR)]) hx hb dX5_readDoor_19 rfl hl (by decide) rfl (fun ls hl => ?_)
  refine lv_iload_n hx hb dX5_readDoor_20 rfl (lv_at hl 0 rfl) ?_
  refine lv_if_ge (tgt := 26) hx hb dX5_readDoor_21 (by decide) (fun c21 => ?_) (fun c21 => ?_)
  · have hok := k_pos c21 hok
    refine lv_aload_n hx hb dX5_readDoor_26 rfl (lv_at hl 1 rfl) ?_
    refine lv_iconst (v := 0) hx hb dX5_readDoor_27 (by decide) ?_
    refine lv_aload_n hx hb dX5_readDoor_28 rfl (lv_at hl 1 rfl) ?_
    refine va_get (D := D) (ci := 4) (v := .ref aH) (C := RX5) (T := TX5) (N := 13) hx hb ht0 niX5 hown hK hP 0 rfl rfl 2 (by decide) (ht0 _ wd266) (fun _ h9 => h9) rfl dX5_readDoor_29 ?_
    refine lv_iload_n hx hb dX5_readDoor_32 rfl (lv_at hl 0 rfl) ?_
    obtain ⟨r33, hc33, hok⟩ := k_bind hok
    refine kCi (wc := (wX4_placesOf cy aH qH vH vH_places)) (wc2 := (wX4_placesOf cy aH qH vH vH_places)) (wr := [(aR, oX5 vR_16 qR vR_j11_16 aH), (qR 0, rB cy 900 vR_tape), (qR 3, rJ cy 4 vR_ringNames), (qH 12, rI cy 5 vH_doorOne), (qH 13, rI cy 5 vH_doorTwo)]) (ws2 := (wX5_readDoor cy aR qR aH qH aH vR_j11_16 vR_16 vR_tape vH vR_ringNames vH_places vH_doorOne vH_doorTwo)) (kRunV (As := [.int r16]) (rest := [.int 0, .ref aR]) ⟨hx, hb, hml, hown, ht0⟩ (kX4_placesOf l D cy _ aH qH vH vH_places r16 r33 hc33 _ rfl) (cwV 1 ht0 (gV wd391 wd257 wd258 wd9 wd259) rfl rfl rfl (by decide +kernel) ⟨Nat.le_of_ble_eq_true rfl, Nat.le_of_ble_eq_true rfl⟩) hK hN hP hD [2, 4] rfl (by decide) 2 3 rfl rfl rfl hl.1 rfl (Nat.le_of_ble_eq_true rfl) dX5_readDoor_33 ⟨Nat.zero_le _, Nat.zero_le _⟩) hP hD hS hA [2, 4] [0, 1, 3, 5, 6] rfl rfl (by decide) (by decide) [0, 1, 5, 2, 6, 3, 4] (by decide) rfl rfl (fun H locs hP hD hS => ?_)
    refine lv_iconst (v := 1) hx hb dX5_readDoor_36 (by decide) ?_
    refine lv_isub hx hb dX5_readDoor_37 ?_
    obtain ⟨⟨r38, vR_j11_38, vR_38⟩, hc38, hok⟩ := k_bind hok
    try dsimp only at hok
    refine kCi (wc := (wX5_takeWhole cy aR qR aH aH vR_j11_16 vR_16 vR_tape)) (wc2 := (wX5_takeWhole cy aR qR aH aH vR_j11_38 vR_38 vR_tape)) (wr := [(aH, oX4 vH qH), (qR 3, rJ cy 4 vR_ringNames), (qH 9, rI cy 4 vH_places), (qH 12, rI cy 5 vH_doorOne), (qH 13, rI cy 5 vH_doorTwo)]) (ws2 := (wX5_readDoor cy aR qR aH qH aH vR_j11_38 vR_38 vR_tape vH vR_ringNames vH_places vH_doorOne vH_doorTwo)) (kRunV (As := [.int 0, .int (r33 - (1 : Int32))]) (rest := []) ⟨hx, hb, hml, hown, ht0⟩ (kX5_takeWhole l D cy _ aR qR aH vR_j11_16 vR_16 vR_tape (0 : Int32) (r33 - (1 : Int32)) r38 vR_j11_38 vR_38 hc38 _ rfl) (cwV 2 ht0 (gV wd345 wd346 wd347 wd276 wd348) rfl rfl rfl (by decide +kernel) ⟨Nat.le_of_ble_eq_true rfl, Nat.le_of_ble_eq_true rfl⟩) hK hN hP hD [0, 1] rfl (by decide) 0 4 rfl rfl rfl hl.1 rfl (Nat.le_of_ble_eq_true rfl) dX5_readDoor_38 ⟨Nat.zero_le _, Nat.zero_le _⟩) hP hD hS hA [0, 1] [2, 3, 4, 5, 6] rfl rfl (by decide) (by decide) [5, 6, 0, 1, 2, 3, 4] (by decide) rfl rfl (fun H locs hP hD hS => ?_)
    refine lv_istore_n (lv' := [(2, .int r38), (1, .int r16), (0, .ref aR)]) hx hb dX5_readDoor_41 rfl hl (by decide) rfl (fun ls hl => ?_)
    refine lv_iload_n hx hb dX5_readDoor_42 rfl (lv_at hl 0 rfl) ?_
    refine lv_if_ge (tgt := 48) hx hb dX5_readDoor_43 (by decide) (fun c43 => ?_) (fun c43 => ?_)
    · have hok := k_pos c43 hok
      refine lv_iload_n hx hb dX5_readDoor_48 rfl (lv_at hl 1 rfl) ?_
      refine lv_iload_n hx hb dX5_readDoor_49 rfl (lv_at hl 0 rfl) ?_
      obtain ⟨r50, hc50, hok⟩ := k_bind hok
      refine kCi (wc := (wX8_cellAt cy )) (wc2 := (wX8_cellAt cy )) (wr := [(aR, oX5 vR_38 qR vR_j11_38 aH), (qR 0, rB cy 900 vR_tape), (aH, oX4 vH qH), (qR 3, rJ cy 4 vR_ringNames), (qH 9, rI cy 4 vH_places), (qH 12, rI cy 5 vH_doorOne), (qH 13, rI cy 5 vH_doorTwo)]) (ws2 := (wX5_readDoor cy aR qR aH qH aH vR_j11_38 vR_38 vR_tape vH vR_ringNames vH_places vH_doorOne vH_doorTwo)) (kRunSN (As := [.int r16, .int r38]) (rest := []) ⟨hx, hb, hml, hown, ht0⟩ (kX8_cellAt l D cy _ r16 r38 r50 hc50 _ rfl) ⟨va_cnB 2 ht0 (gN wd260) rfl rfl rfl (hN _ (List.mem_of_getElem? (i := 5) rfl)) (ht0 _ wd57) (by decide +kernel) ⟨Nat.le_of_ble_eq_true rfl, Nat.le_of_ble_eq_true rfl⟩, ht0 _ wd261, trivial⟩ hK hN hP hD [] rfl (by decide) rfl hl.1 rfl (Nat.le_of_ble_eq_true rfl) dX5_readDoor_50 ⟨Nat.zero_le _, Nat.zero_le _⟩) hP hD hS hA [] [0, 1, 2, 3, 4, 5, 6] rfl rfl (by decide) (by decide) [0, 1, 2, 3, 4, 5, 6] (by decide) rfl rfl (fun H locs hP hD hS => ?_)
      refine lv_istore_n (lv' := [(3, .int r50), (2, .int r38), (1, .int r16), (0, .ref aR)]) hx hb dX5_readDoor_53 rfl hl (by decide) rfl (fun ls hl => ?_)
      refine lv_aload_n hx hb dX5_readDoor_54 rfl (lv_at hl 3 rfl) ?_
      refine lv_aload_n hx hb dX5_readDoor_55 rfl (lv_at hl 3 rfl) ?_
      refine va_get (D := D) (ci := 4) (v := .ref (qR 3)) (C := RX5) (T := TX5) (N := 13) hx hb ht0 niX5 hown hK hP 0 rfl rfl 3 (by decide) (ht0 _ wd370) (fun _ h9 => h9) rfl dX5_readDoor_56 ?_
      refine lv_aload_n hx hb dX5_readDoor_59 rfl (lv_at hl 3 rfl) ?_
      refine va_get (D := D) (ci := 4) (v := .ref aH) (C := RX5) (T := TX5) (N := 13) hx hb ht0 niX5 hown hK hP 0 rfl rfl 2 (by decide) (ht0 _ wd266) (fun _ h9 => h9) rfl dX5_readDoor_60 ?_
      refine va_get (D := D) (ci := 3) (v := .int (vH 2)) (C := RX4) (T := TX4) (N := 20) hx hb ht0 niX4 hown hK hP 2 rfl rfl 2 (by decide) (ht0 _ wd360) (fun _ h9 => h9) rfl dX5_readDoor_63 ?_
      obtain ⟨⟨r66, vR_j11_66, vR_66⟩, hc66, hok⟩ := k_bind hok
      try dsimp only at hok
      refine kCi (wc := (wX5_takeToldName cy aR (qR 3) qR aH aH vR_j11_38 vR_38 vR_tape 4 vR_ringNames)) (wc2 := (wX5_takeToldName cy aR (qR 3) qR aH aH vR_j11_66 vR_66 vR_tape 4 vR_ringNames)) (wr := [(aH, oX4 vH qH), (qH 9, rI cy 4 vH_places), (qH 12, rI cy 5 vH_doorOne), (qH 13, rI cy 5 vH_doorTwo)]) (ws2 := (wX5_readDoor cy aR qR aH qH aH vR_j11_66 vR_66 vR_tape vH vR_ringNames vH_places vH_doorOne vH_doorTwo)) (kRunVS (As := [.ref (qR 3), .int (vH 2)]) (rest := []) ⟨hx, hb, hml, hown, ht0⟩ (kX5_takeToldName l D cy ad _ aR (qR 3) qR aH vR_j11_38 vR_38 vR_tape 4 vR_ringNames (vH 2) r66 vR_j11_66 vR_66 hc66 _ rfl) (cwV 2 ht0 (gV wd387 wd388 wd389 wd276 wd390) rfl rfl rfl (by decide +kernel) ⟨Nat.le_of_ble_eq_true rfl, Nat.le_of_ble_eq_true rfl⟩) hK hN hP hD hSt hS hA [0, 1, 3] rfl (by decide) 0 4 rfl rfl rfl hl.1 rfl (Nat.le_of_ble_eq_true rfl) dX5_readDoor_66 ⟨Nat.zero_le _, Nat.zero_le _⟩) hP hD hS hA [0, 1, 3] [2, 4, 5, 6] rfl rfl (by decide) (by decide) [4, 5, 0, 6, 1, 2, 3] (by decide) rfl rfl (fun H locs hP hD hS => ?_)
      refine lv_istore_n (lv' := [(1, .int r66), (3, .int r50), (2, .int r38), (0, .ref aR)]) hx hb dX5_readDoor_69 rfl hl (by decide) rfl (fun ls hl => ?_)
      refine lv_iload_n hx hb dX5_readDoor_70 rfl (lv_at hl 0 rfl) ?_
      refine lv_if_lt (tgt := 92) hx hb dX5_readDoor_71 (by decide) (fun c71 => ?_) (fun c71 => ?_)
      · have hok := k_pos c71 hok
        exact J92 vR_j11_66 vR_66 H locs ls hP hD hS (lv_sub hl [] rfl) hok
      · have hok := k_neg c71 hok
        refine lv_aload_n hx hb dX5_readDoor_74 rfl (lv_at hl 3 rfl) ?_
        refine lv_iconst (v := 0) hx hb dX5_readDoor_75 (by decide) ?_
        refine lv_aload_n hx hb dX5_readDoor_76 rfl (lv_at hl 3 rfl) ?_
        refine va_get (D := D) (ci := 4) (v := .ref aH) (C := RX5) (T := TX5) (N := 13) hx hb ht0 niX5 hown hK hP 0 rfl rfl 2 (by decide) (ht0 _ wd266) (fun _ h9 => h9) rfl dX5_readDoor_77 ?_
        refine lv_iload_n hx hb dX5_readDoor_80 rfl (lv_at hl 0 rfl) ?_
        obtain ⟨r81, hc81, hok⟩ := k_bind hok
        refine kCi (wc := (wX4_placesOf cy aH qH vH vH_places)) (wc2 := (wX4_placesOf cy aH qH vH vH_places)) (wr := [(aR, oX5 vR_66 qR vR_j11_66 aH), (qR 0, rB cy 900 vR_tape), (qR 3, rJ cy 4 vR_ringNames), (qH 12, rI cy 5 vH_doorOne), (qH 13, rI cy 5 vH_doorTwo)]) (ws2 := (wX5_readDoor cy aR qR aH qH aH vR_j11_66 vR_66 vR_tape vH vR_ringNames vH_places vH_doorOne vH_doorTwo)) (kRunV (As := [.int r66]) (rest := [.int 0, .ref aR]) ⟨hx, hb, hml, hown, ht0⟩ (kX4_placesOf l D cy _ aH qH vH vH_places r66 r81 hc81 _ rfl) (cwV 1 ht0 (gV wd391 wd257 wd258 wd9 wd259) rfl rfl rfl (by decide +kernel) ⟨Nat.le_of_ble_eq_true rfl, Nat.le_of_ble_eq_true rfl⟩) hK hN hP hD [2, 4] rfl (by decide) 2 3 rfl rfl rfl hl.1 rfl (Nat.le_of_ble_eq_true rfl) dX5_readDoor_81 ⟨Nat.zero_le _, Nat.zero_le _⟩) hP hD hS hA [2, 4] [0, 1, 3, 5, 6] rfl rfl (by decide) (by decide) [0, 1, 5, 2, 6, 3, 4] (by decide) rfl rfl (fun H locs hP hD hS => ?_)
        refine lv_iconst (v := 1) hx hb dX5_readDoor_84 (by decide) ?_
        refine lv_isub hx hb dX5_readDoor_85 ?_
        obtain ⟨⟨r86, vR_86⟩, hc86, hok⟩ := k_bind hok
        try dsimp only at hok
        refine kCi (wc := (wX5_isWhole cy aR qR aH aH vR_j11_66 vR_66)) (wc2 := (wX5_isWhole cy aR qR aH aH vR_j11_66 vR_86)) (wr := [(qR 0, rB cy 900 vR_tape), (aH, oX4 vH qH), (qR 3, rJ cy 4 vR_ringNames), (qH 9, rI cy 4 vH_places), (qH 12, rI cy 5 vH_doorOne), (qH 13, rI cy 5 vH_doorTwo)]) (ws2 := (wX5_readDoor cy aR qR aH qH aH vR_j11_66 vR_86 vR_tape vH vR_ringNames vH_places vH_doorOne vH_doorTwo)) (kRunV (As := [.int 0, .int (r81 - (1 : Int32))]) (rest := []) ⟨hx, hb, hml, hown, ht0⟩ (kX5_isWhole l D cy _ aR qR aH vR_j11_66 vR_66 (0 : Int32) (r81 - (1 : Int32)) r86 vR_86 hc86 _ rfl) (cwV 2 ht0 (gV wd336 wd337 wd338 wd276 wd339) rfl rfl rfl (by decide +kernel) ⟨Nat.le_of_ble_eq_true rfl, Nat.le_of_ble_eq_true rfl⟩) hK hN hP hD [0] rfl (by decide) 0 4 rfl rfl rfl hl.1 rfl (Nat.le_of_ble_eq_true rfl) dX5_readDoor_86 ⟨Nat.zero_le _, Nat.zero_le _⟩) hP hD hS hA [0] [1, 2, 3, 4, 5, 6] rfl rfl (by decide) (by decide) [6, 0, 1, 2, 3, 4, 5] (by decide) rfl rfl (fun H locs hP hD hS => ?_)
        refine lv_if_ne (tgt := 94) hx hb dX5_readDoor_89 (by decide) (fun c89 => ?_) (fun c89 => ?_)
        · have hok := k_neg c89 hok
          refine lv_iload_n hx hb dX5_readDoor_94 rfl (lv_at hl 0 rfl) ?_
          refine lv_aload_n hx hb dX5_readDoor_95 rfl (lv_at hl 3 rfl) ?_
          refine va_get (D := D) (ci := 4) (v := .int (vR_86 10)) (C := RX5) (T := TX5) (N := 13) hx hb ht0 niX5 hown hK hP 0 rfl rfl 10 (by decide) (ht0 _ wd272) (fun _ h9 => h9) rfl dX5_readDoor_96 ?_
          obtain ⟨r99, hc99, hok⟩ := k_bind hok
          refine kCi (wc := (wX8_cellAt cy )) (wc2 := (wX8_cellAt cy )) (wr := [(aR, oX5 vR_86 qR vR_j11_66 aH), (qR 0, rB cy 900 vR_tape), (aH, oX4 vH qH), (qR 3, rJ cy 4 vR_ringNames), (qH 9, rI cy 4 vH_places), (qH 12, rI cy 5 vH_doorOne), (qH 13, rI cy 5 vH_doorTwo)]) (ws2 := (wX5_readDoor cy aR qR aH qH aH vR_j11_66 vR_86 vR_tape vH vR_ringNames vH_places vH_doorOne vH_doorTwo)) (kRunSN (As := [.int r66, .int (vR_86 10)]) (rest := []) ⟨hx, hb, hml, hown, ht0⟩ (kX8_cellAt l D cy _ r66 (vR_86 10) r99 hc99 _ rfl) ⟨va_cnB 2 ht0 (gN wd260) rfl rfl rfl (hN _ (List.mem_of_getElem? (i := 5) rfl)) (ht0 _ wd57) (by decide +kernel) ⟨Nat.le_of_ble_eq_true rfl, Nat.le_of_ble_eq_true rfl⟩, ht0 _ wd261, trivial⟩ hK hN hP hD [] rfl (by decide) rfl hl.1 rfl (Nat.le_of_ble_eq_true rfl) dX5_readDoor_99 ⟨Nat.zero_le _, Nat.zero_le _⟩) hP hD hS hA [] [0, 1, 2, 3, 4, 5, 6] rfl rfl (by decide) (by decide) [0, 1, 2, 3, 4, 5, 6] (by decide) rfl rfl (fun H locs hP hD hS => ?_)
          refine lv_istore (lv' := [(4, .int r99), (1, .int r66), (3, .int r50), (2, .int r38), (0, .ref aR)]) hx hb dX5_readDoor_102 hl (by decide) rfl (fun ls hl => ?_)
          refine lv_iload_n hx hb dX5_readDoor_104 rfl (lv_at hl 2 rfl) ?_
          refine lv_iload hx hb dX5_readDoor_105 (lv_at hl 0 rfl) ?_
          refine lv_icmp_eq (tgt := 123) hx hb dX5_readDoor_107 (by decide) (fun c107 => ?_) (fun c107 => ?_)
          · have hok := k_pos c107 hok
            exact J123 vR_j11_66 vR_86 H locs ls hP hD hS (lv_sub hl [4] rfl) hok
          · have hok := k_neg c107 hok
            refine lv_aload_n hx hb dX5_readDoor_110 rfl (lv_at hl 4 rfl) ?_
            refine va_get (D := D) (ci := 4) (v := .ref aH) (C := RX5) (T := TX5) (N := 13) hx hb ht0 niX5 hown hK hP 0 rfl rfl 2 (by decide) (ht0 _ wd266) (fun _ h9 => h9) rfl dX5_readDoor_111 ?_
            refine lv_iload_n hx hb dX5_readDoor_114 rfl (lv_at hl 2 rfl) ?_
            refine lv_iload hx hb dX5_readDoor_115 (lv_at hl 0 rfl) ?_
            obtain ⟨r117, hc117, hok⟩ := k_bind hok
            refine kCi (wc := (wX4_hasDoor cy aH qH vH vH_doorOne vH_doorTwo)) (wc2 := (wX4_hasDoor cy aH qH vH vH_doorOne vH_doorTwo)) (wr := [(aR, oX5 vR_86 qR vR_j11_66 aH), (qR 0, rB cy 900 vR_tape), (qR 3, rJ cy 4 vR_ringNames), (qH 9, rI cy 4 vH_places)]) (ws2 := (wX5_readDoor cy aR qR aH qH aH vR_j11_66 vR_86 vR_tape vH vR_ringNames vH_places vH_doorOne vH_doorTwo)) (kRunV (As := [.int r50, .int r99]) (rest := []) ⟨hx, hb, hml, hown, ht0⟩ (kX4_hasDoor l D cy _ aH qH vH vH_doorOne vH_doorTwo r50 r99 r117 hc117 _ rfl) (cwV 2 ht0 (gV wd400 wd167 wd168 wd9 wd169) rfl rfl rfl (by decide +kernel) ⟨Nat.le_of_ble_eq_true rfl, Nat.le_of_ble_eq_true rfl⟩) hK hN hP hD [2, 5, 6] rfl (by decide) 2 3 rfl rfl rfl hl.1 rfl (Nat.le_of_ble_eq_true rfl) dX5_readDoor_117 ⟨Nat.zero_le _, Nat.zero_le _⟩) hP hD hS hA [2, 5, 6] [0, 1, 3, 4] rfl rfl (by decide) (by decide) [0, 1, 4, 2, 3, 5, 6] (by decide) rfl rfl (fun H locs hP hD hS => ?_)
            refine lv_if_eq (tgt := 129) hx hb dX5_readDoor_120 (by decide) (fun c120 => ?_) (fun c120 => ?_)
            · have hok := k_pos c120 hok
              refine lv_aload_n hx hb dX5_readDoor_129 rfl (lv_at hl 4 rfl) ?_
              obtain ⟨⟨vR_j11_130, vR_130⟩, hc130, hok⟩ := k_bind hok
              try dsimp only at hok
              refine kCv (wc := (wX5_step cy aR qR aH aH vR_j11_66 vR_86 vR_tape)) (wc2 := (wX5_step cy aR qR aH aH vR_j11_130 vR_130 vR_tape)) (wr := [(aH, oX4 vH qH), (qR 3, rJ cy 4 vR_ringNames), (qH 9, rI cy 4 vH_places), (qH 12, rI cy 5 vH_doorOne), (qH 13, rI cy 5 vH_doorTwo)]) (ws2 := (wX5_readDoor cy aR qR aH qH aH vR_j11_130 vR_130 vR_tape vH vR_ringNames vH_places vH_doorOne vH_doorTwo)) (kRunV (As := []) (rest := []) ⟨hx, hb, hml, hown, ht0⟩ (kX5_step l D cy _ aR qR aH vR_j11_66 vR_86 vR_tape vR_j11_130 vR_130 hc130 _ rfl) (cwV 0 ht0 (gV wd328 wd329 wd330 wd276 wd331) rfl rfl rfl (by decide +kernel) ⟨Nat.le_of_ble_eq_true rfl, Nat.le_of_ble_eq_true rfl⟩) hK hN hP hD [0, 1] rfl (by decide) 0 4 rfl rfl rfl hl.1 rfl (Nat.le_of_ble_eq_true rfl) dX5_readDoor_130 ⟨Nat.zero_le _, Nat.zero_le _⟩) hP hD hS hA [0, 1] [2, 3, 4, 5, 6] rfl rfl (by decide) (by decide) [5, 6, 0, 1, 2, 3, 4] (by decide) rfl rfl (fun H locs hP hD hS => ?_)
              refine lv_aload_n hx hb dX5_readDoor_133 rfl (lv_at hl 4 rfl) ?_
              refine va_get (D := D) (ci := 4) (v := .ref aH) (C := RX5) (T := TX5) (N := 13) hx hb ht0 niX5 hown hK hP 0 rfl rfl 2 (by decide) (ht0 _ wd266) (fun _ h9 => h9) rfl dX5_readDoor_134 ?_
              refine lv_iload_n hx hb dX5_readDoor_137 rfl (lv_at hl 2 rfl) ?_
              refine lv_iload hx hb dX5_readDoor_138 (lv_at hl 0 rfl) ?_
              obtain ⟨⟨vH_140, vH_doorOne_140, vH_doorTwo_140⟩, hc140, hok⟩ := k_bind hok
              try dsimp only at hok
              refine kCv (wc := (wX4_addDoor cy aH qH vH vH_doorOne vH_doorTwo)) (wc2 := (wX4_addDoor cy aH qH vH_140 vH_doorOne_140 vH_doorTwo_140)) (wr := [(aR, oX5 vR_130 qR vR_j11_130 aH), (qR 0, rB cy 900 vR_tape), (qR 3, rJ cy 4 vR_ringNames), (qH 9, rI cy 4 vH_places)]) (ws2 := (wX5_readDoor cy aR qR aH qH aH vR_j11_130 vR_130 vR_tape vH_140 vR_ringNames vH_places vH_doorOne_140 vH_doorTwo_140)) (kRunV (As := [.int r50, .int r99]) (rest := []) ⟨hx, hb, hml, hown, ht0⟩ (kX4_addDoor l D cy _ aH qH vH vH_doorOne vH_doorTwo r50 r99 vH_140 vH_doorOne_140 vH_doorTwo_140 hc140 _ rfl) (cwV 2 ht0 (gV wd401 wd402 wd403 wd9 wd404) rfl rfl rfl (by decide +kernel) ⟨Nat.le_of_ble_eq_true rfl, Nat.le_of_ble_eq_true rfl⟩) hK hN hP hD [2, 5, 6] rfl (by decide) 2 3 rfl rfl rfl hl.1 rfl (Nat.le_of_ble_eq_true rfl) dX5_readDoor_140 ⟨Nat.zero_le _, Nat.zero_le _⟩) hP hD hS hA [2, 5, 6] [0, 1, 3, 4] rfl rfl (by decide) (by decide) [0, 1, 4, 2, 3, 5, 6] (by decide) rfl rfl (fun H locs hP hD hS => ?_)
              refine lv_iconst (v := 1) hx hb dX5_readDoor_143 (by decide) ?_
              cases hok
              subst hQe; exact W.zret hx hb hr rfl (fun t ht hW => ⟨⟨_, (), rfl, rfl, by rw [ht]; exact hP, va_K.moved hW.alike hK, hD⟩, hS.F ht⟩) hS.2.2 dX5_readDoor_144
            · have hok := k_neg c120 hok
              exact J123 vR_j11_66 vR_86 H locs ls hP hD hS (lv_sub hl [4] rfl) hok
        · have hok := k_pos c89 hok
          exact J92 vR_j11_66 vR_86 H locs ls hP hD hS (lv_sub hl [] rfl) hok
    · have hok := k_neg c43 hok
      refine lv_iconst (v := 0) hx hb dX5_readDoor_46 (by decide) ?_
      cases hok
      subst hQe; exact W.zret hx hb hr rfl (fun t ht hW => ⟨⟨_, (), rfl, rfl, by rw [ht]; exact hP, va_K.moved hW.alike hK, hD⟩, hS.F ht⟩) hS.2.2 dX5_readDoor_47
  · have hok := k_neg c21 hok
    refine lv_iconst (v := 0) hx hb dX5_readDoor_24 (by decide) ?_
    cases hok
    subst hQe; exact W.zret hx hb hr rfl (fun t ht hW => ⟨⟨_, (), rfl, rfl, by rw [ht]; exact hP, va_K.moved hW.alike hK, hD⟩, hS.F ht⟩) hS.2.2 dX5_readDoor_25
def wsX5_kindSaid : List Cond := .code yX5_kindSaid cX5_kindSaid 1 (some .int) :: W0
abbrev wX5_kindSaid (cy : Nat → ClassId) (aR : Nat) (qR : Nat → Nat) (aH : Nat) (fvR_2 : Nat) (vR_j11 : Int64) (vR : Nat → Int32) (vR_tape : Nat → Int32) : va_W := [(aR, oX5 vR qR vR_j11 fvR_2), (qR 0, rB cy 900 vR_tape)]
set_option maxHeartbeats 4000000 in
set_option maxRecDepth 100000 in
theorem kX5_kindSaid (l : Launch) (D : va_G) (cy : Nat → ClassId) (ad : (Nat → Nat) × (Nat → Nat)) (sz : Nat) (aR : Nat) (qR : Nat → Nat) (aH : Nat) (vR_j11 : Int64) (vR : Nat → Int32) (vR_tape : Nat → Int32) (zr : Int32) (hok : fX5_kindSaid vR_j11 vR vR_tape = some zr) (A : Nat → Prop) (hAe : va_A (wX5_kindSaid cy aR qR aH aH vR_j11 vR vR_tape) sz = A) : Met l yX5_kindSaid wsX5_kindSaid ({ frames := 5, cells := 0, slots := 0, locals := 108 } : Room) (kPreS D cy ad [.ref aR] (wX5_kindSaid cy aR qR aH aH vR_j11 vR vR_tape) sz A) (kQi D cy zr A (wX5_kindSaid cy aR qR aH aH vR_j11 vR vR_tape)) 0 0 A := by
  refine Met.ofW (cc := cX5_kindSaid) (maxL := 1) (ret := (some .int)) (by decide) rfl ?_
  intro p e s m args below meth c s₁ B hml hv
  obtain ⟨rfl, ⟨hsz, hP, hK, hD0, hN⟩, hSt⟩ := hv
  have hx := B.exec
  have hb := B.bytes
  have hr := B.returns
  have ht0 : ∀ w ∈ W0, w.before _ s = true := fun w h => atoms_spec (ws := wsX5_kindSaid) B.pre w (List.mem_cons_of_mem _ h)
  have hown : s.vm.findClass RX5 = some m.cls := findClass_of_methodNamed B.named
  have hlocks := B.notSynchronized
  subst hsz
  have hD : va_D A (wX5_kindSaid cy aR qR aH aH vR_j11 vR vR_tape) := by rw [← hAe]; exact hD0.self
  have hA : ∀ q : Nat, s.heap.size ≤ q → A q := fun q h => by rw [← hAe]; exact Or.inr h
  have hS : va_S A s.heap s.heap [] := va_S.rf
  have hl := lv_entry ([.ref aR]) (n := 1) (Nat.le_of_ble_eq_true rfl)
  rw [lg_entry_eq]
  generalize (lg_sl ([.ref aR]) ++ List.replicate (1 - (lg_sl ([.ref aR])).length) Slot.unset).toArray = ls at hl ⊢
  have hl : lv_has ls 1 [(0, .ref aR)] := hl
  generalize hQe : MQ below (kQi D cy zr A (wX5_kindSaid cy aR qR aH aH vR_j11 vR vR_tape)) ([.ref aR] : List Value).toArray s 0 0 A = Q
  have J47 : ∀ (t0_47 : Int32), ∀ (H : Heap) (locs : List Loc) (ls : Array Slot), va_P D vwCl (wX5_kindSaid cy aR qR aH aH vR_j11 vR vR_tape) H → va_D A (wX5_kindSaid cy aR qR aH aH vR_j11 vR vR_tape) → va_S A s.heap H locs → lv_has ls 1 [] → fX5_kindSaid_J47 t0_47 = some zr → W p l e ({ frames := 5, cells := 0, slots := 0, locals := 108 } : Room) s m ([.ref aR] : List Value).toArray below meth c H locs 0 0 Q (F0 m 47 ls [.int t0_47]) := by
    intro t0_47 H locs ls hP hD hS hl hok
    unfold fX5_kindSaid_J47 at hok
    cases hok
    subst hQe; exact W.iret hx hb hr (fun t ht hW => ⟨⟨_, (), rfl, rfl, by rw [ht]; exact hP, va_K.moved hW.alike hK, hD⟩, hS.F ht⟩) hS.2.2 dX5_kindSaid_47
  unfold fX5_kindSaid at hok
  obtain ⟨H, hH⟩ : ∃ H, H = s.heap := ⟨_, rfl⟩
  obtain ⟨locs, hlc⟩ : ∃ x : List Loc, x = [] := ⟨_, rfl⟩
  have hP : va_P D vwCl (wX5_kindSaid cy aR qR aH aH vR_j11 vR vR_tape) H := by rw [hH]; exact hP
  have hS : va_S A s.heap H locs := by rw [hH, hlc]; exact hS
  rw [show W p l e _ s m _ below meth c s.heap [] = W p l e _ s m _ below meth c H locs from by rw [hH, hlc]]
  refine lv_aload_n hx hb dX5_kindSaid_0 rfl (lv_at hl 0 rfl) ?_
  refine va_ldcS (own := RX5) (tx := "plain") (index := 136) (q := ad.1 17) hx hb hown (hSt.2.1 (RX5, 136, "plain", 17) (List.mem_of_getElem? (i := 8) rfl)) dX5_kindSaid_1 ?_
  obtain ⟨r3, hc3, hok⟩ := k_bind hok
  refine kCi (wc := (wX5_says cy aR qR aH aH vR_j11 vR vR_tape)) (wc2 := (wX5_says cy aR qR aH aH vR_j11 vR vR_tape)) (wr := []) (ws2 := (wX5_kindSaid cy aR qR aH aH vR_j11 vR vR_tape)) (kRunVS (As := [.ref (ad.1 17)]) (rest := []) ⟨hx, hb, hml, hown, ht0⟩ (kX5_says l D cy ad _ aR qR aH vR_j11 vR vR_tape 17 r3 hc3 _ rfl) (cwV 1 ht0 (gV wd324 wd325 wd326 wd276 wd327) rfl rfl rfl (by decide +kernel) ⟨Nat.le_of_ble_eq_true rfl, Nat.le_of_ble_eq_true rfl⟩) hK hN hP hD hSt hS hA [0, 1] rfl (by decide) 0 4 rfl rfl rfl hl.1 rfl (Nat.le_of_ble_eq_true rfl) dX5_kindSaid_3 ⟨Nat.zero_le _, Nat.zero_le _⟩) hP hD hS hA [0, 1] [] rfl rfl (by decide) (by decide) [0, 1] (by decide) rfl rfl (fun H locs hP hD hS => ?_)
  refine lv_if_eq (tgt := 11) hx hb dX5_kindSaid_6 (by decide) (fun c6 => ?_) (fun c6 => ?_)
  · have hok := k_pos c6 hok
    refine lv_aload_n hx hb dX5_kindSaid_11 rfl (lv_at hl 0 rfl) ?_
    refine va_ldcS (own := RX5) (tx := "piano") (index := 142) (q := ad.1 15) hx hb hown (hSt.2.1 (RX5, 142, "piano", 15) (List.mem_of_getElem? (i := 11) rfl)) dX5_kindSaid_12 ?_
    obtain ⟨r14, hc14, hok⟩ := k_bind hok
    refine kCi (wc := (wX5_says cy aR qR aH aH vR_j11 vR vR_tape)) (wc2 := (wX5_says cy aR qR aH aH vR_j11 vR vR_tape)) (wr := []) (ws2 := (wX5_kindSaid cy aR qR aH aH vR_j11 vR vR_tape)) (kRunVS (As := [.ref (ad.1 15)]) (rest := []) ⟨hx, hb, hml, hown, ht0⟩ (kX5_says l D cy ad _ aR qR aH vR_j11 vR vR_tape 15 r14 hc14 _ rfl) (cwV 1 ht0 (gV wd324 wd325 wd326 wd276 wd327) rfl rfl rfl (by decide +kernel) ⟨Nat.le_of_ble_eq_true rfl, Nat.le_of_ble_eq_true rfl⟩) hK hN hP hD hSt hS hA [0, 1] rfl (by decide) 0 4 rfl rfl rfl hl.1 rfl (Nat.le_of_ble_eq_true rfl) dX5_kindSaid_14 ⟨Nat.zero_le _, Nat.zero_le _⟩) hP hD hS hA [0, 1] [] rfl rfl (by decide) (by decide) [0, 1] (by decide) rfl rfl (fun H locs hP hD hS => ?_)
    refine lv_if_eq (tgt := 22) hx hb dX5_kindSaid_17 (by decide) (fun c17 => ?_) (fun c17 => ?_)
    · have hok := k_pos c17 hok
      refine lv_aload_n hx hb dX5_kindSaid_22 rfl (lv_at hl 0 rfl) ?_
      refine va_ldcS (own := RX5) (tx := "broken") (index := 144) (q := ad.1 2) hx hb hown (hSt.2.1 (RX5, 144, "broken", 2) (List.mem_of_getElem? (i := 12) rfl)) dX5_kindSaid_23 ?_
      obtain ⟨r25, hc25, hok⟩ := k_bind hok
      refine kCi (wc := (wX5_says cy aR qR aH aH vR_j11 vR vR_tape)) (wc2 := (wX5_says cy aR qR aH aH vR_j11 vR vR_tape)) (wr := []) (ws2 := (wX5_kindSaid cy aR qR aH aH vR_j11 vR vR_tape)) (kRunVS (As := [.ref (ad.1 2)]) (rest := []) ⟨hx, hb, hml, hown, ht0⟩ (kX5_says l D cy ad _ aR qR aH vR_j11 vR vR_tape 2 r25 hc25 _ rfl) (cwV 1 ht0 (gV wd324 wd325 wd326 wd276 wd327) rfl rfl rfl (by decide +kernel) ⟨Nat.le_of_ble_eq_true rfl, Nat.le_of_ble_eq_true rfl⟩) hK hN hP hD hSt hS hA [0, 1] rfl (by decide) 0 4 rfl rfl rfl hl.1 rfl (Nat.le_of_ble_eq_true rfl) dX5_kindSaid_25 ⟨Nat.zero_le _, Nat.zero_le _⟩) hP hD hS hA [0, 1] [] rfl rfl (by decide) (by decide) [0, 1] (by decide) rfl rfl (fun H locs hP hD hS => ?_)
      refine lv_if_eq (tgt := 33) hx hb dX5_kindSaid_28 (by decide) (fun c28 => ?_) (fun c28 => ?_)
      · have hok := k_pos c28 hok
        refine lv_aload_n hx hb dX5_kindSaid_33 rfl (lv_at hl 0 rfl) ?_
        refine va_ldcS (own := RX5) (tx := "pet") (index := 146) (q := ad.1 14) hx hb hown (hSt.2.1 (RX5, 146, "pet", 14) (List.mem_of_getElem? (i := 13) rfl)) dX5_kindSaid_34 ?_
        obtain ⟨r36, hc36, hok⟩ := k_bind hok
        refine kCi (wc := (wX5_says cy aR qR aH aH vR_j11 vR vR_tape)) (wc2 := (wX5_says cy aR qR aH aH vR_j11 vR vR_tape)) (wr := []) (ws2 := (wX5_kindSaid cy aR qR aH aH vR_j11 vR vR_tape)) (kRunVS (As := [.ref (ad.1 14)]) (rest := []) ⟨hx, hb, hml, hown, ht0⟩ (kX5_says l D cy ad _ aR qR aH vR_j11 vR vR_tape 14 r36 hc36 _ rfl) (cwV 1 ht0 (gV wd324 wd325 wd326 wd276 wd327) rfl rfl rfl (by decide +kernel) ⟨Nat.le_of_ble_eq_true rfl, Nat.le_of_ble_eq_true rfl⟩) hK hN hP hD hSt hS hA [0, 1] rfl (by decide) 0 4 rfl rfl rfl hl.1 rfl (Nat.le_of_ble_eq_true rfl) dX5_kindSaid_36 ⟨Nat.zero_le _, Nat.zero_le _⟩) hP hD hS hA [0, 1] [] rfl rfl (by decide) (by decide) [0, 1] (by decide) rfl rfl (fun H locs hP hD hS => ?_)
        refine lv_if_eq (tgt := 46) hx hb dX5_kindSaid_39 (by decide) (fun c39 => ?_) (fun c39 => ?_)
        · have hok := k_pos c39 hok
          refine lv_iconst (v := -1) hx hb dX5_kindSaid_46 (by decide) ?_
          exact J47 (-1 : Int32) H locs ls hP hD hS (lv_sub hl [] rfl) hok
        · have hok := k_neg c39 hok
          refine lv_iconst (v := 3) hx hb dX5_kindSaid_42 (by decide) ?_
          refine lv_goto (tgt := 47) hx hb dX5_kindSaid_43 (by decide) ?_
          exact J47 (3 : Int32) H locs ls hP hD hS (lv_sub hl [] rfl) hok
      · have hok := k_neg c28 hok
        refine lv_iconst (v := 2) hx hb dX5_kindSaid_31 (by decide) ?_
        cases hok
        subst hQe; exact W.iret hx hb hr (fun t ht hW => ⟨⟨_, (), rfl, rfl, by rw [ht]; exact hP, va_K.moved hW.alike hK, hD⟩, hS.F ht⟩) hS.2.2 dX5_kindSaid_32
    · have hok := k_neg c17 hok
      refine lv_iconst (v := 1) hx hb dX5_kindSaid_20 (by decide) ?_
      cases hok
      subst hQe; exact W.iret hx hb hr (fun t ht hW => ⟨⟨_, (), rfl, rfl, by rw [ht]; exact hP, va_K.moved hW.alike hK, hD⟩, hS.F ht⟩) hS.2.2 dX5_kindSaid_21
  · have hok := k_neg c6 hok
    refine lv_iconst (v := 0) hx hb dX5_kindSaid_9 (by decide) ?_
    cases hok
    subst hQe; exact W.iret hx hb hr (fun t ht hW => ⟨⟨_, (), rfl, rfl, by rw [ht]; exact hP, va_K.moved hW.alike hK, hD⟩, hS.F ht⟩) hS.2.2 dX5_kindSaid_10
