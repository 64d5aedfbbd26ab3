/-! MATH 42: reading: a line, on both sides (written by gen/g62.py) -/
def lnC (vR_j11 : Int64) (vR : Nat → Int32) (vR_tape : Nat → Int32) (vH : Nat → Int32) (vU : Nat → Int32) (vH_markNights : Nat → Int32) (vH_markPlaces : Nat → Int32) (vH_markFound : Nat → Int32) (vR_thingNames : Nat → Int64) (vR_ringNames : Nat → Int64) (vH_places : Nat → Int32) (vU_things : Nat → Int32) (vU_cells : Nat → Int32) (vU_nights : Nat → Int32) (vU_worths : Nat → Int32) (vH_firstCells : Nat → Int32) (vH_kinds : Nat → Int32) (vH_sizes : Nat → Int32) (vH_doorOne : Nat → Int32) (vH_doorTwo : Nat → Int32) (vH_width : Nat → Int32) (vH_sorts : Nat → Int32) (vH_next : Nat → Int32) : Option (Int32 × Int64 × (Nat → Int32) × (Nat → Int32) × (Nat → Int32) × (Nat → Int32) × (Nat → Int32) × (Nat → Int32) × (Nat → Int64) × (Nat → Int64) × (Nat → Int32) × (Nat → Int32) × (Nat → Int32) × (Nat → Int32) × (Nat → Int32) × (Nat → Int32) × (Nat → Int32) × (Nat → Int32) × (Nat → Int32) × (Nat → Int32) × (Nat → Int32) × (Nat → Int32) × (Nat → Int32)) := (Option.bind (fX5_says vR_j11 vR vR_tape 18) fun r65 => (if r65 = 0 then (Option.bind (fX5_says vR_j11 vR vR_tape 11) fun r79 => (if r79 = 0 then (Option.bind (fX5_says vR_j11 vR vR_tape 6) fun r93 => (if r93 = 0 then (Option.bind (fX5_says vR_j11 vR vR_tape 20) fun r107 => (if r107 = 0 then (Option.bind (fX5_says vR_j11 vR vR_tape 21) fun r121 => (if r121 = 0 then (Option.bind (fX5_readMark vR_j11 vR vR_tape vH vH_markNights vH_markPlaces vH_markFound) fun (r135, vR_j11_135, vR_135, vH_135, vH_markNights_135, vH_markPlaces_135, vH_markFound_135) => (fX5_readLine_J138 vR_thingNames vR_ringNames vH_places vH_firstCells vH_kinds vH_sizes vH_doorOne vH_doorTwo vH_width vH_sorts vH_next r135 vH_markFound_135 vH_markNights_135 vH_markPlaces_135 vU_cells vU_nights vU_things vU_worths vR_j11_135 vH_135 vR_135 vU)) else (Option.bind (fX5_readWant vR_j11 vR vR_tape vH vR_thingNames vR_ringNames vH_places vU vU_things vU_cells vU_nights vU_worths) fun (r128, vR_j11_128, vR_128, vU_128, vU_things_128, vU_cells_128, vU_nights_128, vU_worths_128) => (fX5_readLine_J138 vR_thingNames vR_ringNames vH_places vH_firstCells vH_kinds vH_sizes vH_doorOne vH_doorTwo vH_width vH_sorts vH_next r128 vH_markFound vH_markNights vH_markPlaces vU_cells_128 vU_nights_128 vU_things_128 vU_worths_128 vR_j11_128 vH vR_128 vU_128)))) else (Option.bind (fX5_readThing vR_j11 vR vR_tape vH vR_ringNames vR_thingNames vH_places vH_firstCells vH_kinds vH_sizes) fun (r114, vR_j11_114, vR_114, vH_114, vR_thingNames_114, vH_firstCells_114, vH_kinds_114, vH_sizes_114) => (gd (isB r114) (some (r114, vR_j11_114, vR_114, vH_114, vU, vH_markNights, vH_markPlaces, vH_markFound, vR_thingNames_114, vR_ringNames, vH_places, vU_things, vU_cells, vU_nights, vU_worths, vH_firstCells_114, vH_kinds_114, vH_sizes_114, vH_doorOne, vH_doorTwo, vH_width, vH_sorts, vH_next)))))) else (Option.bind (fX5_readDoor vR_j11 vR vR_tape vH vR_ringNames vH_places vH_doorOne vH_doorTwo) fun (r100, vR_j11_100, vR_100, vH_100, vH_doorOne_100, vH_doorTwo_100) => (gd (isB r100) (some (r100, vR_j11_100, vR_100, vH_100, vU, vH_markNights, vH_markPlaces, vH_markFound, vR_thingNames, vR_ringNames, vH_places, vU_things, vU_cells, vU_nights, vU_worths, vH_firstCells, vH_kinds, vH_sizes, vH_doorOne_100, vH_doorTwo_100, vH_width, vH_sorts, vH_next)))))) else (Option.bind (fX5_readNarrow vR_j11 vR vR_tape vH vR_ringNames vH_places vH_width) fun (r86, vR_j11_86, vR_86, vH_86, vH_width_86) => (gd (isB r86) (some (r86, vR_j11_86, vR_86, vH_86, vU, vH_markNights, vH_markPlaces, vH_markFound, vR_thingNames, vR_ringNames, vH_places, vU_things, vU_cells, vU_nights, vU_worths, vH_firstCells, vH_kinds, vH_sizes, vH_doorOne, vH_doorTwo, vH_width_86, vH_sorts, vH_next)))))) else (Option.bind (fX5_readRing vR_j11 vR vR_tape vH vR_ringNames vR_thingNames vH_sorts vH_places vH_next) fun (r72, vR_j11_72, vR_72, vH_72, vR_ringNames_72, vH_sorts_72, vH_places_72, vH_next_72) => (gd (isB r72) (some (r72, vR_j11_72, vR_72, vH_72, vU, vH_markNights, vH_markPlaces, vH_markFound, vR_thingNames, vR_ringNames_72, vH_places_72, vU_things, vU_cells, vU_nights, vU_worths, vH_firstCells, vH_kinds, vH_sizes, vH_doorOne, vH_doorTwo, vH_width, vH_sorts_72, vH_next_72))))))
section JL8
variable {tb : Nat → Nat} {n : Nat} {tc tm vR vM lt fr : Nat → Int32} {j : Int64} {S : PS} {rN tN : Nat → Int64}
variable {vH vU mn mp mf plc ut uc un uw fc kd sz d1 d2 wd srt nxt : Nat → Int32}
theorem says_t (ht : TPR tb n tc tm) (hc : CS0 tb n S.t vR j) {w : Nat} (hw : w < 22) (q : isW tb S.t w = true) : fX5_says j vR tc w = some (nI 1) := by
  rw [c_says ht hc.1 hc.2.1 hw, q]
  rfl
theorem says_f (ht : TPR tb n tc tm) (hc : CS0 tb n S.t vR j) {w : Nat} (hw : w < 22) (q : isW tb S.t w = false) : fX5_says j vR tc w = some (nI 0) := by
  rw [c_says ht hc.1 hc.2.1 hw, q]
  rfl
theorem isW_k {t : Tk} {w : Nat} (q : isW tb t w = true) : t.k = 2 := by
  unfold isW at q
  simp only [Bool.and_eq_true, beq_iff_eq] at q
  exact q.1.1
theorem nz1 : ¬ nI 1 = 0 := by decide
theorem m_begins_n (ht : TPR tb n tc tm) (hs : MS tb n S vM lt fr) {w : Nat} (hw : w < 22) (q : isW tb S.t w = false) (t : Int32) : fX9_begins vM lt fr tm w t = some (nI 0, vM, lt) := by
  unfold fX9_begins
  rw [m_isW ht hs hw, q, bdS, if_pos (show nI (if false = true then 1 else 0) = 0 from rfl)]
  rfl
theorem m_begins_y (ht : TPR tb n tc tm) (hs : MS tb n S vM lt fr) {w : Nat} (hw : w < 22) (q : isW tb S.t w = true) (c N : Nat) : ∃ w' l', fX9_begins vM lt fr tm w (nI (if c < N then 1 else 0)) = some (nI 1, w', l') ∧ KM vM w' ∧ ((c < N ∧ 0 < S.h 0 ∧ MS tb n (nx tb n S) w' l' fr) ∨ (c < N ∧ S.h 0 = 0 ∧ MF (6, S.t.at_) w' ∧ l' = lt) ∨ (¬ c < N ∧ MF (5, S.t.at_) w' ∧ l' = lt)) := by
  have f0 : fr (0 : Int32).toNatClampNeg = nI (S.h 0) := hs.2.2.2.2.1 0 (by omega)
  have b0 := hs.2.2.2.2.2 0 (by omega)
  have e4 : vM 4 = nI S.t.at_ := hs.2.2.1.2.1
  have J53 : ∀ l v : Nat → Int32, fX9_begins_J53 l v = some (nI 1, v, l) := fun _ _ => rfl
  have J42f : ∀ v : Nat → Int32, v 13 = nI 1 → fX9_begins_J42 lt tm v = some (nI 1, v, lt) := by
    intro v hv
    unfold fX9_begins_J42
    rw [if_neg (mf_ne hv), J53]
  unfold fX9_begins
  rw [m_isW ht hs hw, q, bdS, if_neg (show ¬ nI (if true = true then 1 else 0) = 0 by decide)]
  unfold fX9_begins_J23
  rw [show okI (0 : Int32) 224 = true from rfl, gdT, f0, e4]
  by_cases hc : c < N
  · rw [if_pos hc, if_neg nz1]
    by_cases z : S.h 0 = 0
    · obtain ⟨v, e, hf, hk⟩ := m_wrong hs.1 6 S.t.at_
      rw [if_pos (show nI (S.h 0) = 0 by rw [z]; rfl), show fX9_wrong vM 6 (nI S.t.at_) = some v from e, bdS, J42f v hf.1]
      exact ⟨v, lt, rfl, hk, Or.inr (Or.inl ⟨hc, z, hf, rfl⟩)⟩
    · obtain ⟨v, l, e, s, hk⟩ := m_nx ht hs
      rw [if_neg (nI_ne0 (by omega) (by omega))]
      unfold fX9_begins_J42
      rw [if_pos (show vM 13 = 0 from hs.1), e, bdS]
      exact ⟨v, l, J53 l v, hk, Or.inl ⟨hc, by omega, s⟩⟩
  · rw [if_neg hc, if_pos (show nI 0 = 0 from rfl)]
    obtain ⟨v, e, hf, hk⟩ := m_wrong hs.1 5 S.t.at_
    rw [show fX9_wrong vM 5 (nI S.t.at_) = some v from e, bdS]
    refine ⟨v, lt, ?_, hk, Or.inr (Or.inr ⟨hc, hf, rfl⟩)⟩
    rw [m_wrong_f hf.1, bdS, J42f v hf.1]
    by_cases z : nI (S.h 0) = 0
    · rw [if_pos z, gdT]
    · rw [if_neg z, gdT]
theorem m_cn {α : Type} (hs : MS tb n S vM lt fr) {k N : Nat} (hk : k < 224) (hN : N < 1000) (J : Int32 → Option α) : (if nI N ≤ fr k then J (nI 0) else J (nI 1)) = J (nI (if S.h k < N then 1 else 0)) := by
  have b := hs.2.2.2.2.2 k hk
  rw [hs.2.2.2.2.1 k hk]
  by_cases q : S.h k < N
  · rw [if_pos q, if_neg (by rw [nI_leI (by omega) (by omega)]; omega)]
  · rw [if_neg q, if_pos (by rw [nI_leI (by omega) (by omega)]; omega)]
theorem m_J34_n (ht : TPR tb n tc tm) (hs : MS tb n S vM lt fr) (q : isW tb S.t 18 = false) (t : Int32) : fX9_readLine_J34 vM lt fr tm t = fX9_readLine_J66 fr tm (nI (if S.h 4 < 6 then 1 else 0)) lt vM := by
  unfold fX9_readLine_J34
  rw [m_begins_n ht hs (by omega) q, bdS]
  simp only
  rw [if_pos (show nI 0 = 0 from rfl), show okI (4 : Int32) 224 = true from rfl, gdT]
  exact m_cn hs (k := 4) (N := 6) (by omega) (by omega) (fun x => fX9_readLine_J66 fr tm x lt vM)
theorem m_J34_y {t : Int32} {w' l' a b c : Nat → Int32} (hb : fX9_begins vM lt fr tm 18 t = some (nI 1, w', l')) (hl : fX9_ringLine w' fr l' tm = some (a, b, c)) : fX9_readLine_J34 vM lt fr tm t = some (a, c, b) := by
  unfold fX9_readLine_J34
  rw [hb, bdS]
  simp only
  rw [if_neg nz1, hl, bdS]
  rfl
theorem m_J66_n (ht : TPR tb n tc tm) (hs : MS tb n S vM lt fr) (q : isW tb S.t 11 = false) (t : Int32) : fX9_readLine_J66 fr tm t lt vM = fX9_readLine_J97 fr tm (nI (if S.h 5 < 5 then 1 else 0)) lt vM := by
  unfold fX9_readLine_J66
  rw [m_begins_n ht hs (by omega) q, bdS]
  simp only
  rw [if_pos (show nI 0 = 0 from rfl), show okI (5 : Int32) 224 = true from rfl, gdT]
  exact m_cn hs (k := 5) (N := 5) (by omega) (by omega) (fun x => fX9_readLine_J97 fr tm x lt vM)
theorem m_J66_y {t : Int32} {w' l' a b c : Nat → Int32} (hb : fX9_begins vM lt fr tm 11 t = some (nI 1, w', l')) (hl : fX9_narrowLine w' l' fr tm = some (a, b, c)) : fX9_readLine_J66 fr tm t lt vM = some (a, b, c) := by
  unfold fX9_readLine_J66
  rw [hb, bdS]
  simp only
  rw [if_neg nz1, hl, bdS]
  rfl
theorem m_J97_n (ht : TPR tb n tc tm) (hs : MS tb n S vM lt fr) (q : isW tb S.t 6 = false) (t : Int32) : fX9_readLine_J97 fr tm t lt vM = fX9_readLine_J129 fr tm (nI (if S.h 3 < 7 then 1 else 0)) lt vM := by
  unfold fX9_readLine_J97
  rw [m_begins_n ht hs (by omega) q, bdS]
  simp only
  rw [if_pos (show nI 0 = 0 from rfl), show okI (3 : Int32) 224 = true from rfl, gdT]
  exact m_cn hs (k := 3) (N := 7) (by omega) (by omega) (fun x => fX9_readLine_J129 fr tm x lt vM)
theorem m_J97_y {t : Int32} {w' l' a b c : Nat → Int32} (hb : fX9_begins vM lt fr tm 6 t = some (nI 1, w', l')) (hl : fX9_doorLine w' fr l' tm = some (a, b, c)) : fX9_readLine_J97 fr tm t lt vM = some (a, c, b) := by
  unfold fX9_readLine_J97
  rw [hb, bdS]
  simp only
  rw [if_neg nz1, hl, bdS]
  rfl
theorem m_J129_n (ht : TPR tb n tc tm) (hs : MS tb n S vM lt fr) (q : isW tb S.t 20 = false) (t : Int32) : fX9_readLine_J129 fr tm t lt vM = fX9_readLine_J162 fr tm (nI (if S.h 6 < 6 then 1 else 0)) lt vM := by
  unfold fX9_readLine_J129
  rw [m_begins_n ht hs (by omega) q, bdS]
  simp only
  rw [if_pos (show nI 0 = 0 from rfl), show okI (6 : Int32) 224 = true from rfl, gdT]
  exact m_cn hs (k := 6) (N := 6) (by omega) (by omega) (fun x => fX9_readLine_J162 fr tm x lt vM)
theorem m_J129_y {t : Int32} {w' l' a b c : Nat → Int32} (hb : fX9_begins vM lt fr tm 20 t = some (nI 1, w', l')) (hl : fX9_thingLine w' fr l' tm = some (a, b, c)) : fX9_readLine_J129 fr tm t lt vM = some (a, c, b) := by
  unfold fX9_readLine_J129
  rw [hb, bdS]
  simp only
  rw [if_neg nz1, hl, bdS]
  rfl
theorem m_J162_n (ht : TPR tb n tc tm) (hs : MS tb n S vM lt fr) (q : isW tb S.t 21 = false) (t : Int32) : fX9_readLine_J162 fr tm t lt vM = fX9_readLine_J195 fr tm (nI (if S.h 7 < 6 then 1 else 0)) lt vM := by
  unfold fX9_readLine_J162
  rw [m_begins_n ht hs (by omega) q, bdS]
  simp only
  rw [if_pos (show nI 0 = 0 from rfl), show okI (7 : Int32) 224 = true from rfl, gdT]
  exact m_cn hs (k := 7) (N := 6) (by omega) (by omega) (fun x => fX9_readLine_J195 fr tm x lt vM)
theorem m_J162_y {t : Int32} {w' l' a b c : Nat → Int32} (hb : fX9_begins vM lt fr tm 21 t = some (nI 1, w', l')) (hl : fX9_wantLine w' fr l' tm = some (a, b, c)) : fX9_readLine_J162 fr tm t lt vM = some (a, c, b) := by
  unfold fX9_readLine_J162
  rw [hb, bdS]
  simp only
  rw [if_neg nz1, hl, bdS]
  rfl
theorem m_J195_n (ht : TPR tb n tc tm) (hs : MS tb n S vM lt fr) (q : isW tb S.t 7 = false) (t : Int32) : fX9_readLine_J195 fr tm t lt vM = fX9_readLine_J229 fr tm (nI (if S.h 7 < 6 then 1 else 0)) lt vM := by
  unfold fX9_readLine_J195
  rw [m_begins_n ht hs (by omega) q, bdS]
  simp only
  rw [if_pos (show nI 0 = 0 from rfl), show okI (7 : Int32) 224 = true from rfl, gdT]
  exact m_cn hs (k := 7) (N := 6) (by omega) (by omega) (fun x => fX9_readLine_J229 fr tm x lt vM)
theorem m_J195_y {t : Int32} {w' l' a b c : Nat → Int32} (hb : fX9_begins vM lt fr tm 7 t = some (nI 1, w', l')) (hl : fX9_boxLine w' fr tm l' 1 = some (a, b, c)) : fX9_readLine_J195 fr tm t lt vM = some (a, c, b) := by
  unfold fX9_readLine_J195
  rw [hb, bdS]
  simp only
  rw [if_neg nz1, hl, bdS]
  rfl
theorem m_J229_n (ht : TPR tb n tc tm) (hs : MS tb n S vM lt fr) (q : isW tb S.t 10 = false) (t : Int32) : ∃ w, fX9_readLine_J229 fr tm t lt vM = some (w, lt, fr) ∧ MF (1, S.t.at_) w ∧ KM vM w := by
  obtain ⟨v, e, hf, hk⟩ := m_wrong hs.1 1 S.t.at_
  have e4 : vM 4 = nI S.t.at_ := hs.2.2.1.2.1
  refine ⟨v, ?_, hf, hk⟩
  unfold fX9_readLine_J229
  rw [m_begins_n ht hs (by omega) q, bdS]
  simp only
  rw [if_pos (show nI 0 = 0 from rfl), e4, show fX9_wrong vM 1 (nI S.t.at_) = some v from e, bdS]
  rfl
theorem m_J229_y {t : Int32} {w' l' a b c : Nat → Int32} (hb : fX9_begins vM lt fr tm 10 t = some (nI 1, w', l')) (hl : fX9_boxLine w' fr tm l' 0 = some (a, b, c)) : fX9_readLine_J229 fr tm t lt vM = some (a, c, b) := by
  unfold fX9_readLine_J229
  rw [hb, bdS]
  simp only
  rw [if_neg nz1, hl, bdS]
  rfl
theorem m_ringLine_f (h13 : vM 13 = nI 1) : fX9_ringLine vM fr lt tm = some (vM, fr, lt) := by
  unfold fX9_ringLine
  rw [if_neg (mf_ne h13)]
theorem m_narrowLine_f (h13 : vM 13 = nI 1) : fX9_narrowLine vM lt fr tm = some (vM, lt, fr) := by
  unfold fX9_narrowLine
  rw [if_neg (mf_ne h13)]
theorem m_doorLine_f (h13 : vM 13 = nI 1) : fX9_doorLine vM fr lt tm = some (vM, fr, lt) := by
  unfold fX9_doorLine
  rw [if_neg (mf_ne h13)]
theorem m_thingLine_f (h13 : vM 13 = nI 1) : fX9_thingLine vM fr lt tm = some (vM, fr, lt) := by
  unfold fX9_thingLine
  rw [if_neg (mf_ne h13)]
theorem m_wantLine_f (h13 : vM 13 = nI 1) : fX9_wantLine vM fr lt tm = some (vM, fr, lt) := by
  unfold fX9_wantLine
  rw [if_neg (mf_ne h13)]
theorem m_boxLine_f (h13 : vM 13 = nI 1) (x : Int32) : fX9_boxLine vM fr tm lt x = some (vM, fr, lt) := by
  unfold fX9_boxLine
  rw [if_neg (mf_ne h13)]
theorem c_isMany (ht : TPR tb n tc tm) (hc : CS0 tb n S.t vR j) (hA : PA S.h) (hV : HV S.h vH) (v0 : vU 0 = nI (S.h 6)) : fX5_isMany j vR tc vH vU = some (nI (if isW tb S.t 18 then (if S.h 2 < 4 then 0 else 1) else if isW tb S.t 11 then (if S.h 4 < 6 then 0 else 1) else if isW tb S.t 6 then (if S.h 5 < 5 then 0 else 1) else if isW tb S.t 20 then (if S.h 3 < 7 then 0 else 1) else if isW tb S.t 21 then (if S.h 6 < 6 then 0 else 1) else (if S.h 7 < 6 then 0 else 1))) := by
  obtain ⟨a0, a1, a2, a3, a4, a5, a6⟩ := hV
  obtain ⟨b0, b1, b2, b3, b4, b5, b6, b7, b8, b9⟩ := hA
  have fin : ∀ (x N : Nat) (J : Int32 → Option Int32), x < 1000 → N < 1000 → (∀ y, isB y = true → J y = some y) → (if nI x < nI N then J 0 else J 1) = some (nI (if x < N then 0 else 1)) := by
    intro x N J hx hN hJ
    by_cases q : x < N
    · rw [if_pos q, if_pos (by rw [nI_ltI (by omega) (by omega)]; exact q)]
      exact hJ 0 rfl
    · rw [if_neg q, if_neg (by rw [nI_ltI (by omega) (by omega)]; exact q)]
      exact hJ 1 rfl
  have J25 : ∀ y, isB y = true → fX5_isMany_J25 y = some y := fun y hy => by unfold fX5_isMany_J25; rw [hy, gdT]
  have J52 : ∀ y, isB y = true → fX5_isMany_J52 y = some y := fun y hy => by unfold fX5_isMany_J52; rw [hy, gdT]
  have J78 : ∀ y, isB y = true → fX5_isMany_J78 y = some y := fun y hy => by unfold fX5_isMany_J78; rw [hy, gdT]
  have J105 : ∀ y, isB y = true → fX5_isMany_J105 y = some y := fun y hy => by unfold fX5_isMany_J105; rw [hy, gdT]
  have J155 : ∀ y, isB y = true → fX5_isMany_J155 y = some y := fun y hy => by unfold fX5_isMany_J155; rw [hy, gdT]
  unfold fX5_isMany
  cases q18 : isW tb S.t 18 with
  | true =>
    rw [says_t ht hc (by omega) q18, bdS, if_neg nz1, a2]
    exact fin (S.h 2) 4 _ (by omega) (by omega) J25
  | false =>
    rw [says_f ht hc (by omega) q18, bdS, if_pos (show nI 0 = 0 from rfl)]
    cases q11 : isW tb S.t 11 with
    | true =>
      rw [says_t ht hc (by omega) q11, bdS, if_neg nz1, a3]
      exact fin (S.h 4) 6 _ (by omega) (by omega) J52
    | false =>
      rw [says_f ht hc (by omega) q11, bdS, if_pos (show nI 0 = 0 from rfl)]
      cases q6 : isW tb S.t 6 with
      | true =>
        rw [says_t ht hc (by omega) q6, bdS, if_neg nz1, a4]
        exact fin (S.h 5) 5 _ (by omega) (by omega) J78
      | false =>
        rw [says_f ht hc (by omega) q6, bdS, if_pos (show nI 0 = 0 from rfl)]
        cases q20 : isW tb S.t 20 with
        | true =>
          rw [says_t ht hc (by omega) q20, bdS, if_neg nz1, a5]
          exact fin (S.h 3) 7 _ (by omega) (by omega) J105
        | false =>
          rw [says_f ht hc (by omega) q20, bdS, if_pos (show nI 0 = 0 from rfl)]
          cases q21 : isW tb S.t 21 with
          | true =>
            rw [says_t ht hc (by omega) q21, bdS, if_neg nz1, show fX7_count vU = some (vU 0) from rfl, bdS, v0]
            exact fin (S.h 6) 6 _ (by omega) (by omega) J155
          | false =>
            rw [says_f ht hc (by omega) q21, bdS, if_pos (show nI 0 = 0 from rfl)]
            rw [a6]
            exact fin (S.h 7) 6 _ (by omega) (by omega) J155
theorem c_line_no (ht : TPR tb n tc tm) (hc : CS0 tb n S.t vR j) (hk : isKey tb S.t = false) : ∃ v, fX5_readLine j vR tc vH vU mn mp mf tN rN plc ut uc un uw fc kd sz d1 d2 wd srt nxt = some (nI 0, j, v, vH, vU, mn, mp, mf, tN, rN, plc, ut, uc, un, uw, fc, kd, sz, d1, d2, wd, srt, nxt) ∧ CF (1, S.t.at_) v ∧ KC vR v := by
  obtain ⟨v, e, hf, hkc⟩ := c_fails hc 1
  refine ⟨v, ?_, hf, hkc⟩
  have hk4 := hc.2.1.2.2.1
  have q8 : isW tb S.t 8 = false := by
    cases q : isW tb S.t 8 with
    | false => rfl
    | true => unfold isKey at hk; rw [q] at hk; cases hk
  have J29 : fX5_readLine_J29 j vR vH vU mn mp mf tN rN plc ut uc un uw fc kd sz d1 d2 wd srt nxt = some (nI 0, j, v, vH, vU, mn, mp, mf, tN, rN, plc, ut, uc, un, uw, fc, kd, sz, d1, d2, wd, srt, nxt) := by
    unfold fX5_readLine_J29
    rw [show fX5_fails j vR 1 = some (nI 0, v) from e, bdS]
    rfl
  unfold fX5_readLine
  rw [says_f ht hc (by omega) q8, bdS, if_pos (show nI 0 = 0 from rfl), J29]
  by_cases k2 : S.t.k = 2
  · rw [if_pos (show vR 7 = 1 by rw [show vR 7 = nI (ctok S.t.k) from hc.1.2.1, (ctok_1 hk4).mpr k2]; rfl), c_isName ht hc, bdS]
    have : isNm tb S.t = true := by
      unfold isNm
      rw [hk, k2]
      rfl
    rw [this, if_neg (show ¬ nI (if true = true then 1 else 0) = 0 by decide)]
  · rw [if_neg (show ¬ vR 7 = 1 from fun q => k2 ((ctok_1 hk4).mp (nI_inj (by have := ctok_le hk4; omega) (by omega) (hc.1.2.1.symm.trans q))))]
theorem c_line_key (ht : TPR tb n tc tm) (hc : CS0 tb n S.t vR j) (q8 : isW tb S.t 8 = false) (hk : isKey tb S.t = true) (k2 : S.t.k = 2) (h5 : vR 5 = nI (if S.h 0 = 0 then 0 else 1)) : (S.h 0 = 0 → ∃ v, fX5_readLine j vR tc vH vU mn mp mf tN rN plc ut uc un uw fc kd sz d1 d2 wd srt nxt = some (nI 0, j, v, vH, vU, mn, mp, mf, tN, rN, plc, ut, uc, un, uw, fc, kd, sz, d1, d2, wd, srt, nxt) ∧ CF (6, S.t.at_) v ∧ KC vR v) ∧ (0 < S.h 0 → fX5_isMany j vR tc vH vU = some (nI 1) → ∃ v, fX5_readLine j vR tc vH vU mn mp mf tN rN plc ut uc un uw fc kd sz d1 d2 wd srt nxt = some (nI 0, j, v, vH, vU, mn, mp, mf, tN, rN, plc, ut, uc, un, uw, fc, kd, sz, d1, d2, wd, srt, nxt) ∧ CF (5, S.t.at_) v ∧ KC vR v) ∧ (0 < S.h 0 → fX5_isMany j vR tc vH vU = some (nI 0) → fX5_readLine j vR tc vH vU mn mp mf tN rN plc ut uc un uw fc kd sz d1 d2 wd srt nxt = lnC j vR tc vH vU mn mp mf tN rN plc ut uc un uw fc kd sz d1 d2 wd srt nxt) := by
  have hk4 := hc.2.1.2.2.1
  have hnm : isNm tb S.t = false := by
    unfold isNm
    rw [hk, k2]
    rfl
  unfold fX5_readLine
  rw [says_f ht hc (by omega) q8, bdS, if_pos (show nI 0 = 0 from rfl), if_pos (show vR 7 = 1 by rw [show vR 7 = nI (ctok S.t.k) from hc.1.2.1, (ctok_1 hk4).mpr k2]; rfl), c_isName ht hc, bdS, hnm, if_pos (show nI (if false = true then 1 else 0) = 0 from rfl), h5]
  refine ⟨fun z => ?_, fun z hm => ?_, fun z hm => ?_⟩
  · obtain ⟨v, e, hf, hkc⟩ := c_fails hc 6
    refine ⟨v, ?_, hf, hkc⟩
    rw [if_pos z, if_pos (show nI 0 = 0 from rfl), show fX5_fails j vR 6 = some (nI 0, v) from e, bdS]
    rfl
  · obtain ⟨v, e, hf, hkc⟩ := c_fails hc 5
    refine ⟨v, ?_, hf, hkc⟩
    rw [if_neg (show ¬ S.h 0 = 0 by omega), if_neg nz1, hm, bdS, if_neg nz1, show fX5_fails j vR 5 = some (nI 0, v) from e, bdS]
    rfl
  · rw [if_neg (show ¬ S.h 0 = 0 by omega), if_neg nz1, hm, bdS, if_pos (show nI 0 = 0 from rfl)]
    rfl
theorem lnC_Ring (ht : TPR tb n tc tm) (hc : CS0 tb n S.t vR j)  (q18 : isW tb S.t 18 = true) {r : Int32} {j' : Int64} {vR' : Nat → Int32} {vH' : Nat → Int32} {rN' : Nat → Int64} {srt' : Nat → Int32} {plc' : Nat → Int32} {nxt' : Nat → Int32} (e : fX5_readRing j vR tc vH rN tN srt plc nxt = some (r, j', vR', vH', rN', srt', plc', nxt')) (hb : isB r = true) : lnC j vR tc vH vU mn mp mf tN rN plc ut uc un uw fc kd sz d1 d2 wd srt nxt = some (r, j', vR', vH', vU, mn, mp, mf, tN, rN', plc', ut, uc, un, uw, fc, kd, sz, d1, d2, wd, srt', nxt') := by
  unfold lnC
  rw [says_t ht hc (by omega) q18, bdS, if_neg nz1, e, bdS]
  simp only
  rw [hb, gdT]
theorem lnC_Narrow (ht : TPR tb n tc tm) (hc : CS0 tb n S.t vR j) (q18 : isW tb S.t 18 = false) (q11 : isW tb S.t 11 = true) {r : Int32} {j' : Int64} {vR' : Nat → Int32} {vH' : Nat → Int32} {wd' : Nat → Int32} (e : fX5_readNarrow j vR tc vH rN plc wd = some (r, j', vR', vH', wd')) (hb : isB r = true) : lnC j vR tc vH vU mn mp mf tN rN plc ut uc un uw fc kd sz d1 d2 wd srt nxt = some (r, j', vR', vH', vU, mn, mp, mf, tN, rN, plc, ut, uc, un, uw, fc, kd, sz, d1, d2, wd', srt, nxt) := by
  unfold lnC
  rw [says_f ht hc (by omega) q18, bdS, if_pos (show nI 0 = 0 from rfl), says_t ht hc (by omega) q11, bdS, if_neg nz1, e, bdS]
  simp only
  rw [hb, gdT]
theorem lnC_Door (ht : TPR tb n tc tm) (hc : CS0 tb n S.t vR j) (q18 : isW tb S.t 18 = false) (q11 : isW tb S.t 11 = false) (q6 : isW tb S.t 6 = true) {r : Int32} {j' : Int64} {vR' : Nat → Int32} {vH' : Nat → Int32} {d1' : Nat → Int32} {d2' : Nat → Int32} (e : fX5_readDoor j vR tc vH rN plc d1 d2 = some (r, j', vR', vH', d1', d2')) (hb : isB r = true) : lnC j vR tc vH vU mn mp mf tN rN plc ut uc un uw fc kd sz d1 d2 wd srt nxt = some (r, j', vR', vH', vU, mn, mp, mf, tN, rN, plc, ut, uc, un, uw, fc, kd, sz, d1', d2', wd, srt, nxt) := by
  unfold lnC
  rw [says_f ht hc (by omega) q18, bdS, if_pos (show nI 0 = 0 from rfl), says_f ht hc (by omega) q11, bdS, if_pos (show nI 0 = 0 from rfl), says_t ht hc (by omega) q6, bdS, if_neg nz1, e, bdS]
  simp only
  rw [hb, gdT]
theorem lnC_Thing (ht : TPR tb n tc tm) (hc : CS0 tb n S.t vR j) (q18 : isW tb S.t 18 = false) (q11 : isW tb S.t 11 = false) (q6 : isW tb S.t 6 = false) (q20 : isW tb S.t 20 = true) {r : Int32} {j' : Int64} {vR' : Nat → Int32} {vH' : Nat → Int32} {tN' : Nat → Int64} {fc' : Nat → Int32} {kd' : Nat → Int32} {sz' : Nat → Int32} (e : fX5_readThing j vR tc vH rN tN plc fc kd sz = some (r, j', vR', vH', tN', fc', kd', sz')) (hb : isB r = true) : lnC j vR tc vH vU mn mp mf tN rN plc ut uc un uw fc kd sz d1 d2 wd srt nxt = some (r, j', vR', vH', vU, mn, mp, mf, tN', rN, plc, ut, uc, un, uw, fc', kd', sz', d1, d2, wd, srt, nxt) := by
  unfold lnC
  rw [says_f ht hc (by omega) q18, bdS, if_pos (show nI 0 = 0 from rfl), says_f ht hc (by omega) q11, bdS, if_pos (show nI 0 = 0 from rfl), says_f ht hc (by omega) q6, bdS, if_pos (show nI 0 = 0 from rfl), says_t ht hc (by omega) q20, bdS, if_neg nz1, e, bdS]
  simp only
  rw [hb, gdT]
theorem lnC_Want (ht : TPR tb n tc tm) (hc : CS0 tb n S.t vR j) (q18 : isW tb S.t 18 = false) (q11 : isW tb S.t 11 = false) (q6 : isW tb S.t 6 = false) (q20 : isW tb S.t 20 = false) (q21 : isW tb S.t 21 = true) {r : Int32} {j' : Int64} {vR' : Nat → Int32} {vU' : Nat → Int32} {ut' : Nat → Int32} {uc' : Nat → Int32} {un' : Nat → Int32} {uw' : Nat → Int32} (e : fX5_readWant j vR tc vH tN rN plc vU ut uc un uw = some (r, j', vR', vU', ut', uc', un', uw')) (hb : isB r = true) : lnC j vR tc vH vU mn mp mf tN rN plc ut uc un uw fc kd sz d1 d2 wd srt nxt = some (r, j', vR', vH, vU', mn, mp, mf, tN, rN, plc, ut', uc', un', uw', fc, kd, sz, d1, d2, wd, srt, nxt) := by
  unfold lnC
  rw [says_f ht hc (by omega) q18, bdS, if_pos (show nI 0 = 0 from rfl), says_f ht hc (by omega) q11, bdS, if_pos (show nI 0 = 0 from rfl), says_f ht hc (by omega) q6, bdS, if_pos (show nI 0 = 0 from rfl), says_f ht hc (by omega) q20, bdS, if_pos (show nI 0 = 0 from rfl), says_t ht hc (by omega) q21, bdS, if_neg nz1, e, bdS]
  simp only
  unfold fX5_readLine_J138
  rw [hb, gdT]
theorem lnC_Mark (ht : TPR tb n tc tm) (hc : CS0 tb n S.t vR j) (q18 : isW tb S.t 18 = false) (q11 : isW tb S.t 11 = false) (q6 : isW tb S.t 6 = false) (q20 : isW tb S.t 20 = false) (q21 : isW tb S.t 21 = false) {r : Int32} {j' : Int64} {vR' : Nat → Int32} {vH' : Nat → Int32} {mn' : Nat → Int32} {mp' : Nat → Int32} {mf' : Nat → Int32} (e : fX5_readMark j vR tc vH mn mp mf = some (r, j', vR', vH', mn', mp', mf')) (hb : isB r = true) : lnC j vR tc vH vU mn mp mf tN rN plc ut uc un uw fc kd sz d1 d2 wd srt nxt = some (r, j', vR', vH', vU, mn', mp', mf', tN, rN, plc, ut, uc, un, uw, fc, kd, sz, d1, d2, wd, srt, nxt) := by
  unfold lnC
  rw [says_f ht hc (by omega) q18, bdS, if_pos (show nI 0 = 0 from rfl), says_f ht hc (by omega) q11, bdS, if_pos (show nI 0 = 0 from rfl), says_f ht hc (by omega) q6, bdS, if_pos (show nI 0 = 0 from rfl), says_f ht hc (by omega) q20, bdS, if_pos (show nI 0 = 0 from rfl), says_f ht hc (by omega) q21, bdS, if_pos (show nI 0 = 0 from rfl), e, bdS]
  simp only
  unfold fX5_readLine_J138
  rw [hb, gdT]
set_option maxHeartbeats 1600000 in
theorem j_line (ht : TPR tb n tc tm) (hj : JT tb n S vM lt fr vR j rN tN vH vU mn mp mf plc ut uc un uw fc kd sz d1 d2 wd srt nxt) : ∃ vM' lt' fr', fX9_readLine vM lt fr tm = some (vM', lt', fr') ∧ KM vM vM' ∧ ∃ r j' vR' vH' vU' mn' mp' mf' tN' rN' plc' ut' uc' un' uw' fc' kd' sz' d1' d2' wd' srt' nxt', fX5_readLine j vR tc vH vU mn mp mf tN rN plc ut uc un uw fc kd sz d1 d2 wd srt nxt = some (r, j', vR', vH', vU', mn', mp', mf', tN', rN', plc', ut', uc', un', uw', fc', kd', sz', d1', d2', wd', srt', nxt') ∧ KD vR vR' ∧ (JF vM' r vR' ∨ (r = nI 1 ∧ ∃ S', S.t.at_ ≤ S'.t.at_ ∧ JT tb n S' vM' lt' fr' vR' j' rN' tN' vH' vU' mn' mp' mf' plc' ut' uc' un' uw' fc' kd' sz' d1' d2' wd' srt' nxt')) := by
  have hj0 := hj
  obtain ⟨hm, hc, h5, hP, hR, hH⟩ := hj
  have hA := hP.1
  have isb : ∀ {vM' vR' : Nat → Int32} {r : Int32} {Q : Prop}, (JF vM' r vR' ∨ (r = nI 1 ∧ Q)) → isB r = true := by
    intro vM' vR' r Q q
    rcases q with ⟨e, -, rfl, -⟩ | ⟨rfl, -⟩ <;> rfl
  cases q8 : isW tb S.t 8 with
  | true =>
    obtain ⟨vM', fr', lt', e1, k1, r, j', vR', vH', e2, k2, q⟩ := j_house ht hj0
    refine ⟨vM', lt', fr', ?_, k1, r, j', vR', vH', vU, mn, mp, mf, tN, rN, plc, ut, uc, un, uw, fc, kd, sz, d1, d2, wd, srt, nxt, ?_, k2, ?_⟩
    · unfold fX9_readLine
      rw [m_isW ht hm (by omega), q8, bdS, if_neg (show ¬ nI (if true = true then 1 else 0) = 0 by decide), e1, bdS]
      rfl
    · unfold fX5_readLine
      rw [says_t ht hc (by omega) q8, bdS, if_neg nz1, e2, bdS]
      simp only
      rw [isb q, gdT]
    · exact q
  | false =>
    have hst : fX9_readLine vM lt fr tm = fX9_readLine_J34 vM lt fr tm (nI (if S.h 2 < 4 then 1 else 0)) := by
      unfold fX9_readLine
      rw [m_isW ht hm (by omega), q8, bdS, if_pos (show nI (if false = true then 1 else 0) = 0 from rfl), show okI (2 : Int32) 224 = true from rfl, gdT]
      exact m_cn hm (k := 2) (N := 4) (by omega) (by omega) (fun x => fX9_readLine_J34 vM lt fr tm x)
    have mny := c_isMany (vU := vU) ht hc hA hH.1 hH.2.1.1
    have b9 := hA.2.2.2.2.2.2.2.2.2
    rw [hst]
    cases q18 : isW tb S.t 18 with
    | true =>
      have hkey : isKey tb S.t = true := by unfold isKey; rw [q18]; simp
      have kk := c_line_key (vH := vH) (vU := vU) (mn := mn) (mp := mp) (mf := mf) (tN := tN) (rN := rN) (plc := plc) (ut := ut) (uc := uc) (un := un) (uw := uw) (fc := fc) (kd := kd) (sz := sz) (d1 := d1) (d2 := d2) (wd := wd) (srt := srt) (nxt := nxt) ht hc q8 hkey (isW_k q18) h5
      have mn1 : fX5_isMany j vR tc vH vU = some (nI (if S.h 2 < 4 then 0 else 1)) := by rw [mny, q18]; rfl
      obtain ⟨w', l', eb, kb, q⟩ := m_begins_y ht hm (show 18 < 22 by omega) q18 (S.h 2) 4
      rcases q with ⟨hcN, h0, s1⟩ | ⟨hcN, h0, hf, rfl⟩ | ⟨hcN, hf, rfl⟩
      · obtain ⟨vM', fr', lt', e1, k1, r, j', vR', vH', rN', srt', plc', nxt', e2, k2, q⟩ := j_ring ht (⟨s1, hc, h5, hP, hR, hH, h0⟩ : JK tb n S w' l' fr vR j rN tN vH vU mn mp mf plc ut uc un uw fc kd sz d1 d2 wd srt nxt) hcN
        refine ⟨vM', lt', fr', m_J34_y eb e1, kb.trans k1, r, j', vR', vH', vU, mn, mp, mf, tN, rN', plc', ut, uc, un, uw, fc, kd, sz, d1, d2, wd, srt', nxt', ?_, k2, q⟩
        rw [kk.2.2 h0 (by rw [mn1, if_pos hcN])]
        exact lnC_Ring ht hc q18 e2 (isb q)
      · obtain ⟨v, e, hcf, hkc⟩ := kk.1 h0
        exact ⟨w', _, _, m_J34_y eb (m_ringLine_f hf.1), kb, nI 0, j, v, vH, vU, mn, mp, mf, tN, rN, plc, ut, uc, un, uw, fc, kd, sz, d1, d2, wd, srt, nxt, e, hkc.d, Or.inl ⟨_, hf, rfl, hcf⟩⟩
      · have h0 : 0 < S.h 0 := by
          rcases Nat.eq_zero_or_pos (S.h 0) with z | z
          · have := b9 z; omega
          · exact z
        obtain ⟨v, e, hcf, hkc⟩ := kk.2.1 h0 (by rw [mn1, if_neg hcN])
        exact ⟨w', _, _, m_J34_y eb (m_ringLine_f hf.1), kb, nI 0, j, v, vH, vU, mn, mp, mf, tN, rN, plc, ut, uc, un, uw, fc, kd, sz, d1, d2, wd, srt, nxt, e, hkc.d, Or.inl ⟨_, hf, rfl, hcf⟩⟩
    | false =>
      rw [m_J34_n ht hm q18]
      cases q11 : isW tb S.t 11 with
      | true =>
        have hkey : isKey tb S.t = true := by unfold isKey; rw [q11]; simp
        have kk := c_line_key (vH := vH) (vU := vU) (mn := mn) (mp := mp) (mf := mf) (tN := tN) (rN := rN) (plc := plc) (ut := ut) (uc := uc) (un := un) (uw := uw) (fc := fc) (kd := kd) (sz := sz) (d1 := d1) (d2 := d2) (wd := wd) (srt := srt) (nxt := nxt) ht hc q8 hkey (isW_k q11) h5
        have mn1 : fX5_isMany j vR tc vH vU = some (nI (if S.h 4 < 6 then 0 else 1)) := by rw [mny, q18, q11]; rfl
        obtain ⟨w', l', eb, kb, q⟩ := m_begins_y ht hm (show 11 < 22 by omega) q11 (S.h 4) 6
        rcases q with ⟨hcN, h0, s1⟩ | ⟨hcN, h0, hf, rfl⟩ | ⟨hcN, hf, rfl⟩
        · obtain ⟨vM', lt', fr', e1, k1, r, j', vR', vH', wd', e2, k2, q⟩ := j_narrow ht (⟨s1, hc, h5, hP, hR, hH, h0⟩ : JK tb n S w' l' fr vR j rN tN vH vU mn mp mf plc ut uc un uw fc kd sz d1 d2 wd srt nxt) hcN
          refine ⟨vM', lt', fr', m_J66_y eb e1, kb.trans k1, r, j', vR', vH', vU, mn, mp, mf, tN, rN, plc, ut, uc, un, uw, fc, kd, sz, d1, d2, wd', srt, nxt, ?_, k2, q⟩
          rw [kk.2.2 h0 (by rw [mn1, if_pos hcN])]
          exact lnC_Narrow ht hc q18 q11 e2 (isb q)
        · obtain ⟨v, e, hcf, hkc⟩ := kk.1 h0
          exact ⟨w', _, _, m_J66_y eb (m_narrowLine_f hf.1), kb, nI 0, j, v, vH, vU, mn, mp, mf, tN, rN, plc, ut, uc, un, uw, fc, kd, sz, d1, d2, wd, srt, nxt, e, hkc.d, Or.inl ⟨_, hf, rfl, hcf⟩⟩
        · have h0 : 0 < S.h 0 := by
            rcases Nat.eq_zero_or_pos (S.h 0) with z | z
            · have := b9 z; omega
            · exact z
          obtain ⟨v, e, hcf, hkc⟩ := kk.2.1 h0 (by rw [mn1, if_neg hcN])
          exact ⟨w', _, _, m_J66_y eb (m_narrowLine_f hf.1), kb, nI 0, j, v, vH, vU, mn, mp, mf, tN, rN, plc, ut, uc, un, uw, fc, kd, sz, d1, d2, wd, srt, nxt, e, hkc.d, Or.inl ⟨_, hf, rfl, hcf⟩⟩
      | false =>
        rw [m_J66_n ht hm q11]
        cases q6 : isW tb S.t 6 with
        | true =>
          have hkey : isKey tb S.t = true := by unfold isKey; rw [q6]; simp
          have kk := c_line_key (vH := vH) (vU := vU) (mn := mn) (mp := mp) (mf := mf) (tN := tN) (rN := rN) (plc := plc) (ut := ut) (uc := uc) (un := un) (uw := uw) (fc := fc) (kd := kd) (sz := sz) (d1 := d1) (d2 := d2) (wd := wd) (srt := srt) (nxt := nxt) ht hc q8 hkey (isW_k q6) h5
          have mn1 : fX5_isMany j vR tc vH vU = some (nI (if S.h 5 < 5 then 0 else 1)) := by rw [mny, q18, q11, q6]; rfl
          obtain ⟨w', l', eb, kb, q⟩ := m_begins_y ht hm (show 6 < 22 by omega) q6 (S.h 5) 5
          rcases q with ⟨hcN, h0, s1⟩ | ⟨hcN, h0, hf, rfl⟩ | ⟨hcN, hf, rfl⟩
          · obtain ⟨vM', fr', lt', e1, k1, r, j', vR', vH', d1', d2', e2, k2, q⟩ := j_door ht (⟨s1, hc, h5, hP, hR, hH, h0⟩ : JK tb n S w' l' fr vR j rN tN vH vU mn mp mf plc ut uc un uw fc kd sz d1 d2 wd srt nxt) hcN
            refine ⟨vM', lt', fr', m_J97_y eb e1, kb.trans k1, r, j', vR', vH', vU, mn, mp, mf, tN, rN, plc, ut, uc, un, uw, fc, kd, sz, d1', d2', wd, srt, nxt, ?_, k2, q⟩
            rw [kk.2.2 h0 (by rw [mn1, if_pos hcN])]
            exact lnC_Door ht hc q18 q11 q6 e2 (isb q)
          · obtain ⟨v, e, hcf, hkc⟩ := kk.1 h0
            exact ⟨w', _, _, m_J97_y eb (m_doorLine_f hf.1), kb, nI 0, j, v, vH, vU, mn, mp, mf, tN, rN, plc, ut, uc, un, uw, fc, kd, sz, d1, d2, wd, srt, nxt, e, hkc.d, Or.inl ⟨_, hf, rfl, hcf⟩⟩
          · have h0 : 0 < S.h 0 := by
              rcases Nat.eq_zero_or_pos (S.h 0) with z | z
              · have := b9 z; omega
              · exact z
            obtain ⟨v, e, hcf, hkc⟩ := kk.2.1 h0 (by rw [mn1, if_neg hcN])
            exact ⟨w', _, _, m_J97_y eb (m_doorLine_f hf.1), kb, nI 0, j, v, vH, vU, mn, mp, mf, tN, rN, plc, ut, uc, un, uw, fc, kd, sz, d1, d2, wd, srt, nxt, e, hkc.d, Or.inl ⟨_, hf, rfl, hcf⟩⟩
        | false =>
          rw [m_J97_n ht hm q6]
          cases q20 : isW tb S.t 20 with
          | true =>
            have hkey : isKey tb S.t = true := by unfold isKey; rw [q20]; simp
            have kk := c_line_key (vH := vH) (vU := vU) (mn := mn) (mp := mp) (mf := mf) (tN := tN) (rN := rN) (plc := plc) (ut := ut) (uc := uc) (un := un) (uw := uw) (fc := fc) (kd := kd) (sz := sz) (d1 := d1) (d2 := d2) (wd := wd) (srt := srt) (nxt := nxt) ht hc q8 hkey (isW_k q20) h5
            have mn1 : fX5_isMany j vR tc vH vU = some (nI (if S.h 3 < 7 then 0 else 1)) := by rw [mny, q18, q11, q6, q20]; rfl
            obtain ⟨w', l', eb, kb, q⟩ := m_begins_y ht hm (show 20 < 22 by omega) q20 (S.h 3) 7
            rcases q with ⟨hcN, h0, s1⟩ | ⟨hcN, h0, hf, rfl⟩ | ⟨hcN, hf, rfl⟩
            · obtain ⟨vM', fr', lt', e1, k1, r, j', vR', vH', tN', fc', kd', sz', e2, k2, q⟩ := j_thing ht (⟨s1, hc, h5, hP, hR, hH, h0⟩ : JK tb n S w' l' fr vR j rN tN vH vU mn mp mf plc ut uc un uw fc kd sz d1 d2 wd srt nxt) hcN
              refine ⟨vM', lt', fr', m_J129_y eb e1, kb.trans k1, r, j', vR', vH', vU, mn, mp, mf, tN', rN, plc, ut, uc, un, uw, fc', kd', sz', d1, d2, wd, srt, nxt, ?_, k2, q⟩
              rw [kk.2.2 h0 (by rw [mn1, if_pos hcN])]
              exact lnC_Thing ht hc q18 q11 q6 q20 e2 (isb q)
            · obtain ⟨v, e, hcf, hkc⟩ := kk.1 h0
              exact ⟨w', _, _, m_J129_y eb (m_thingLine_f hf.1), kb, nI 0, j, v, vH, vU, mn, mp, mf, tN, rN, plc, ut, uc, un, uw, fc, kd, sz, d1, d2, wd, srt, nxt, e, hkc.d, Or.inl ⟨_, hf, rfl, hcf⟩⟩
            · have h0 : 0 < S.h 0 := by
                rcases Nat.eq_zero_or_pos (S.h 0) with z | z
                · have := b9 z; omega
                · exact z
              obtain ⟨v, e, hcf, hkc⟩ := kk.2.1 h0 (by rw [mn1, if_neg hcN])
              exact ⟨w', _, _, m_J129_y eb (m_thingLine_f hf.1), kb, nI 0, j, v, vH, vU, mn, mp, mf, tN, rN, plc, ut, uc, un, uw, fc, kd, sz, d1, d2, wd, srt, nxt, e, hkc.d, Or.inl ⟨_, hf, rfl, hcf⟩⟩
          | false =>
            rw [m_J129_n ht hm q20]
            cases q21 : isW tb S.t 21 with
            | true =>
              have hkey : isKey tb S.t = true := by unfold isKey; rw [q21]; simp
              have kk := c_line_key (vH := vH) (vU := vU) (mn := mn) (mp := mp) (mf := mf) (tN := tN) (rN := rN) (plc := plc) (ut := ut) (uc := uc) (un := un) (uw := uw) (fc := fc) (kd := kd) (sz := sz) (d1 := d1) (d2 := d2) (wd := wd) (srt := srt) (nxt := nxt) ht hc q8 hkey (isW_k q21) h5
              have mn1 : fX5_isMany j vR tc vH vU = some (nI (if S.h 6 < 6 then 0 else 1)) := by rw [mny, q18, q11, q6, q20, q21]; rfl
              obtain ⟨w', l', eb, kb, q⟩ := m_begins_y ht hm (show 21 < 22 by omega) q21 (S.h 6) 6
              rcases q with ⟨hcN, h0, s1⟩ | ⟨hcN, h0, hf, rfl⟩ | ⟨hcN, hf, rfl⟩
              · obtain ⟨vM', fr', lt', e1, k1, r, j', vR', vU', ut', uc', un', uw', e2, k2, q⟩ := j_want ht (⟨s1, hc, h5, hP, hR, hH, h0⟩ : JK tb n S w' l' fr vR j rN tN vH vU mn mp mf plc ut uc un uw fc kd sz d1 d2 wd srt nxt) hcN
                refine ⟨vM', lt', fr', m_J162_y eb e1, kb.trans k1, r, j', vR', vH, vU', mn, mp, mf, tN, rN, plc, ut', uc', un', uw', fc, kd, sz, d1, d2, wd, srt, nxt, ?_, k2, q⟩
                rw [kk.2.2 h0 (by rw [mn1, if_pos hcN])]
                exact lnC_Want ht hc q18 q11 q6 q20 q21 e2 (isb q)
              · obtain ⟨v, e, hcf, hkc⟩ := kk.1 h0
                exact ⟨w', _, _, m_J162_y eb (m_wantLine_f hf.1), kb, nI 0, j, v, vH, vU, mn, mp, mf, tN, rN, plc, ut, uc, un, uw, fc, kd, sz, d1, d2, wd, srt, nxt, e, hkc.d, Or.inl ⟨_, hf, rfl, hcf⟩⟩
              · have h0 : 0 < S.h 0 := by
                  rcases Nat.eq_zero_or_pos (S.h 0) with z | z
                  · have := b9 z; omega
                  · exact z
                obtain ⟨v, e, hcf, hkc⟩ := kk.2.1 h0 (by rw [mn1, if_neg hcN])
                exact ⟨w', _, _, m_J162_y eb (m_wantLine_f hf.1), kb, nI 0, j, v, vH, vU, mn, mp, mf, tN, rN, plc, ut, uc, un, uw, fc, kd, sz, d1, d2, wd, srt, nxt, e, hkc.d, Or.inl ⟨_, hf, rfl, hcf⟩⟩
            | false =>
              rw [m_J162_n ht hm q21]
              cases q7 : isW tb S.t 7 with
              | true =>
                have hkey : isKey tb S.t = true := by unfold isKey; rw [q7]; simp
                have kk := c_line_key (vH := vH) (vU := vU) (mn := mn) (mp := mp) (mf := mf) (tN := tN) (rN := rN) (plc := plc) (ut := ut) (uc := uc) (un := un) (uw := uw) (fc := fc) (kd := kd) (sz := sz) (d1 := d1) (d2 := d2) (wd := wd) (srt := srt) (nxt := nxt) ht hc q8 hkey (isW_k q7) h5
                have mn1 : fX5_isMany j vR tc vH vU = some (nI (if S.h 7 < 6 then 0 else 1)) := by rw [mny, q18, q11, q6, q20, q21]; rfl
                obtain ⟨w', l', eb, kb, q⟩ := m_begins_y ht hm (show 7 < 22 by omega) q7 (S.h 7) 6
                rcases q with ⟨hcN, h0, s1⟩ | ⟨hcN, h0, hf, rfl⟩ | ⟨hcN, hf, rfl⟩
                · obtain ⟨vM', fr', lt', e1, k1, r, j', vR', vH', mn', mp', mf', e2, k2, q⟩ := j_mark ht (⟨s1, hc, h5, hP, hR, hH, h0⟩ : JK tb n S w' l' fr vR j rN tN vH vU mn mp mf plc ut uc un uw fc kd sz d1 d2 wd srt nxt) hcN (f := true) q7
                  refine ⟨vM', lt', fr', m_J195_y eb e1, kb.trans k1, r, j', vR', vH', vU, mn', mp', mf', tN, rN, plc, ut, uc, un, uw, fc, kd, sz, d1, d2, wd, srt, nxt, ?_, k2, q⟩
                  rw [kk.2.2 h0 (by rw [mn1, if_pos hcN])]
                  exact lnC_Mark ht hc q18 q11 q6 q20 q21 e2 (isb q)
                · obtain ⟨v, e, hcf, hkc⟩ := kk.1 h0
                  exact ⟨w', _, _, m_J195_y eb (m_boxLine_f hf.1 _), kb, nI 0, j, v, vH, vU, mn, mp, mf, tN, rN, plc, ut, uc, un, uw, fc, kd, sz, d1, d2, wd, srt, nxt, e, hkc.d, Or.inl ⟨_, hf, rfl, hcf⟩⟩
                · have h0 : 0 < S.h 0 := by
                    rcases Nat.eq_zero_or_pos (S.h 0) with z | z
                    · have := b9 z; omega
                    · exact z
                  obtain ⟨v, e, hcf, hkc⟩ := kk.2.1 h0 (by rw [mn1, if_neg hcN])
                  exact ⟨w', _, _, m_J195_y eb (m_boxLine_f hf.1 _), kb, nI 0, j, v, vH, vU, mn, mp, mf, tN, rN, plc, ut, uc, un, uw, fc, kd, sz, d1, d2, wd, srt, nxt, e, hkc.d, Or.inl ⟨_, hf, rfl, hcf⟩⟩
              | false =>
                rw [m_J195_n ht hm q7]
                cases q10 : isW tb S.t 10 with
                | true =>
                  have hkey : isKey tb S.t = true := by unfold isKey; rw [q10]; simp
                  have kk := c_line_key (vH := vH) (vU := vU) (mn := mn) (mp := mp) (mf := mf) (tN := tN) (rN := rN) (plc := plc) (ut := ut) (uc := uc) (un := un) (uw := uw) (fc := fc) (kd := kd) (sz := sz) (d1 := d1) (d2 := d2) (wd := wd) (srt := srt) (nxt := nxt) ht hc q8 hkey (isW_k q10) h5
                  have mn1 : fX5_isMany j vR tc vH vU = some (nI (if S.h 7 < 6 then 0 else 1)) := by rw [mny, q18, q11, q6, q20, q21]; rfl
                  obtain ⟨w', l', eb, kb, q⟩ := m_begins_y ht hm (show 10 < 22 by omega) q10 (S.h 7) 6
                  rcases q with ⟨hcN, h0, s1⟩ | ⟨hcN, h0, hf, rfl⟩ | ⟨hcN, hf, rfl⟩
                  · obtain ⟨vM', fr', lt', e1, k1, r, j', vR', vH', mn', mp', mf', e2, k2, q⟩ := j_mark ht (⟨s1, hc, h5, hP, hR, hH, h0⟩ : JK tb n S w' l' fr vR j rN tN vH vU mn mp mf plc ut uc un uw fc kd sz d1 d2 wd srt nxt) hcN (f := false) q7
                    refine ⟨vM', lt', fr', m_J229_y eb e1, kb.trans k1, r, j', vR', vH', vU, mn', mp', mf', tN, rN, plc, ut, uc, un, uw, fc, kd, sz, d1, d2, wd, srt, nxt, ?_, k2, q⟩
                    rw [kk.2.2 h0 (by rw [mn1, if_pos hcN])]
                    exact lnC_Mark ht hc q18 q11 q6 q20 q21 e2 (isb q)
                  · obtain ⟨v, e, hcf, hkc⟩ := kk.1 h0
                    exact ⟨w', _, _, m_J229_y eb (m_boxLine_f hf.1 _), kb, nI 0, j, v, vH, vU, mn, mp, mf, tN, rN, plc, ut, uc, un, uw, fc, kd, sz, d1, d2, wd, srt, nxt, e, hkc.d, Or.inl ⟨_, hf, rfl, hcf⟩⟩
                  · have h0 : 0 < S.h 0 := by
                      rcases Nat.eq_zero_or_pos (S.h 0) with z | z
                      · have := b9 z; omega
                      · exact z
                    obtain ⟨v, e, hcf, hkc⟩ := kk.2.1 h0 (by rw [mn1, if_neg hcN])
                    exact ⟨w', _, _, m_J229_y eb (m_boxLine_f hf.1 _), kb, nI 0, j, v, vH, vU, mn, mp, mf, tN, rN, plc, ut, uc, un, uw, fc, kd, sz, d1, d2, wd, srt, nxt, e, hkc.d, Or.inl ⟨_, hf, rfl, hcf⟩⟩
                | false =>
                  obtain ⟨w', ew, hf, hk⟩ := m_J229_n ht hm q10 (nI (if S.h 7 < 6 then 1 else 0))
                  obtain ⟨v, e, hcf, hkc⟩ := c_line_no (vH := vH) (vU := vU) (mn := mn) (mp := mp) (mf := mf) (tN := tN) (rN := rN) (plc := plc) (ut := ut) (uc := uc) (un := un) (uw := uw) (fc := fc) (kd := kd) (sz := sz) (d1 := d1) (d2 := d2) (wd := wd) (srt := srt) (nxt := nxt) ht hc (by unfold isKey; rw [q8, q18, q11, q6, q20, q21, q7, q10]; rfl)
                  exact ⟨w', lt, fr, ew, hk, nI 0, j, v, vH, vU, mn, mp, mf, tN, rN, plc, ut, uc, un, uw, fc, kd, sz, d1, d2, wd, srt, nxt, e, hkc.d, Or.inl ⟨_, hf, rfl, hcf⟩⟩
end JL8
