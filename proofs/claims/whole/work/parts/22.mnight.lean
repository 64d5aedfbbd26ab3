/-! MATH 3: the reference's night -/
section MN
variable {h c : Nat → Nat} {vM r p : Nat → Int32}
theorem m_sortOf (hr : ∀ k, k < 224 → r k = nI (h k)) {g : Nat} (hg : g < 4) : fX9_sortOf vM r (nI g) = some (nI (so h g)) := by
  simp (disch := omega) only [fX9_sortOf, nlit, pk_mul, nI_add, ok_nI, gdT, nI_clamp, hr, so]
theorem m_placesOf (hr : ∀ k, k < 224 → r k = nI (h k)) {g : Nat} (hg : g < 4) : fX9_placesOf vM r (nI g) = some (nI (pl h g)) := by
  simp (disch := omega) only [fX9_placesOf, nlit, pk_mul, nI_add, ok_nI, gdT, nI_clamp, hr, pl]
theorem m_kindOf (hr : ∀ k, k < 224 → r k = nI (h k)) {t : Nat} (ht : t < 7) : fX9_kindOf vM r (nI t) = some (nI (h (62 + 3 * t))) := by
  simp (disch := omega) only [fX9_kindOf, nlit, pk_mul, nI_add, ok_nI, gdT, nI_clamp, hr]
theorem m_hasBit {a t : Nat} (ha : a < 2 ^ 31) (ht : t < 32) : fX9_hasBit (nI a) (nI t) = some (nI (if a.testBit t then 1 else 0)) := by
  unfold fX9_hasBit
  rw [nlit, bit_nI ha ht]
  by_cases hb : a.testBit t
  · simp only [hb, if_true]; rfl
  · simp only [hb]; rfl
theorem m_aheadOf (hw : WFh h) (hr : ∀ k, k < 224 → r k = nI (h k)) {x : Nat} (hx : okc h x) : fX9_aheadOf vM r (nI x) = some (nI (ah h x)) := by
  have hx36 := okc_lt hw hx
  obtain ⟨hb, -, -, -, h2, -, -, -, -, hp, -⟩ := hw
  obtain ⟨h3, h4⟩ := hx
  obtain ⟨p1, p2⟩ := hp _ h3
  have hs : so h (x / 9) < 1000 := hb _ (by omega)
  simp (disch := omega) only [fX9_aheadOf, fX9_aheadOf_J47, nlit, pk_div, m_placesOf hr, m_sortOf hr, bdS, nI_eq, nz_nI, gdT, irm_nI, nI_add, pk_sub, pk_mul]
  unfold ah
  split <;> rfl
theorem m_thingAt (hr : ∀ k, k < 224 → r k = nI (h k)) (hn : h 3 ≤ 7) (hp : ∀ k, k < 9 → p k = nI (c k)) (hc : ∀ t, t < h 3 → c t < 36) {x : Nat} (hx : x < 36) : fX9_thingAt vM r 9 p (nI x) = some (match fnd (fun u => c u == x) (h 3) with | some u => nI u | none => -2) := by
  have key : ∀ i, i < h 3 → fX9_thingAt_B2 r 9 p (nI x) (nI i) = if c i = x then some (.inl (nI i)) else some (.inr (nI (i + 1))) := by
    intro i hi
    have := hc i hi
    simp (disch := omega) only [fX9_thingAt_B2, nlit, ok_nI, gdT, nI_clamp, hr, hp, nI_leI, nI_eq, nI_add, exS]
    rw [if_neg (by omega)]
  have hend : fX9_thingAt_B2 r 9 p (nI x) (nI (h 3)) = some (.inl (-2)) := by
    simp (disch := omega) only [fX9_thingAt_B2, nlit, ok_nI, gdT, nI_clamp, hr, nI_leI, exS]
    rw [if_pos (Nat.le_refl _)]
  unfold fX9_thingAt
  cases hf : fnd (fun u => c u == x) (h 3) with
  | none =>
    have hno := fnd_none hf
    exact lp_for (fun i => nI i) (h 3) (fun i hi => by rw [key i hi, if_neg (by simpa using hno i hi)]) hend (by omega) rfl
  | some u =>
    obtain ⟨h1, h2, h3'⟩ := fnd_some hf
    exact lp_for (fun i => nI i) u (fun i hi => by rw [key i (by omega), if_neg (by simpa using h3' i hi)]) (by rw [key u h1, if_pos (by simpa using h2)]) (by omega) rfl
theorem m_isCome (hw : WFh h) (hr : ∀ k, k < 224 → r k = nI (h k)) (hp : ∀ k, k < 9 → p k = nI (c k)) (hc : okRow h c) {t : Nat} (ht : t < h 3) : fX9_isCome 9 p vM r (nI t) = some (nI (if come h c t then 1 else 0)) := by
  obtain ⟨hc1, -, hc8⟩ := hc
  have hx36 := okc_lt hw (hc1 t ht)
  obtain ⟨hb, h0, h0', -, h2, h3, -, -, -, -, -⟩ := hw
  obtain ⟨h4, h5⟩ := hc1 t ht
  have hs : so h (c t / 9) < 1000 := hb _ (by omega)
  have hmm : (c 8 + 1) % h 0 < 5 := Nat.lt_of_lt_of_le (Nat.mod_lt _ (by omega)) h0'
  simp (disch := omega) only [fX9_isCome, fX9_isCome_J30, fX9_isCome_J35, nlit, ok_nI, gdT, nI_clamp, hr, hp, pk_div, m_sortOf hr, bdS, nI_eq, nz_nI, nI_add, irm_nI, isB_0, isB_1]
  unfold come
  by_cases e1 : so h (c t / 9) = 1
  · by_cases e2 : (c 8 + 1) % h 0 = 0
    · simp [e1, e2]
    · simp [e1, e2]
  · simp [e1]
theorem m_fixed (hw : WFh h) (hr : ∀ k, k < 224 → r k = nI (h k)) (hp : ∀ k, k < 9 → p k = nI (c k)) (hc : okRow h c) : fX9_fixed vM r 9 p = some (nI (bm (own h c) (h 3))) := by
  have hw0 := hw
  obtain ⟨hc1, hc7, hc8⟩ := hc
  obtain ⟨hb, h0, h0', -, h2, h3, -, -, -, -, -⟩ := hw
  have h7 : c 7 < 2 ^ 31 := Nat.lt_of_lt_of_le hc7 (Nat.pow_le_pow_right (n := 2) (by omega) (by omega))
  have J1 : ∀ (m i y : Nat), m < 2 ^ 31 → i < 7 → fX9_fixed_J72 vM r (nI m) (nI i) (nI y) = some (.inr (nI (m ||| 2 ^ i), nI (i + 1))) := by
    intro m i y hm hi
    simp (disch := omega) only [fX9_fixed_J72, fX9_fixed_J77, fX9_fixed_J118, fX9_fixed_J123, fX9_fixed_J138, nlit, nI_eq, isl_1, nI_or, nI_add]
    rfl
  have J0 : ∀ (m i y : Nat), m < 2 ^ 31 → i < 7 → y < 1000 → fX9_fixed_J76 vM r (nI m) (nI i) (nI y) = some (.inr (nI (m ||| if (h (62 + 3 * i) != 3 && decide (0 < y) && decide (y - 1 < h (62 + 3 * i + 2))) then 2 ^ i else 0), nI (i + 1))) := by
    intro m i y hm hi hy
    have hk : h (62 + 3 * i) < 1000 := hb _ (by omega)
    have hz : h (62 + 3 * i + 2) < 1000 := hb _ (by omega)
    have n1 : fX9_fixed_J122 (nI m) (nI i) = some (.inr (nI (m ||| 0), nI (i + 1))) := by
      simp (disch := omega) only [fX9_fixed_J122, fX9_fixed_J123, fX9_fixed_J138, nlit, nI_eq, isl_1, nI_or, nI_add, if_true]
    have n2 : fX9_fixed_J118 (nI m) (nI i) = some (.inr (nI (m ||| 2 ^ i), nI (i + 1))) := by
      simp (disch := omega) only [fX9_fixed_J118, fX9_fixed_J123, fX9_fixed_J138, nlit, nI_eq, isl_1, nI_or, nI_add]
      rfl
    simp (disch := omega) only [fX9_fixed_J76, fX9_fixed_J77, nlit, m_kindOf hr, bdS, nI_eq, nI_leI, n1, n2, if_true, pk_mul, nI_add, ok_nI, gdT, nI_clamp, hr]
    by_cases e7 : h (62 + 3 * i) = 3
    · simp [e7]
    · by_cases e8 : y = 0
      · simp [e7, e8]
      · rw [pk_sub (by omega), if_neg e7, if_neg (by omega)]
        simp (disch := omega) only [nI_leI]
        by_cases e9 : h (62 + 3 * i + 2) ≤ y - 1
        · rw [if_pos e9]
          simp [show ¬ y - 1 < h (62 + 3 * i + 2) by omega]
        · rw [if_neg e9]
          simp [e7, show y - 1 < h (62 + 3 * i + 2) by omega, show 0 < y by omega]
  unfold fX9_fixed
  refine lp_for (fun i => (nI (bm (own h c) i), nI i)) (h 3) ?_ ?_ (by omega) rfl
  · intro i hi
    have hok := hc1 i hi
    have hx36 := okc_lt hw0 hok
    have ha := ah_ok hw0 hok
    have ha36 := okc_lt hw0 ha.1
    have hk : h (62 + 3 * i) < 1000 := hb _ (by omega)
    have hnw : h (16 + ah h (c i)) < 1000 := hb _ (by omega)
    have hbm : bm (own h c) i < 2 ^ 31 := Nat.lt_of_lt_of_le (bm_7 _ (by omega)) (by decide)
    simp (disch := omega) only [fX9_fixed_B4, J1, J0, nlit, ok_nI, gdT, nI_clamp, hr, hp, nI_leI, m_aheadOf hw0 hr hok, bdS, m_hasBit, m_kindOf hr, nI_eq, nI_add, irm_nI]
    rw [if_neg (by omega)]
    have e : bm (own h c) (i + 1) = bm (own h c) i ||| (if own h c i then 2 ^ i else 0) := rfl
    rw [e]
    unfold own
    by_cases e1 : (c 7).testBit i = true
    · simp [e1, n10]
    · by_cases e2 : h (62 + 3 * i) = 2
      · simp [e1, e2]
      · by_cases e3 : h (62 + 3 * i) = 1
        · by_cases e5 : (c 8 + 1) % 9 = 0
          · simp [e1, e3, e5]
          · simp [e1, e3, e5]
        · simp [e1, e2, e3]
  · simp (disch := omega) only [fX9_fixed_B4, nlit, ok_nI, gdT, nI_clamp, hr, nI_leI, exS]
    rw [if_pos (Nat.le_refl _)]
end MN
