/-! MATH 11: arguments of any value; the reference's small methods -/
theorem ge_lt {n : Nat} {x : Int32} (hn : n + 1 < 2 ^ 31) (h : nI (n + 1) ≤ x) : nI n < x := by
  rw [Int32.lt_iff_toInt_lt]
  rw [Int32.le_iff_toInt_le] at h
  rw [nI_toInt hn] at h
  rw [nI_toInt (by omega)]
  omega
theorem ge_nle {n : Nat} {x : Int32} (hn : n + 1 < 2 ^ 31) (h : nI (n + 1) ≤ x) : ¬ x ≤ nI n := by
  have := ge_lt hn h
  rw [Int32.lt_iff_toInt_lt] at this
  rw [Int32.le_iff_toInt_le]
  omega
theorem ge_nneg {n : Nat} {x : Int32} (hn : n < 2 ^ 31) (h : nI n ≤ x) : ¬ x < nI 0 := by
  rw [Int32.le_iff_toInt_le, nI_toInt hn] at h
  rw [Int32.lt_iff_toInt_lt, nI_toInt (by omega)]
  omega
theorem le_trans32 {x y z : Int32} (h1 : x ≤ y) (h2 : y ≤ z) : x ≤ z := by
  rw [Int32.le_iff_toInt_le] at *
  omega
theorem ge_ne {n j : Nat} {x : Int32} (hn : n < 2 ^ 31) (h : nI n ≤ x) (hj : j < n) : ¬ x = nI j := by
  intro e
  rw [e] at h
  exact nI_ge hj hn h
theorem neg_ne {j : Nat} {x : Int32} (h : x < 0) (hj : j < 2 ^ 31) : ¬ x = nI j := by
  intro e
  rw [e] at h
  exact nI_pos hj h
theorem pred_toInt {n : Nat} (hn : n < 2 ^ 30) : (nI n - nI 1).toInt = (n : Int) - 1 := pk_sub_toInt hn (by decide)
/-- in(x, 0, n - 1) -/
theorem m_in_t {n j : Nat} (hn : n < 2 ^ 30) (hj : j < n) : fX9_in (nI j) (nI 0) (nI n - nI 1) = some (nI 1) := by
  rw [pk_sub (by omega)]
  simp (disch := omega) only [fX9_in, fX9_in_J14, fX9_in_J15, nlit, nI_ltI, isB_1, gdT]
  rw [if_neg (by omega), if_neg (by omega)]
theorem m_in_f {n : Nat} {x : Int32} (hn : n < 2 ^ 30) (h : x < 0 ∨ nI n ≤ x) : fX9_in x (nI 0) (nI n - nI 1) = some (nI 0) := by
  unfold fX9_in fX9_in_J14 fX9_in_J15
  rcases h with h | h
  · rw [if_pos (show x < nI 0 from h)]
    rfl
  · rw [if_neg (ge_nneg (by omega) h), if_pos]
    · rfl
    · rw [Int32.lt_iff_toInt_lt, pred_toInt hn]
      rw [Int32.le_iff_toInt_le, nI_toInt (by omega)] at h
      omega
/-- in(x, 0, n) -/
theorem m_inn_t {n j : Nat} (hn : n < 2 ^ 30) (hj : j ≤ n) : fX9_in (nI j) (nI 0) (nI n) = some (nI 1) := by
  simp (disch := omega) only [fX9_in, fX9_in_J14, fX9_in_J15, nlit, nI_ltI, isB_1, gdT]
  rw [if_neg (by omega), if_neg (by omega)]
theorem m_inn_f {n : Nat} {x : Int32} (hn : n < 2 ^ 30) (h : x < 0 ∨ nI (n + 1) ≤ x) : fX9_in x (nI 0) (nI n) = some (nI 0) := by
  unfold fX9_in fX9_in_J14 fX9_in_J15
  rcases h with h | h
  · rw [if_pos (show x < nI 0 from h)]
    rfl
  · rw [if_neg (ge_nneg (by omega) h), if_pos (ge_lt (by omega) h)]
    rfl
section MQ1
variable {h c : Nat → Nat} {vM r st trial : Nat → Int32}
theorem m_copy {n0 n2 a b k : Nat} {p0 p2 : Nat → Int32} (h1 : a + k ≤ n0) (h2 : b + k ≤ n2) (h3 : n0 < 4000) (h4 : n2 < 4000) : ∃ p', fX9_copy n0 p0 n2 p2 (nI a) (nI b) (nI k) = some p' ∧ ∀ j, p' j = if b ≤ j ∧ j < b + k then p0 (a + (j - b)) else p2 j := by
  unfold fX9_copy
  refine lp_inv (f := fX9_copy_B3 n0 p0 n2 (nI a) (nI b) (nI k)) (fun i s => ∃ p', s = (nI i, p') ∧ ∀ j, p' j = if b ≤ j ∧ j < b + i then p0 (a + (j - b)) else p2 j) (fun p' => ∀ j, p' j = if b ≤ j ∧ j < b + k then p0 (a + (j - b)) else p2 j) k ?_ ?_ 5000 0 (nI 0, p2) (Nat.zero_le _) ⟨p2, rfl, fun j => by rw [if_neg (by omega)]⟩ (by omega)
  · rintro i s hi ⟨p', rfl, hp⟩
    left
    simp (disch := omega) only [fX9_copy_B3, nlit, nI_leI, nI_add, ok_nI, gdT, nI_clamp]
    rw [if_neg (by omega)]
    refine ⟨_, rfl, _, rfl, fun j => ?_⟩
    unfold upd
    by_cases hj : j = b + i
    · rw [if_pos hj, if_pos (by omega)]
      congr 1
      omega
    · rw [if_neg hj, hp j]
      by_cases hb : b ≤ j ∧ j < b + i
      · rw [if_pos hb, if_pos (by omega)]
      · rw [if_neg hb, if_neg (by omega)]
  · rintro s ⟨p', rfl, hp⟩
    simp (disch := omega) only [fX9_copy_B3, nlit, nI_leI, exS]
    rw [if_pos (Nat.le_refl _)]
    exact ⟨_, rfl, hp⟩
theorem m_begin (hst : ∀ k, k < 9 → st k = nI (c k)) : ∃ t', fX9_begin vM st trial = some t' ∧ ∀ k, k < 9 → t' k = nI (c k) := by
  obtain ⟨p', e, hp⟩ := m_copy (n0 := 9) (n2 := 9) (a := 0) (b := 0) (k := 9) (p0 := st) (p2 := trial) (by omega) (by omega) (by omega) (by omega)
  refine ⟨p', ?_, fun k hk => ?_⟩
  · unfold fX9_begin
    simp only [nlit]
    rw [e, bdS]
  · rw [hp k, if_pos (by omega)]
    simpa using hst k hk
theorem m_isThing_t (hw : WFh h) (hr : ∀ k, k < 224 → r k = nI (h k)) (h14 : vM 14 = nI 1) {t : Nat} (ht : t < h 3) : fX9_isThing vM r (nI t) = some (nI 1) := by
  have h3 := hw.2.2.2.2.2.1
  simp (disch := omega) only [fX9_isThing, fX9_isThing_J27, fX9_isThing_J28, nlit, h14, nI_eq, Nat.one_ne_zero, if_false, ok_nI, gdT, nI_clamp, hr, m_in_t (show h 3 < 2 ^ 30 by omega) ht, bdS, isB_1]
theorem m_isThing_f (hw : WFh h) (hr : ∀ k, k < 224 → r k = nI (h k)) (h14 : vM 14 = nI 1) {x : Int32} (hx : x < 0 ∨ nI (h 3) ≤ x) : fX9_isThing vM r x = some (nI 0) := by
  have h3 := hw.2.2.2.2.2.1
  simp (disch := omega) only [fX9_isThing, fX9_isThing_J27, fX9_isThing_J28, nlit, h14, nI_eq, Nat.one_ne_zero, if_false, ok_nI, gdT, nI_clamp, hr, m_in_f (show h 3 < 2 ^ 30 by omega) hx, bdS, isB_0, if_true]
theorem m_isThing_n (h14 : vM 14 = nI 0) (x : Int32) : fX9_isThing vM r x = some (nI 0) := by
  simp only [fX9_isThing, fX9_isThing_J27, fX9_isThing_J28, nlit, h14, if_true, isB_0, gdT]
theorem m_isRing_t (hw : WFh h) (hr : ∀ k, k < 224 → r k = nI (h k)) (h14 : vM 14 = nI 1) {g : Nat} (hg : g < h 2) : fX9_isRing vM r (nI g) = some (nI 1) := by
  have h2 := hw.2.2.2.2.1
  simp (disch := omega) only [fX9_isRing, fX9_isRing_J27, fX9_isRing_J28, nlit, h14, nI_eq, Nat.one_ne_zero, if_false, ok_nI, gdT, nI_clamp, hr, m_in_t (show h 2 < 2 ^ 30 by omega) hg, bdS, isB_1]
theorem m_isRing_f (hw : WFh h) (hr : ∀ k, k < 224 → r k = nI (h k)) (h14 : vM 14 = nI 1) {x : Int32} (hx : x < 0 ∨ nI (h 2) ≤ x) : fX9_isRing vM r x = some (nI 0) := by
  have h2 := hw.2.2.2.2.1
  simp (disch := omega) only [fX9_isRing, fX9_isRing_J27, fX9_isRing_J28, nlit, h14, nI_eq, Nat.one_ne_zero, if_false, ok_nI, gdT, nI_clamp, hr, m_in_f (show h 2 < 2 ^ 30 by omega) hx, bdS, isB_0, if_true]
theorem m_isRing_n (h14 : vM 14 = nI 0) (x : Int32) : fX9_isRing vM r x = some (nI 0) := by
  simp only [fX9_isRing, fX9_isRing_J27, fX9_isRing_J28, nlit, h14, if_true, isB_0, gdT]
theorem m_isPlace_t (hw : WFh h) (hr : ∀ k, k < 224 → r k = nI (h k)) (h14 : vM 14 = nI 1) {g y : Nat} (hg : g < h 2) (hy : y < pl h g) : fX9_isPlace vM r (nI g) (nI y) = some (nI 1) := by
  have h2 := hw.2.2.2.2.1
  have hp := (hw.2.2.2.2.2.2.2.2.2.1 g hg).2
  simp (disch := omega) only [fX9_isPlace, fX9_isPlace_J35, fX9_isPlace_J36, m_isRing_t hw hr h14 hg, bdS, nlit, nI_eq, Nat.one_ne_zero, if_false, pk_mul, nI_add, ok_nI, gdT, nI_clamp, hr]
  rw [show h (8 + 2 * g + 1) = pl h g from rfl, m_in_t (by omega) hy, bdS]
  simp (disch := omega) only [nI_eq, Nat.one_ne_zero, if_false, isB_1, gdT]
theorem m_isPlace_f (hw : WFh h) (hr : ∀ k, k < 224 → r k = nI (h k)) (h14 : vM 14 = nI 1) {g : Nat} {y : Int32} (hg : g < h 2) (hy : y < 0 ∨ nI (pl h g) ≤ y) : fX9_isPlace vM r (nI g) y = some (nI 0) := by
  have h2 := hw.2.2.2.2.1
  have hp := (hw.2.2.2.2.2.2.2.2.2.1 g hg).2
  simp (disch := omega) only [fX9_isPlace, fX9_isPlace_J35, fX9_isPlace_J36, m_isRing_t hw hr h14 hg, bdS, nlit, nI_eq, Nat.one_ne_zero, if_false, pk_mul, nI_add, ok_nI, gdT, nI_clamp, hr]
  rw [show h (8 + 2 * g + 1) = pl h g from rfl, m_in_f (by omega) hy, bdS]
  simp only [if_true, isB_0, gdT]
theorem m_isPlace_r {x : Int32} (y : Int32) (hx : fX9_isRing vM r x = some (nI 0)) : fX9_isPlace vM r x y = some (nI 0) := by
  simp only [fX9_isPlace, fX9_isPlace_J35, fX9_isPlace_J36, hx, bdS, nlit, if_true, isB_0, gdT]
end MQ1
