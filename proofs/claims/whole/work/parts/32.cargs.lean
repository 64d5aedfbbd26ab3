/-! MATH 12: the class's small methods, for arguments of any value -/
section CA
variable {h c : Nat → Nat} {vH plc vN : Nat → Int32}
theorem c_hasRing_t (h2 : h 2 ≤ 4) (v2 : vH 2 = nI (h 2)) {g : Nat} (hg : g < h 2) : fX4_hasRing vH (nI g) = some (nI 1) := by
  simp (disch := omega) only [fX4_hasRing, fX4_hasRing_J21, fX4_hasRing_J22, nlit, v2, nI_ltI, nI_leI, isB_1, gdT]
  rw [if_neg (by omega), if_neg (by omega), if_neg (by omega)]
theorem c_hasRing_f (h2 : h 2 ≤ 4) (v2 : vH 2 = nI (h 2)) {x : Int32} (hx : x < 0 ∨ nI (h 2) ≤ x) : fX4_hasRing vH x = some (nI 0) := by
  unfold fX4_hasRing fX4_hasRing_J21 fX4_hasRing_J22
  rw [v2]
  rcases hx with hx | hx
  · rw [if_pos hx]; rfl
  · rw [if_neg (show ¬ x < 0 from ge_nneg (by omega) hx), if_pos hx]; rfl
theorem c_hasThing_t (h3 : h 3 ≤ 7) (v5 : vH 5 = nI (h 3)) {t : Nat} (ht : t < h 3) : fX4_hasThing vH (nI t) = some (nI 1) := by
  simp (disch := omega) only [fX4_hasThing, fX4_hasThing_J22, fX4_hasThing_J23, nlit, v5, nI_ltI, nI_leI, isB_1, gdT]
  rw [if_neg (by omega), if_neg (by omega), if_neg (by omega)]
theorem c_hasThing_f (h3 : h 3 ≤ 7) (v5 : vH 5 = nI (h 3)) {x : Int32} (hx : x < 0 ∨ nI (h 3) ≤ x) : fX4_hasThing vH x = some (nI 0) := by
  unfold fX4_hasThing fX4_hasThing_J22 fX4_hasThing_J23
  rw [v5]
  rcases hx with hx | hx
  · rw [if_pos hx]; rfl
  · rw [if_neg (show ¬ x < 0 from ge_nneg (by omega) hx), if_pos hx]; rfl
theorem c_hasPlace_t (h2 : h 2 ≤ 4) (v2 : vH 2 = nI (h 2)) {g y : Nat} (hg : g < h 2) (hp : plc g = nI (pl h g)) (h9 : pl h g ≤ 9) (hy : y < pl h g) : fX4_hasPlace vH plc (nI g) (nI y) = some (nI 1) := by
  simp (disch := omega) only [fX4_hasPlace, fX4_hasPlace_J26, fX4_hasPlace_J27, c_hasRing_t h2 v2 hg, bdS, nlit, nI_eq, Nat.one_ne_zero, if_false, nI_ltI, ok_nI, gdT, nI_clamp, hp, nI_leI, isB_1]
  rw [if_neg (by omega), if_neg (by omega)]
theorem c_hasPlace_f (h2 : h 2 ≤ 4) (v2 : vH 2 = nI (h 2)) {g : Nat} {y : Int32} (hg : g < h 2) (hp : plc g = nI (pl h g)) (h9 : pl h g ≤ 9) (hy : y < 0 ∨ nI (pl h g) ≤ y) : fX4_hasPlace vH plc (nI g) y = some (nI 0) := by
  simp (disch := omega) only [fX4_hasPlace, fX4_hasPlace_J26, fX4_hasPlace_J27, c_hasRing_t h2 v2 hg, bdS, nlit, nI_eq, Nat.one_ne_zero, if_false, ok_nI, gdT, nI_clamp, hp, isB_0]
  rcases hy with hy | hy
  · rw [if_pos (show y < nI 0 from hy)]
  · rw [if_neg (ge_nneg (by omega) hy), if_pos hy]
theorem c_hasPlace_r {x : Int32} (y : Int32) (hx : fX4_hasRing vH x = some (nI 0)) : fX4_hasPlace vH plc x y = some (nI 0) := by
  simp only [fX4_hasPlace, fX4_hasPlace_J26, fX4_hasPlace_J27, hx, bdS, nlit, if_true, isB_0, gdT]
theorem c_stands_t (h2 : h 2 ≤ 4) (h1 : 1 ≤ h 2) (v2 : vH 2 = nI (h 2)) : fX4_stands vH = some (nI 1) := by
  simp (disch := omega) only [fX4_stands, fX4_stands_J12, nlit, v2, nI_leI, isB_1, gdT]
  rw [if_neg (by omega)]
theorem c_stands_f (v2 : vH 2 = nI 0) : fX4_stands vH = some (nI 0) := by
  unfold fX4_stands fX4_stands_J12
  rw [v2, if_pos (show nI 0 ≤ (0 : Int32) by decide)]
  rfl
end CA
