/-! MATH 6: the class's night -/
/-- what the class holds of a house, as far as nights need it; x0: the place that is thought widened -/
def HC (h : Nat → Nat) (vH nx wd sz kd srt : Nat → Int32) (x0 : Option Nat) : Prop :=
  vH 0 = nI (h 0) ∧ vH 2 = nI (h 2) ∧ vH 5 = nI (h 3) ∧ (∀ x, x < 36 → okc h x → nx x = nI (ah h x)) ∧ (∀ x, x < 36 → x0 ≠ some x → wd x = if h (16 + x) = 0 then nI 10 else nI (h (16 + x) - 1)) ∧ (∀ x, x0 = some x → x < 36 ∧ h (16 + x) = 0) ∧ (∀ t, t < h 3 → sz t = nI (h (62 + 3 * t + 2)) ∧ kd t = nI (h (62 + 3 * t))) ∧ ∀ g, g < h 2 → srt g = nI (so h g)
def wdn (x0 : Option Nat) : Int32 := match x0 with
  | none => -1
  | some x => nI x
/-- the walk stands at c: the things' places, who is where, the night, the bits that it took at its start -/
def WR (h c : Nat → Nat) (vW cl who : Nat → Int32) (x0 : Option Nat) : Prop :=
  (∀ t, t < h 3 → cl t = nI (c t)) ∧ (∀ x, x < 36 → who x = match fnd (fun u => c u == x) (h 3) with | some u => nI u | none => -1) ∧ vW 5 = nI (c 8) ∧ vW 6 = nI (bm (fun t => (c 7).testBit t || h (62 + 3 * t) == 2) (h 3)) ∧ vW 7 = nI (bm (fun t => h (62 + 3 * t) == 1) (h 3)) ∧ vW 8 = nI (bm (fun t => so h (c t / 9) == 1) (h 3)) ∧ vW 9 = wdn x0
section CN
variable {h c : Nat → Nat} {vH nx wd sz kd srt vW cl who fro : Nat → Int32} {x0 : Option Nat}
theorem c_ring {x : Nat} (hx : x < 2 ^ 31) : fX8_ringOfCell (nI x) = some (nI (x / 9)) := by
  simp (disch := omega) only [fX8_ringOfCell, nlit, pk_div]
theorem c_nextOf (hh : HC h vH nx wd sz kd srt x0) {x : Nat} (hx : x < 36) (hok : okc h x) : fX4_nextOf vH nx (nI x) = some (nI (ah h x)) := by
  have hn := hh.2.2.2.1 x hx hok
  simp (disch := omega) only [fX4_nextOf, fX4_nextOf_J20, nlit, nI_ltI, nI_leI, ok_nI, gdT, nI_clamp, hn]
  rw [if_neg (by omega), if_neg (by omega)]
theorem c_thingAt (hwr : WR h c vW cl who x0) {x : Nat} (hx : x < 36) : fX6_thingAt vW who (nI x) = some (match fnd (fun u => c u == x) (h 3) with | some u => nI u | none => -1) := by
  have hn := hwr.2.1 x hx
  simp (disch := omega) only [fX6_thingAt, fX6_thingAt_J20, nlit, nI_ltI, nI_leI, ok_nI, gdT, nI_clamp, hn]
  rw [if_neg (by omega), if_neg (by omega)]
def tooL (h : Nat → Nat) (t x : Nat) : Bool := h (62 + 3 * t) != 3 && decide (0 < h (16 + x)) && decide (h (16 + x) - 1 < h (62 + 3 * t + 2))
theorem c_isTooLarge (hw : WFh h) (hh : HC h vH nx wd sz kd srt x0) {t x : Nat} (ht : t < h 3) (hx : x < 36) (hne : x0 ≠ some x) : fX4_isTooLarge vH sz wd kd (nI t) (nI x) = some (nI (if tooL h t x then 1 else 0)) := by
  obtain ⟨hb, -, -, -, -, h3, -, -, -, -, h9⟩ := hw
  obtain ⟨-, -, -, -, hwd, -, hk, -⟩ := hh
  obtain ⟨hs, hk⟩ := hk t ht
  have hwx := hwd x hx hne
  have b1 : h (62 + 3 * t) < 1000 := hb _ (by omega)
  have b2 : h (16 + x) < 1000 := hb _ (by omega)
  have b3 := h9 t ht
  simp (disch := omega) only [fX4_isTooLarge, fX4_isTooLarge_J20, fX4_isTooLarge_J51, fX4_isTooLarge_J52, nlit, nI_ltI, nI_leI, ok_nI, gdT, nI_clamp, hs, hk, isB_0, isB_1, nI_eq]
  rw [if_neg (by omega), if_neg (by omega), if_neg (by omega), if_pos hx, hwx]
  unfold tooL
  by_cases e1 : h (16 + x) = 0
  · rw [if_pos e1]
    simp (disch := omega) only [nI_leI]
    rw [if_pos (by omega)]
    simp [e1]
  · rw [if_neg e1]
    simp (disch := omega) only [nI_leI]
    by_cases e2 : h (62 + 3 * t + 2) ≤ h (16 + x) - 1
    · rw [if_pos e2]
      simp [show ¬ h (16 + x) - 1 < h (62 + 3 * t + 2) by omega]
    · rw [if_neg e2]
      by_cases e3 : h (62 + 3 * t) = 3
      · simp [e3]
      · simp [e3, show h (16 + x) - 1 < h (62 + 3 * t + 2) by omega, show 0 < h (16 + x) by omega]
/-- those who stay for reasons of their own, by the class: with those that the damp keeps, and those whose cellar doesn't come -/
def stK (h c : Nat → Nat) (X : Nat → Bool) (t : Nat) : Bool := (own h c t || X t) || !come h c t
theorem frW {t : Nat} : (match fnd (fun u => c u == ah h (c t)) (h 3) with | some u => nI u | none => (-1 : Int32)) = (match fr h c t with | some u => nI u | none => -1) := rfl
theorem c_behind (hn : h 3 ≤ 7) (hv : vH 5 = nI (h 3)) (hfr : ∀ t, t < h 3 → fro t = match fr h c t with | some u => nI u | none => -1) (X : Nat → Bool) : fX6_withThoseBehind vW vH fro (nI (bm X (h 3))) = some (nI (bm (clo (fr h c) X 128) (h 3))) := by
  have b31 : ∀ q : Nat → Bool, bm q (h 3) < 2 ^ 31 := fun q => Nat.lt_of_lt_of_le (bm_7 q hn) (by decide)
  have hf : ∀ t u, t < h 3 → fr h c t = some u → u < h 3 := fun t u _ hu => (fr_lt hu).1
  -- a pass over the things
  have pass : ∀ (A : Nat → Bool) (turn : Int32), (∀ t, t < h 3 → X t = true → A t = true) → (∀ t, t < h 3 → A t = true → clo (fr h c) X 128 t = true) →
      ∃ (B : Nat → Bool) (m : Nat), lp (fX6_withThoseBehind_B31 vH fro turn) 5000 (nI (bm A (h 3)), 0, 0) = some (.inr (nI (bm B (h 3)), nI m, turn + 1)) ∧ (∀ t, t < h 3 → A t = true → B t = true) ∧ (∀ t, t < h 3 → B t = true → clo (fr h c) X 128 t = true) ∧ ((m = 0 ∧ (∀ t, t < h 3 → B t = A t) ∧ ∀ t u, t < h 3 → fr h c t = some u → A u = true → A t = true) ∨ (m = 1 ∧ ∃ u, u < h 3 ∧ A u = false ∧ B u = true)) := by
    intro A turn hX hA
    refine Exists.elim (lp_inv (f := fX6_withThoseBehind_B31 vH fro turn) (fun i s => ∃ (B : Nat → Bool) (m : Nat), s = (nI (bm B (h 3)), nI m, nI i) ∧ (∀ t, t < h 3 → A t = true → B t = true) ∧ (∀ t, t < h 3 → B t = true → clo (fr h c) X 128 t = true) ∧ ((m = 0 ∧ (∀ t, t < h 3 → B t = A t) ∧ ∀ t u, t < i → fr h c t = some u → A u = true → A t = true) ∨ (m = 1 ∧ ∃ u, u < h 3 ∧ A u = false ∧ B u = true)))
      (fun r => ∃ (B : Nat → Bool) (m : Nat), r = .inr (nI (bm B (h 3)), nI m, turn + 1) ∧ (∀ t, t < h 3 → A t = true → B t = true) ∧ (∀ t, t < h 3 → B t = true → clo (fr h c) X 128 t = true) ∧ ((m = 0 ∧ (∀ t, t < h 3 → B t = A t) ∧ ∀ t u, t < h 3 → fr h c t = some u → A u = true → A t = true) ∨ (m = 1 ∧ ∃ u, u < h 3 ∧ A u = false ∧ B u = true))) (h 3) ?_ ?_ 5000 0 (nI (bm A (h 3)), 0, 0) (Nat.zero_le _) ⟨A, 0, rfl, fun _ _ x => x, hA, Or.inl ⟨rfl, fun _ _ => rfl, fun t u ht => by omega⟩⟩ (by omega)) (fun r hr => ?_)
    · rintro i s hi ⟨B, m, rfl, h1, h2, h3⟩
      left
      have hfi := hfr i hi
      have hm : m = 0 ∨ m = 1 := by rcases h3 with ⟨h, -⟩ | ⟨h, -⟩ <;> omega
      simp (disch := first | omega | exact b31 _) only [fX6_withThoseBehind_B31, fX6_withThoseBehind_J91, nlit, hv, nI_leI, ok_nI, gdT, nI_clamp, hfi, bit_nI, nI_eq, isl_1, nI_or, nI_add]
      rw [if_neg (by omega), if_neg (by omega)]
      cases hu : fr h c i with
      | none =>
        simp only
        rw [if_pos (show -nI 1 < nI 0 by decide)]
        refine ⟨_, rfl, B, m, rfl, h1, h2, ?_⟩
        rcases h3 with ⟨g1, g2, g3⟩ | g
        · exact Or.inl ⟨g1, g2, fun t u ht hut => by
            rcases Nat.lt_or_ge t i with h4 | h4
            · exact g3 t u h4 hut
            · obtain rfl : t = i := by omega
              rw [hu] at hut; cases hut⟩
        · exact Or.inr g
      | some u =>
        have hu3 := hf i u hi hu
        simp (disch := first | omega | exact b31 _) only [bit_nI, nI_eq]
        rw [if_neg (show ¬ nI u < nI 0 from nI_pos (by omega)), bm_bit, bm_bit]
        simp only [hu3, hi, decide_true, Bool.true_and]
        cases hBu : B u with
        | false =>
          simp only [Bool.false_eq_true, if_false, if_true]
          refine ⟨_, rfl, B, m, rfl, h1, h2, ?_⟩
          rcases h3 with ⟨g1, g2, g3⟩ | g
          · exact Or.inl ⟨g1, g2, fun t w ht hut hAw => by
              rcases Nat.lt_or_ge t i with h4 | h4
              · exact g3 t w h4 hut hAw
              · obtain rfl : t = i := by omega
                rw [hu] at hut; cases hut
                rw [g2 u hu3, hAw] at hBu; cases hBu⟩
          · exact Or.inr g
        | true =>
          cases hBi : B i with
          | true =>
            simp only [if_true, Nat.one_ne_zero, if_false]
            refine ⟨_, rfl, B, m, rfl, h1, h2, ?_⟩
            rcases h3 with ⟨g1, g2, g3⟩ | g
            · exact Or.inl ⟨g1, g2, fun t w ht hut hAw => by
                rcases Nat.lt_or_ge t i with h4 | h4
                · exact g3 t w h4 hut hAw
                · obtain rfl : t = i := by omega
                  rw [← g2 t hi]; exact hBi⟩
            · exact Or.inr g
          | false =>
            simp only [Bool.false_eq_true, if_false, if_true, Nat.one_ne_zero]
            refine ⟨_, rfl, fun t => B t || t == i, 1, ?_, fun t ht hAt => by simp [h1 t ht hAt], fun t ht hBt => ?_, Or.inr ⟨rfl, i, hi, ?_, by simp⟩⟩
            · have : bm B (h 3) ||| 2 ^ i = bm (fun t => B t || t == i) (h 3) := by
                apply Nat.eq_of_testBit_eq
                intro t
                rw [Nat.testBit_or, bm_bit, bm_bit, Nat.testBit_two_pow]
                by_cases ht : t < h 3
                · by_cases hti : i = t
                  · subst hti; simp [ht]
                  · simp [ht, hti, show ¬ t = i from fun q => hti q.symm]
                · simp [ht, show ¬ i = t by omega]
              rw [this]
            · rcases (Bool.or_eq_true _ _).mp hBt with h4 | h4
              · exact h2 t ht h4
              · obtain rfl : t = i := by simpa using h4
                exact clo_closed hf (by omega) t u ht hu (h2 u hu3 hBu)
            · cases hAi : A i with
              | false => rfl
              | true => rw [h1 i hi hAi] at hBi; cases hBi
    · rintro s ⟨B, m, rfl, h1, h2, h3⟩
      simp (disch := omega) only [fX6_withThoseBehind_B31, fX6_withThoseBehind_J97, nlit, hv, nI_leI, exS]
      rw [if_pos (Nat.le_refl _)]
      exact ⟨_, rfl, B, m, rfl, h1, h2, h3⟩
    · obtain ⟨e, B, m, hr, h1, h2, h3⟩ := hr
      exact ⟨B, m, by rw [e, hr], h1, h2, h3⟩
  -- the turns
  have turns : ∀ m0 : Nat, ((m0 = 0 ∧ ∀ t, t < h 3 → X t = false) ∨ (m0 = 1 ∧ ∃ u, u < h 3 ∧ X u = true)) → lp (fX6_withThoseBehind_B15 vH fro) 5000 (nI (bm X (h 3)), nI m0, 0) = some (nI (bm (clo (fr h c) X 128) (h 3))) := by
    intro m0 hm0
    refine Exists.elim (lp_inv (f := fX6_withThoseBehind_B15 vH fro) (fun i s => ∃ (A : Nat → Bool) (m : Nat), s = (nI (bm A (h 3)), nI m, nI i) ∧ (∀ t, t < h 3 → X t = true → A t = true) ∧ (∀ t, t < h 3 → A t = true → clo (fr h c) X 128 t = true) ∧ ((m = 0 ∧ ∀ t u, t < h 3 → fr h c t = some u → A u = true → A t = true) ∨ (m = 1 ∧ i + 1 ≤ cnt A (h 3))))
      (fun r => r = nI (bm (clo (fr h c) X 128) (h 3))) 7 ?_ ?_ 5000 0 (nI (bm X (h 3)), nI m0, 0) (Nat.zero_le _) ⟨X, m0, rfl, fun _ _ x => x, fun t _ hx => clo_X 128 hx, ?_⟩ (by omega)) (fun r hr => ?_)
    · rintro i s hi ⟨A, m, rfl, h1, h2, h3⟩
      have hm : m = 0 ∨ m = 1 := by rcases h3 with ⟨h, -⟩ | ⟨h, -⟩ <;> omega
      simp (disch := omega) only [fX6_withThoseBehind_B15, fX6_withThoseBehind_J103, nlit, nI_leI, nI_eq, exS]
      rw [if_neg (by omega)]
      rcases h3 with ⟨rfl, hcl⟩ | ⟨rfl, hcnt⟩
      · right
        rw [if_pos rfl]
        exact ⟨_, rfl, by rw [bm_ext (clo_eq hf h1 hcl h2)]⟩
      · left
        rw [if_neg (by omega)]
        obtain ⟨B, m', e', g1, g2, g3⟩ := pass A (nI i) h1 h2
        rw [← nI_0] at e'
        rw [e']
        refine ⟨_, rfl, B, m', by rw [nlit, nI_add], fun t ht hx => g1 t ht (h1 t ht hx), g2, ?_⟩
        rcases g3 with ⟨rfl, g4, g5⟩ | ⟨rfl, u, hu, g4, g5⟩
        · exact Or.inl ⟨rfl, fun t u ht hut hBu => by rw [g4 t ht]; exact g5 t u ht hut (by rw [← g4 u (hf t u ht hut)]; exact hBu)⟩
        · have := cnt_lt g1 hu g4 g5
          exact Or.inr ⟨rfl, by omega⟩
    · rintro s ⟨A, m, rfl, h1, h2, h3⟩
      rcases h3 with ⟨rfl, hcl⟩ | ⟨rfl, hcnt⟩
      · simp (disch := omega) only [fX6_withThoseBehind_B15, fX6_withThoseBehind_J103, nlit, nI_leI, exS]
        rw [if_pos (Nat.le_refl _)]
        exact ⟨_, rfl, by rw [bm_ext (clo_eq hf h1 hcl h2)]⟩
      · have := cnt_le A (h 3)
        omega
    · rcases hm0 with ⟨rfl, hx⟩ | ⟨rfl, u, hu, hx⟩
      · exact Or.inl ⟨rfl, fun t u ht hut hXu => by rw [hx u (hf t u ht hut)] at hXu; cases hXu⟩
      · exact Or.inr ⟨rfl, cnt_pos hu hx⟩
    · rw [hr.1, hr.2]
  unfold fX6_withThoseBehind fX6_withThoseBehind_J11
  simp (disch := first | omega | exact b31 _) only [nlit, nI_eq]
  by_cases hz : bm X (h 3) = 0
  · rw [if_pos hz]
    refine turns 0 (Or.inl ⟨rfl, fun t ht => ?_⟩)
    have := bm_bit X (h 3) t
    rw [hz] at this
    simpa [ht] using this.symm
  · rw [if_neg hz]
    refine turns 1 (Or.inr ⟨rfl, ?_⟩)
    apply Classical.byContradiction
    intro hno
    apply hz
    apply bm_0
    intro t ht
    cases hx : X t with
    | false => rfl
    | true => exact absurd ⟨t, ht, hx⟩ hno
end CN
