/-! MATH 5: who goes, by the reference; a night by the reference -/
theorem bm_or (p q : Nat → Bool) (n : Nat) : bm p n ||| bm q n = bm (fun t => p t || q t) n := by
  apply Nat.eq_of_testBit_eq
  intro t
  rw [Nat.testBit_or, bm_bit, bm_bit, bm_bit]
  cases decide (t < n) <;> simp
theorem bm_0 {p : Nat → Bool} {n : Nat} (h : ∀ t, t < n → p t = false) : bm p n = 0 := by
  have : bm p n = bm (fun _ => false) n := bm_ext h
  rw [this]
  induction n with
  | zero => rfl
  | succ n ih => rw [bm, ih (fun t ht => h t (by omega)) (bm_ext fun t ht => h t (by omega))]; simp
section MG
variable {h c : Nat → Nat} {vM r p : Nat → Int32}
theorem m_front (hw : WFh h) (hr : ∀ k, k < 224 → r k = nI (h k)) (hp : ∀ k, k < 9 → p k = nI (c k)) (hc : okRow h c) {t : Nat} (ht : t < h 3) : fX9_thingAt vM r 9 p (nI (ah h (c t))) = some (match fr h c t with | some u => nI u | none => -2) :=
  m_thingAt hr hw.2.2.2.2.2.1 hp (fun t ht => okc_lt hw (hc.1 t ht)) (okc_lt hw (ah_ok hw (hc.1 t ht)).1)
theorem m_goingBy (hw : WFh h) (hr : ∀ k, k < 224 → r k = nI (h k)) (hp : ∀ k, k < 9 → p k = nI (c k)) (hc : okRow h c) (X : Nat → Bool) : fX9_goingBy vM r 9 p (nI (bm X (h 3))) = some (nI (bm (goSet h c X) (h 3))) := by
  have hw0 := hw
  have hc0 := hc
  obtain ⟨hc1, hc7, hc8⟩ := hc
  obtain ⟨hb, h0, h0', -, h2, h3, -, -, -, -, -⟩ := hw
  have b31 : ∀ q : Nat → Bool, bm q (h 3) < 2 ^ 31 := fun q => Nat.lt_of_lt_of_le (bm_7 q h3) (by decide)
  have hf : ∀ t u, t < h 3 → fr h c t = some u → u < h 3 := fun t u _ hu => (fr_lt hu).1
  -- the last loop
  have last : ∀ (S : Nat → Bool), (∀ t, t < h 3 → S t = clo (fr h c) X 128 t) → lp (fX9_goingBy_B84 vM r 9 p) 5000 (nI (bm S (h 3)), 0, 0) = some (nI (bm (goSet h c X) (h 3))) := by
    intro S hS
    refine lp_for (fun i => (nI (bm S (h 3)), nI (bm (goSet h c X) i), nI i)) (h 3) ?_ ?_ (by omega) rfl
    · intro i hi
      have hbit : (bm S (h 3)).testBit i = clo (fr h c) X 128 i := by rw [bm_bit, hS i hi]; simp [hi]
      simp (disch := first | omega | exact b31 _) only [fX9_goingBy_B84, fX9_goingBy_J123, fX9_goingBy_J124, nlit, ok_nI, gdT, nI_clamp, hr, nI_leI, bdS, m_hasBit, m_isCome hw0 hr hp hc0 hi, isl_1, nI_or, nI_add, nI_eq]
      rw [if_neg (by omega), hbit]
      have e : bm (goSet h c X) (i + 1) = bm (goSet h c X) i ||| (if goSet h c X i then 2 ^ i else 0) := rfl
      rw [e]
      unfold goSet
      cases clo (fr h c) X 128 i <;> cases come h c i <;> simp [n10]
    · simp (disch := omega) only [fX9_goingBy_B84, nlit, ok_nI, gdT, nI_clamp, hr, nI_leI, exS]
      rw [if_pos (Nat.le_refl _)]
  -- a round
  have round : ∀ (A : Nat → Bool), lp (fX9_goingBy_B17 vM r 9 p (nI (bm A (h 3)))) 5000 (nI (bm A (h 3)), 0) = some (.inr (nI (bm (fun t => A t || (match fr h c t with | none => false | some u => A u)) (h 3)), nI (bm A (h 3)))) := by
    intro A
    rw [← bm_or]
    refine lp_for (fun i => (nI (bm A (h 3) ||| bm (fun t => match fr h c t with | none => false | some u => A u) i), nI i)) (h 3) ?_ ?_ (by omega) ?_
    · intro i hi
      have hok := hc1 i hi
      simp (disch := first | omega | exact b31 _) only [fX9_goingBy_B17, fX9_goingBy_J66, fX9_goingBy_J67, nlit, ok_nI, gdT, nI_clamp, hr, hp, nI_leI, bdS, m_aheadOf hw0 hr hok, m_front hw0 hr hp hc0 hi, isl_1, nI_or, nI_add]
      rw [if_neg (by omega)]
      have e : bm (fun t => match fr h c t with | none => false | some u => A u) (i + 1) = bm (fun t => match fr h c t with | none => false | some u => A u) i ||| (if (match fr h c i with | none => false | some u => A u) then 2 ^ i else 0) := rfl
      rw [e, ← Nat.or_assoc]
      cases hu : fr h c i with
      | none =>
        simp only
        rw [if_pos (show -nI 2 < nI 0 by decide)]
        simp
      | some u =>
        have hu3 := (fr_lt hu).1
        simp (disch := first | omega | exact b31 _) only [m_hasBit, bdS, nI_eq]
        rw [if_neg (show ¬ nI u < nI 0 from nI_pos (by omega)), bm_bit]
        by_cases hA : A u = true
        · simp [hu3, hA, n10]
        · simp [hu3, hA]
    · simp (disch := omega) only [fX9_goingBy_B17, nlit, ok_nI, gdT, nI_clamp, hr, nI_leI, exS]
      rw [if_pos (Nat.le_refl _)]
    · simp [bm, nI_0]
  unfold fX9_goingBy
  refine Exists.elim (lp_inv (f := fX9_goingBy_B5 vM r 9 p) (fun i s => s.1 = nI (bm (clo (fr h c) X i) (h 3)) ∧ (i = 0 → s.2 = -1) ∧ ∀ j, i = j + 1 → s.2 = nI (bm (clo (fr h c) X j) (h 3)) ∧ j ≤ cnt (clo (fr h c) X j) (h 3)) (fun x => x = nI (bm (goSet h c X) (h 3))) 9 ?_ ?_ 5000 0 (nI (bm X (h 3)), -1) (by omega) ⟨rfl, fun _ => rfl, fun j hj => by omega⟩ (by omega)) (fun r' hr' => ?_)
  · rintro i ⟨s1, s2⟩ hi ⟨e1, e2, e3⟩
    simp only at e1 e2 e3
    subst e1
    by_cases hs : s2 = nI (bm (clo (fr h c) X i) (h 3))
    · right
      cases i with
      | zero => rw [e2 rfl] at hs; exact absurd hs.symm (nI_neg1 (b31 _))
      | succ j =>
        obtain ⟨e4, e5⟩ := e3 j rfl
        have hm : bm (clo (fr h c) X j) (h 3) = bm (clo (fr h c) X (j + 1)) (h 3) := nI_inj (b31 _) (b31 _) (e4.symm.trans hs)
        have hst : ∀ t, t < h 3 → clo (fr h c) X (j + 1) t = clo (fr h c) X j t := fun t ht => (bm_inj hm t ht).symm
        have hall := last (clo (fr h c) X (j + 1)) (fun t ht => by rw [hst t ht, clo_stop hf hst 128 t (by omega) ht])
        refine ⟨_, ?_, rfl⟩
        simp only [fX9_goingBy_B5]
        rw [if_pos hs, hall]
        rfl
    · left
      refine ⟨(nI (bm (clo (fr h c) X (i + 1)) (h 3)), nI (bm (clo (fr h c) X i) (h 3))), ?_, rfl, fun h0 => by omega, fun j hj => ?_⟩
      · simp only [fX9_goingBy_B5]
        rw [if_neg hs, round]
        rfl
      · obtain rfl : j = i := by omega
        refine ⟨rfl, ?_⟩
        cases j with
        | zero => exact Nat.zero_le _
        | succ j =>
          obtain ⟨e4, e5⟩ := e3 j rfl
          have : ∃ u, u < h 3 ∧ clo (fr h c) X j u = false ∧ clo (fr h c) X (j + 1) u = true := by
            apply Classical.byContradiction
            intro hno
            apply hs
            rw [e4]
            congr 1
            apply bm_ext
            intro t ht
            cases e6 : clo (fr h c) X (j + 1) t with
            | false =>
              cases e7 : clo (fr h c) X j t with
              | false => rfl
              | true => rw [clo_mono (Nat.le_succ j) e7] at e6; cases e6
            | true =>
              cases e7 : clo (fr h c) X j t with
              | true => rfl
              | false => exact absurd ⟨t, ht, e7, e6⟩ hno
          obtain ⟨u, hu, e6, e7⟩ := this
          have := cnt_lt (p := clo (fr h c) X j) (q := clo (fr h c) X (j + 1)) (n := h 3) (fun t _ hh => clo_mono (Nat.le_succ j) hh) hu e6 e7
          omega
  · rintro ⟨s1, s2⟩ ⟨e1, e2, e3⟩
    obtain ⟨-, e5⟩ := e3 8 rfl
    have := cnt_le (clo (fr h c) X 8) (h 3)
    omega
  · rw [hr'.1, hr'.2]
theorem m_goOver (hw : WFh h) (hr : ∀ k, k < 224 → r k = nI (h k)) (hp : ∀ k, k < 9 → p k = nI (c k)) (hc : okRow h c) (g : Nat → Bool) : ∃ p', fX9_goOver vM r 9 p (nI (bm g (h 3))) = some p' ∧ ∀ k, k < 9 → p' k = nI (nightRow h c g k) := by
  have hw0 := hw
  obtain ⟨hc1, hc7, hc8⟩ := hc
  obtain ⟨hb, h0, h0', -, h2, h3, -, -, -, -, -⟩ := hw
  have b31 : ∀ q : Nat → Bool, bm q (h 3) < 2 ^ 31 := fun q => Nat.lt_of_lt_of_le (bm_7 q h3) (by decide)
  unfold fX9_goOver
  refine lp_inv (f := fX9_goOver_B2 vM r 9 (nI (bm g (h 3)))) (fun i s => s.1 = nI i ∧ ∀ k, k < 9 → s.2 k = nI (if k < i then (if g k then ah h (c k) else c k) else c k)) (fun p' => ∀ k, k < 9 → p' k = nI (nightRow h c g k)) (h 3) ?_ ?_ 5000 0 (0, p) (Nat.zero_le _) ⟨rfl, fun k hk => by show p k = _; rw [hp k hk]; simp⟩ (by omega)
  · rintro i ⟨s1, q⟩ hi ⟨e1, e2⟩
    simp only at e1 e2
    subst e1
    left
    have hok := hc1 i hi
    have hq : q i = nI (c i) := by rw [e2 i (by omega)]; simp
    simp (disch := first | omega | exact b31 _) only [fX9_goOver_B2, fX9_goOver_J30, nlit, ok_nI, gdT, nI_clamp, hr, nI_leI, bdS, m_hasBit, nI_eq, hq, m_aheadOf hw0 hr hok, nI_add]
    rw [if_neg (by omega), bm_bit]
    cases hg : g i with
    | false =>
      simp only [hi, decide_true, Bool.true_and, Bool.false_eq_true, if_false, if_true]
      refine ⟨_, rfl, rfl, fun k hk => ?_⟩
      show q k = _
      rw [e2 k hk]
      congr 1
      by_cases h1 : k < i
      · simp [h1, show k < i + 1 by omega]
      · by_cases h2 : k = i
        · subst h2; simp [hg]
        · simp [h1, show ¬ k < i + 1 by omega]
    | true =>
      simp only [hi, decide_true, Bool.true_and, if_true, Nat.one_ne_zero, if_false]
      refine ⟨_, rfl, rfl, fun k hk => ?_⟩
      show (if k = i then nI (ah h (c i)) else q k) = _
      by_cases h2 : k = i
      · subst h2; simp [hg]
      · rw [if_neg h2, e2 k hk]
        congr 1
        by_cases h1 : k < i
        · simp [h1, show k < i + 1 by omega]
        · simp [h1, show ¬ k < i + 1 by omega]
  · rintro ⟨s1, q⟩ ⟨e1, e2⟩
    simp only at e1 e2
    subst e1
    have h8 : q 8 = nI (c 8) := by rw [e2 8 (by omega)]; simp [show ¬ 8 < h 3 by omega]
    simp (disch := omega) only [fX9_goOver_B2, nlit, ok_nI, gdT, nI_clamp, hr, nI_leI, exS, h8, nI_add]
    rw [if_pos (Nat.le_refl _)]
    refine ⟨_, rfl, fun k hk => ?_⟩
    show (if k = 8 then nI (c 8 + 1) else q k) = _
    unfold nightRow
    by_cases h1 : k = 8
    · subst h1; simp [show ¬ 8 < h 3 by omega]
    · rw [if_neg h1, e2 k hk]
      by_cases h4 : k < h 3
      · simp [h4]
      · simp [h4, h1]
theorem m_nightOf (hw : WFh h) (hr : ∀ k, k < 224 → r k = nI (h k)) (hp : ∀ k, k < 9 → p k = nI (c k)) (hc : okRow h c) : ∃ p', fX9_nightOf vM r 9 p = some (nI (bm (going h c) (h 3)), p') ∧ ∀ k, k < 9 → p' k = nI (stepN h c k) := by
  obtain ⟨p', e, hp'⟩ := m_goOver (vM := vM) hw hr hp hc (going h c)
  refine ⟨p', ?_, hp'⟩
  unfold fX9_nightOf fX9_going
  rw [m_fixed hw hr hp hc, bdS, m_goingBy hw hr hp hc (own h c), bdS, bdS]
  show Option.bind (fX9_goOver vM r 9 p (nI (bm (going h c) (h 3)))) _ = _
  rw [e, bdS]
  rfl
end MG
