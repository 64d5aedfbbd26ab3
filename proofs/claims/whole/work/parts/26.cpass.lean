/-! MATH 7: the class's night: who goes, a night, the start of a walk -/
theorem mask_not {n a : Nat} (hn : n ≤ 7) (ha : a < 2 ^ n) : (isl (nI 1) (nI n) - nI 1) &&& (nI a ^^^ (-nI 1)) = nI (bm (fun t => !(a.testBit t)) n) := by
  have key : ∀ n, n < 8 → ∀ a, a < 128 → a < 2 ^ n → (isl (nI 1) (nI n) - nI 1) &&& (nI a ^^^ (-nI 1)) = nI (bm (fun t => !(a.testBit t)) n) := by decide +kernel
  exact key n (by omega) a (Nat.lt_of_lt_of_le ha (Nat.pow_le_pow_right (n := 2) (by omega) hn)) ha
section CP
variable {h c : Nat → Nat} {vH nx wd sz kd srt vW cl who fro : Nat → Int32} {x0 : Option Nat}
theorem c_decide (hw : WFh h) (hh : HC h vH nx wd sz kd srt x0) (hc : okRow h c) (hwr : WR h c vW cl who x0) (X : Nat → Bool) :
    ∃ fro', fX6_decide vW vH cl nx who fro sz wd kd (nI (bm X (h 3))) = some (upd (upd vW 11 (nI (bm (stK h c X) (h 3)))) 12 (nI (bm (goSet h c (fun t => own h c t || X t)) (h 3))), fro') := by
  have hw0 := hw
  have hh0 := hh
  have hwr0 := hwr
  obtain ⟨hc1, hc7, hc8⟩ := hc
  obtain ⟨hb, hE0, hE1, -, h2, h3, -, -, -, -, h9⟩ := hw
  obtain ⟨hv0, hv2, hv5, hnx, hwd, hx0, hk, hsrt⟩ := hh
  obtain ⟨hcl, hwho, w5, w6, w7, w8, w9⟩ := hwr
  have b31 : ∀ q : Nat → Bool, bm q (h 3) < 2 ^ 31 := fun q => Nat.lt_of_lt_of_le (bm_7 q h3) (by decide)
  -- the end, with the fronts known
  have fin : ∀ (f' : Nat → Int32), (∀ t, t < h 3 → f' t = match fr h c t with | some u => nI u | none => -1) → fX6_decide_J101 vW vH (nI (bm (fun t => (((c 7).testBit t || h (62 + 3 * t) == 2) || X t) || tooL h t (ah h (c t))) (h 3))) f' = some (upd (upd vW 11 (nI (bm (stK h c X) (h 3)))) 12 (nI (bm (goSet h c (fun t => own h c t || X t)) (h 3))), f') := by
    intro f' hf'
    have j144 : fX6_decide_J144 vW vH (nI (bm (stK h c X) (h 3))) f' = some (upd (upd vW 11 (nI (bm (stK h c X) (h 3)))) 12 (nI (bm (goSet h c (fun t => own h c t || X t)) (h 3))), f') := by
      unfold fX6_decide_J144
      have hm : bm (fun t => !((bm (clo (fr h c) (stK h c X) 128) (h 3)).testBit t)) (h 3) = bm (goSet h c (fun t => own h c t || X t)) (h 3) := by
        apply bm_ext
        intro t ht
        rw [bm_bit]
        unfold goSet
        have e := clo_come hw0 hc1 (X := fun t => own h c t || X t) 128 t ht
        show (!(decide (t < h 3) && clo (fr h c) (fun t => (own h c t || X t) || !come h c t) 128 t)) = _
        rw [e]
        simp only [ht, decide_true, Bool.true_and, Bool.not_or, Bool.not_not]
      rw [c_behind h3 hv5 hf' (stK h c X), bdS, nlit, hv5, mask_not h3 (bm_lt _ _), hm]
    have j115 : ∀ (P : Nat → Bool), (∀ t, t < h 3 → P t = (((((c 7).testBit t || h (62 + 3 * t) == 2) || X t) || tooL h t (ah h (c t))) || (h (62 + 3 * t) == 1 && (c 8 + 1) % 9 != 0))) → fX6_decide_J115 vW vH (nI (bm P (h 3))) f' = some (upd (upd vW 11 (nI (bm (stK h c X) (h 3)))) 12 (nI (bm (goSet h c (fun t => own h c t || X t)) (h 3))), f') := by
      intro P hP
      unfold fX6_decide_J115
      have hmm : (c 8 + 1) % h 0 < 5 := Nat.lt_of_lt_of_le (Nat.mod_lt _ (by omega)) hE1
      simp (disch := first | omega | exact b31 _) only [nlit, hv0, w5, w8, nI_leI, nz_nI, gdT, nI_add, irm_nI, nI_eq, nI_or, bm_or]
      rw [if_neg (by omega)]
      have hP2 : ∀ t, t < h 3 → P t = (own h c t || X t) := by
        intro t ht
        rw [hP t ht]
        unfold own tooL
        cases (c 7).testBit t <;> cases (h (62 + 3 * t) == 2) <;> cases X t <;> cases (h (62 + 3 * t) == 1 && (c 8 + 1) % 9 != 0) <;> simp
      by_cases e2 : (c 8 + 1) % h 0 = 0
      · rw [if_pos e2]
        have : bm P (h 3) = bm (stK h c X) (h 3) := bm_ext fun t ht => by rw [hP2 t ht]; unfold stK come; simp [e2]
        rw [this]
        exact j144
      · rw [if_neg e2]
        have : bm (fun t => P t || so h (c t / 9) == 1) (h 3) = bm (stK h c X) (h 3) := bm_ext fun t ht => by
          rw [hP2 t ht]; unfold stK come
          have e3 : ((c 8 + 1) % h 0 == 0) = false := by simpa using e2
          rw [e3, Bool.or_false]
          cases hs : (so h (c t / 9) == 1) <;> simp [bne, hs]
        rw [this]
        exact j144
    unfold fX6_decide_J101
    simp (disch := first | omega | exact b31 _) only [nlit, w5, w7, nI_add, irm_nI, nI_eq, nI_or, bm_or]
    by_cases e1 : (c 8 + 1) % 9 = 0
    · rw [if_pos e1]
      exact j115 _ (fun t ht => by simp [e1])
    · rw [if_neg e1]
      refine j115 _ (fun t ht => ?_)
      have e3 : ((c 8 + 1) % 9 != 0) = true := by simpa using e1
      rw [e3, Bool.and_true]
  unfold fX6_decide
  refine Exists.elim (lp_inv (f := fX6_decide_B17 vW vH cl nx who sz wd kd) (fun i s => ∃ f', s = (nI (bm (fun t => ((c 7).testBit t || h (62 + 3 * t) == 2) || X t) (h 3) ||| bm (fun t => tooL h t (ah h (c t))) i), nI i, f') ∧ ∀ t, t < i → f' t = match fr h c t with | some u => nI u | none => -1)
    (fun r => ∃ fro', r = (upd (upd vW 11 (nI (bm (stK h c X) (h 3)))) 12 (nI (bm (goSet h c (fun t => own h c t || X t)) (h 3))), fro')) (h 3) ?_ ?_ 5000 0 (vW 6 ||| nI (bm X (h 3)), 0, fro) (Nat.zero_le _) ⟨fro, ?_, fun t ht => by omega⟩ (by omega)) (fun r hr => ?_)
  · rintro i s hi ⟨f', rfl, hf'⟩
    left
    have hok := hc1 i hi
    have hx36 := okc_lt hw0 hok
    have ha := (ah_ok hw0 hok).1
    have ha36 := okc_lt hw0 ha
    have hci := hcl i hi
    simp (disch := first | omega | exact b31 _) only [fX6_decide_B17, fX6_decide_J95, nlit, hv5, nI_leI, ok_nI, gdT, nI_clamp, hci, c_nextOf hh0 hx36 hok, bdS, c_thingAt hwr0 ha36, nI_add]
    rw [if_neg (by omega), if_neg (by omega)]
    have hfn : ∀ t, t < i + 1 → upd f' i (match fnd (fun u => c u == ah h (c i)) (h 3) with | some u => nI u | none => -1) t = match fr h c t with | some u => nI u | none => -1 := by
      intro t ht
      unfold upd
      by_cases hti : t = i
      · subst hti; rw [if_pos rfl]; rfl
      · rw [if_neg hti]; exact hf' t (by omega)
    have e : bm (fun t => tooL h t (ah h (c t))) (i + 1) = bm (fun t => tooL h t (ah h (c t))) i ||| (if tooL h i (ah h (c i)) then 2 ^ i else 0) := rfl
    by_cases hwx : nI (ah h (c i)) = vW 9
    · rw [if_pos hwx]
      refine ⟨_, rfl, _, ?_, hfn⟩
      have : tooL h i (ah h (c i)) = false := by
        rw [w9] at hwx
        unfold wdn at hwx
        cases hx : x0 with
        | none => rw [hx] at hwx; exact absurd hwx (nI_neg1 (by omega))
        | some y =>
          rw [hx] at hwx
          obtain ⟨hy36, hz⟩ := hx0 y hx
          have hy : ah h (c i) = y := nI_inj (by omega) (by omega) hwx
          unfold tooL
          rw [hy, hz]; simp
      rw [e, this]
      simp
      rfl
    · rw [if_neg hwx]
      have hne : x0 ≠ some (ah h (c i)) := fun q => hwx (by rw [w9, q]; rfl)
      simp (disch := first | omega | exact b31 _) only [c_isTooLarge hw0 hh0 hi ha36 hne, bdS, nI_eq, isl_1, nI_or]
      cases htl : tooL h i (ah h (c i)) with
      | false =>
        simp only [Bool.false_eq_true, if_false, if_true]
        refine ⟨_, rfl, _, ?_, hfn⟩
        rw [e, htl]
        simp
        rfl
      | true =>
        simp only [if_true, Nat.one_ne_zero, if_false]
        refine ⟨_, rfl, _, ?_, hfn⟩
        rw [e, htl, ← Nat.or_assoc]
        simp
        rfl
  · rintro s ⟨f', rfl, hf'⟩
    simp (disch := omega) only [fX6_decide_B17, nlit, hv5, nI_leI]
    rw [if_pos (Nat.le_refl _), bm_or, fin f' hf', exS]
    exact ⟨_, rfl, f', rfl⟩
  · rw [w6, nI_or, bm_or]
    simp [bm]
    rfl
  · obtain ⟨hr, fro', e⟩ := hr
    exact ⟨fro', by rw [hr, e]⟩
end CP
