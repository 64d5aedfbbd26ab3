/-! MATH 28: rules, ruleAt, there, surely, look, lookLeaves -/
/-- how many rules are left at most by a look: night i / 12, place i % 12 -/
noncomputable def lft (h : Nat → Nat) (i : Nat) : Nat := let k := nR h (fun r => plBy (i / 12) r == i % 12); if k < (rlist h).length - k then (rlist h).length - k else k
noncomputable def lkS0 (h : Nat → Nat) : Nat → Option (Nat × Nat)
  | 0 => none
  | i + 1 => match lkS0 h i with
    | none => some (i, lft h i)
    | some (b, m) => if m ≤ lft h i then some (b, m) else some (i, lft h i)
theorem lkS_ex : ∃ f : (Nat → Nat) → Nat → Option (Nat × Nat), (∀ h, f h 0 = none) ∧ ∀ h i, f h (i + 1) = match f h i with
    | none => some (i, lft h i)
    | some (b, m) => if m ≤ lft h i then some (b, m) else some (i, lft h i) := ⟨lkS0, fun _ => rfl, fun _ _ => rfl⟩
noncomputable def lkS : (Nat → Nat) → Nat → Option (Nat × Nat) := Classical.choose lkS_ex
theorem lkS_0 (h : Nat → Nat) : lkS h 0 = none := (Classical.choose_spec lkS_ex).1 h
theorem lkS_s (h : Nat → Nat) (i : Nat) : lkS h (i + 1) = match lkS h i with
    | none => some (i, lft h i)
    | some (b, m) => if m ≤ lft h i then some (b, m) else some (i, lft h i) := (Classical.choose_spec lkS_ex).2 h i
noncomputable def lkO (h : Nat → Nat) : Option (Nat × Nat) := if (rlist h).length = 0 then none else lkS h 1200
def lcode (o : Option (Nat × Nat)) : Int32 := match o with
  | none => -2
  | some (b, _) => nI (100 * (b / 12) + b % 12)
def lleft (o : Option (Nat × Nat)) : Int32 := match o with
  | none => -2
  | some (_, m) => nI m
theorem lft_le (h : Nat → Nat) (i : Nat) : lft h i ≤ 572 := by
  have h1 := nR_le h (fun r => plBy (i / 12) r == i % 12)
  have h2 := RL_len h
  unfold lft
  simp only
  split <;> omega
theorem lkS_le (h : Nat → Nat) : ∀ i b m, lkS h i = some (b, m) → b < i ∧ m ≤ 572 := by
  intro i
  induction i with
  | zero => intro b m e; rw [lkS_0] at e; cases e
  | succ i ih =>
    intro b m e
    have hl := lft_le h i
    rw [lkS_s] at e
    cases hq : lkS h i with
    | none => rw [hq] at e; cases e; exact ⟨by omega, hl⟩
    | some bm =>
      obtain ⟨b', m'⟩ := bm
      rw [hq] at e
      have := ih b' m' hq
      simp only at e
      split at e
      · cases e; exact ⟨by omega, this.2⟩
      · cases e; exact ⟨by omega, hl⟩
/-- the class's box -/
def CB (h : Nat → Nat) (vB rn : Nat → Int32) : Prop := LB (rlist h) vB rn ∧ (vB 3 = nI 0 ∨ (vB 3 = nI 1 ∧ vB 4 = lcode (lkO h) ∧ vB 5 = lleft (lkO h)))
section LK
variable {h c : Nat → Nat} {vH mn mp mf vB rn seen vM r vN cts : Nat → Int32}
theorem c_countSeen (hb : LB (rlist h) vB rn) {x : Nat} (hx : x < 1000) : ∃ seen', fX0_countSeen vB seen rn (nI x) = some seen' ∧ ∀ y, y < 12 → seen' y = nI (nR h (fun r => plBy x r == y)) := by
  have hl := RL_len h
  obtain ⟨p0, e0, hp0⟩ := c_fill (n0 := 12) (p0 := seen) (nI 0) (by omega)
  unfold fX0_countSeen
  simp only [nlit]
  rw [e0, bdS]
  refine Exists.elim (lp_inv (f := fX0_countSeen_B10 vB rn (nI x)) (fun i s => ∃ q, s = (nI i, q) ∧ ∀ y, y < 12 → q y = nI (cntL (fun r => plBy x r == y) (rlist h) i)) (fun res => ∀ y, y < 12 → res y = nI (nR h (fun r => plBy x r == y))) (rlist h).length ?_ ?_ 5000 0 (nI 0, p0) (Nat.zero_le _) ⟨p0, rfl, hp0⟩ (by omega)) (fun res hr => ⟨res, hr⟩)
  · rintro i s hi ⟨q, rfl, hq⟩
    left
    have hn := RL_no h (getD_mem hi)
    have hlt := plBy_lt hn x
    simp (disch := omega) only [fX0_countSeen_B10, fX0_countSeen_J48, hb.1, nlit, nI_leI, nI_ltI, c_ruleNumber hl hb hi, bdS, c_placeBy hn hx, ok_nI, gdT, nI_clamp, hq, nI_add]
    rw [if_neg (by omega), if_neg (by omega), if_neg (by omega)]
    refine ⟨_, rfl, _, rfl, fun y hy => ?_⟩
    unfold upd
    rw [cntL]
    generalize plBy x ((rlist h).getD i 0) = z at hlt ⊢
    by_cases e : y = z
    · rw [if_pos e, e]
      simp
    · rw [if_neg e, hq y hy]
      have : ¬ z = y := fun w => e w.symm
      simp [this]
  · rintro s ⟨q, rfl, hq⟩
    simp (disch := omega) only [fX0_countSeen_B10, hb.1, nI_leI, exS]
    rw [if_pos (Nat.le_refl _)]
    exact ⟨_, rfl, hq⟩
theorem c_lookOnce (hb : CB h vB rn) : ∃ vB' seen', fX0_lookOnce vB seen rn = some (vB', seen') ∧ CB h vB' rn ∧ vB' 4 = lcode (lkO h) ∧ vB' 5 = lleft (lkO h) := by
  have hl := RL_len h
  obtain ⟨hb1, hb2⟩ := hb
  unfold fX0_lookOnce
  rcases hb2 with h3 | ⟨h3, h4, h5⟩
  · rw [if_pos (show vB 3 = 0 from h3)]
    simp only [nlit]
    by_cases h0 : (rlist h).length = 0
    · refine ⟨upd (upd (upd vB 3 (nI 1)) 4 (-nI 2)) 5 (-nI 2), seen, ?_, ?_, ?_, ?_⟩
      · rw [lp]
        have e2 : upd (upd (upd vB 3 (nI 1)) 4 (-nI 2)) 5 (-nI 2) 2 = nI (rlist h).length := hb1.1
        simp (disch := omega) only [fX0_lookOnce_B27, fX0_lookOnce_J118, nlit, nI_leI, e2, exS]
        rw [if_neg (by omega), if_pos (by omega)]
      · refine ⟨⟨hb1.1, hb1.2⟩, Or.inr ⟨rfl, ?_, ?_⟩⟩
        · unfold lkO; rw [if_pos h0]; rfl
        · unfold lkO; rw [if_pos h0]; rfl
      · unfold lkO; rw [if_pos h0]; rfl
      · unfold lkO; rw [if_pos h0]; rfl
    · have hO : lkO h = lkS h 1200 := by unfold lkO; rw [if_neg h0]
      rw [hO]
      have step : ∀ n, n < 100 → ∀ (v sn : Nat → Int32), LB (rlist h) v rn → v 3 = nI 1 → v 4 = lcode (lkS h (12 * n)) → v 5 = lleft (lkS h (12 * n)) → (∀ y, y < 12 → sn y = nI (nR h (fun r => plBy n r == y))) → ∃ v', lp (fX0_lookOnce_B47 (nI n)) 5000 (nI 0, sn, v) = some (.inr (nI (n + 1), sn, v')) ∧ LB (rlist h) v' rn ∧ v' 3 = nI 1 ∧ v' 4 = lcode (lkS h (12 * (n + 1))) ∧ v' 5 = lleft (lkS h (12 * (n + 1))) := by
        intro n hn v sn hlb v3 v4 v5 hsn
        refine Exists.elim (lp_inv (f := fX0_lookOnce_B47 (nI n)) (fun i s => ∃ v, s = (nI i, sn, v) ∧ LB (rlist h) v rn ∧ v 3 = nI 1 ∧ v 4 = lcode (lkS h (12 * n + i)) ∧ v 5 = lleft (lkS h (12 * n + i))) (fun res => ∃ v', res = .inr (nI (n + 1), sn, v') ∧ LB (rlist h) v' rn ∧ v' 3 = nI 1 ∧ v' 4 = lcode (lkS h (12 * (n + 1))) ∧ v' 5 = lleft (lkS h (12 * (n + 1)))) 12 ?_ ?_ 5000 0 (nI 0, sn, v) (Nat.zero_le _) ⟨v, rfl, hlb, v3, v4, v5⟩ (by omega)) (fun res hr => ?_)
        · rintro i s hi ⟨v, rfl, hlb, v3, v4, v5⟩
          left
          have hk := nR_le h (fun r => plBy n r == i)
          have hk2 : nR h (fun r => plBy n r == i) ≤ (rlist h).length := cntL_le _ _ _
          have el : lft h (12 * n + i) = if nR h (fun r => plBy n r == i) < (rlist h).length - nR h (fun r => plBy n r == i) then (rlist h).length - nR h (fun r => plBy n r == i) else nR h (fun r => plBy n r == i) := by
            unfold lft
            have e1 : (12 * n + i) / 12 = n := by omega
            have e2 : (12 * n + i) % 12 = i := by omega
            rw [e1, e2]
          have hll := lft_le h (12 * n + i)
          have emax : (if nI (nR h (fun r => plBy n r == i)) < nI ((rlist h).length - nR h (fun r => plBy n r == i)) then nI ((rlist h).length - nR h (fun r => plBy n r == i)) else nI (nR h (fun r => plBy n r == i))) = nI (lft h (12 * n + i)) := by
            rw [el]
            simp (disch := omega) only [nI_ltI]
            split <;> rfl
          have take : ∃ s', fX0_lookOnce_J91 (nI n) (nI i) sn v = some (.inr s') ∧ ∃ v', s' = (nI (i + 1), sn, v') ∧ LB (rlist h) v' rn ∧ v' 3 = nI 1 ∧ v' 4 = nI (100 * n + i) ∧ v' 5 = nI (lft h (12 * n + i)) := by
            simp (disch := omega) only [fX0_lookOnce_J91, fX0_lookOnce_J106, nlit, nI_clamp, hsn, hlb.1, pk_sub, pk_mul, nI_add]
            rw [emax]
            exact ⟨_, rfl, _, rfl, ⟨hlb.1, hlb.2⟩, v3, rfl, rfl⟩
          have code : 100 * ((12 * n + i) / 12) + (12 * n + i) % 12 = 100 * n + i := by omega
          have es : lkS h (12 * n + (i + 1)) = match lkS h (12 * n + i) with
            | none => some (12 * n + i, lft h (12 * n + i))
            | some (b, m) => if m ≤ lft h (12 * n + i) then some (b, m) else some (12 * n + i, lft h (12 * n + i)) := lkS_s h (12 * n + i)
          rw [es]
          have fin : ∀ o, o = some (12 * n + i, lft h (12 * n + i)) → ∃ s', fX0_lookOnce_J91 (nI n) (nI i) sn v = some (.inr s') ∧ ∃ v', s' = (nI (i + 1), sn, v') ∧ LB (rlist h) v' rn ∧ v' 3 = nI 1 ∧ v' 4 = lcode o ∧ v' 5 = lleft o := by
            rintro o rfl
            obtain ⟨s', e, v', rfl, a1, a2, a3, a4⟩ := take
            exact ⟨_, e, v', rfl, a1, a2, by rw [a3, ← code]; rfl, a4⟩
          simp (disch := omega) only [fX0_lookOnce_B47, fX0_lookOnce_J106, nlit, nI_leI, ok_nI, gdT, nI_clamp, hsn, hlb.1, pk_sub]
          rw [if_neg (by omega), v4, v5, emax]
          cases hq : lkS h (12 * n + i) with
          | none =>
            rw [if_pos (show lcode none = -nI 2 from rfl)]
            exact fin _ rfl
          | some bm =>
            obtain ⟨b, m⟩ := bm
            obtain ⟨q1, q2⟩ := lkS_le h _ _ _ hq
            rw [if_neg (show ¬ lcode (some (b, m)) = -nI 2 from nI_neg2 (a := 100 * (b / 12) + b % 12) (by omega))]
            show ∃ s', (if nI m ≤ nI (lft h (12 * n + i)) then _ else _) = _ ∧ _
            simp (disch := omega) only [nI_leI]
            by_cases hlq : m ≤ lft h (12 * n + i)
            · rw [if_pos hlq]
              refine ⟨_, rfl, v, by rw [nI_add], hlb, v3, ?_, ?_⟩
              · rw [v4, hq, if_pos hlq]
              · rw [v5, hq, if_pos hlq]
            · rw [if_neg hlq]
              refine fin _ ?_
              rw [if_neg hlq]
        · rintro s ⟨v, rfl, q⟩
          simp (disch := omega) only [fX0_lookOnce_B47, nlit, nI_leI, exS, nI_add]
          rw [if_pos (by omega)]
          exact ⟨_, rfl, v, rfl, q⟩
        · obtain ⟨e, v', hr, q⟩ := hr
          exact ⟨v', e.trans (congrArg some hr), q⟩
      refine Exists.elim (lp_inv (f := fX0_lookOnce_B27 rn) (fun n s => ∃ v sn, s = (nI n, sn, v) ∧ LB (rlist h) v rn ∧ v 3 = nI 1 ∧ v 4 = lcode (lkS h (12 * n)) ∧ v 5 = lleft (lkS h (12 * n))) (fun res => ∃ vB' seen', res = (vB', seen') ∧ LB (rlist h) vB' rn ∧ vB' 3 = nI 1 ∧ vB' 4 = lcode (lkS h 1200) ∧ vB' 5 = lleft (lkS h 1200)) 100 ?_ ?_ 5000 0 (nI 0, seen, upd (upd (upd vB 3 (nI 1)) 4 (-nI 2)) 5 (-nI 2)) (Nat.zero_le _) ⟨_, seen, rfl, ⟨hb1.1, hb1.2⟩, rfl, by rw [Nat.mul_zero, lkS_0]; rfl, by rw [Nat.mul_zero, lkS_0]; rfl⟩ (by omega)) (fun res hr => ?_)
      · rintro n s hn ⟨v, sn, rfl, hlb, v3, v4, v5⟩
        left
        obtain ⟨sn2, e, hsn⟩ := c_countSeen (seen := sn) hlb (x := n) (by omega)
        obtain ⟨v', e2, q⟩ := step n hn v sn2 hlb v3 v4 v5 hsn
        simp (disch := omega) only [fX0_lookOnce_B27, nlit, nI_leI, hlb.1, e, bdS]
        rw [if_neg (by omega), if_neg (by omega), e2]
        exact ⟨_, rfl, v', sn2, rfl, q⟩
      · rintro s ⟨v, sn, rfl, q⟩
        simp (disch := omega) only [fX0_lookOnce_B27, fX0_lookOnce_J118, nlit, nI_leI, exS]
        rw [if_pos (by omega)]
        exact ⟨_, rfl, v, sn, rfl, q⟩
      · obtain ⟨e, v', sn', hr, a1, a2, a3, a4⟩ := hr
        exact ⟨v', sn', e.trans (congrArg some hr), ⟨a1, Or.inr ⟨a2, by rw [hO]; exact a3, by rw [hO]; exact a4⟩⟩, a3, a4⟩
  · have : ¬ vB 3 = 0 := by rw [h3]; decide
    rw [if_neg this]
    exact ⟨vB, seen, rfl, ⟨hb1, Or.inr ⟨h3, h4, h5⟩⟩, h4, h5⟩
theorem m_lookOf (hw : WFh h) (hm : WFm h) (hr : ∀ k, k < 224 → r k = nI (h k)) : ∃ v' cts', fX9_lookOf vM cts r = some (lcode (lkO h), v', cts') ∧ v' 25 = lleft (lkO h) ∧ ∀ k, k ≠ 25 → v' k = vM k := by
  have hl := RL_len h
  unfold fX9_lookOf
  simp only [nlit]
  -- the choice
  have last : ∀ (ct : Nat → Int32), (∀ i, i < 1200 → ct i = nI (nR h (fun r => plBy (i / 12) r == i % 12))) → ∃ res, lp fX9_lookOf_B134 5000 (nI (rlist h).length, -nI 2, nI 0, ct, upd vM 25 (-nI 2)) = some res ∧ ∃ v' cts', res = (lcode (lkO h), v', cts') ∧ v' 25 = lleft (lkO h) ∧ ∀ k, k ≠ 25 → v' k = vM k := by
    intro ct hct
    by_cases h0 : (rlist h).length = 0
    · have hO : lkO h = none := by unfold lkO; rw [if_pos h0]
      rw [hO, lp]
      simp (disch := omega) only [fX9_lookOf_B134, fX9_lookOf_J222, nlit, nI_leI, exS]
      rw [if_neg (by omega), if_pos (by omega)]
      exact ⟨_, rfl, upd vM 25 (-nI 2), ct, rfl, rfl, fun k hk => by unfold upd; rw [if_neg hk]⟩
    · have hO : lkO h = lkS h 1200 := by unfold lkO; rw [if_neg h0]
      rw [hO]
      refine Exists.elim (lp_inv (f := fX9_lookOf_B134) (fun i s => ∃ v, s = (nI (rlist h).length, lcode (lkS h i), nI i, ct, v) ∧ v 25 = lleft (lkS h i) ∧ ∀ k, k ≠ 25 → v k = vM k) (fun res => ∃ v' cts', res = (lcode (lkS h 1200), v', cts') ∧ v' 25 = lleft (lkS h 1200) ∧ ∀ k, k ≠ 25 → v' k = vM k) 1200 ?_ ?_ 5000 0 (nI (rlist h).length, -nI 2, nI 0, ct, upd vM 25 (-nI 2)) (Nat.zero_le _) ⟨_, by rw [lkS_0]; rfl, by rw [lkS_0]; rfl, fun k hk => by unfold upd; rw [if_neg hk]⟩ (by omega)) (fun res hr => ⟨res, hr⟩)
      · rintro i s hi ⟨v, rfl, v25, vo⟩
        left
        have hk2 : nR h (fun r => plBy (i / 12) r == i % 12) ≤ (rlist h).length := cntL_le _ _ _
        have hll := lft_le h i
        have J : ∀ x, x = nI (lft h i) → ∃ s', fX9_lookOf_J179 (nI (rlist h).length) (lcode (lkS h i)) (nI i) ct v x = some (.inr s') ∧ ∃ v, s' = (nI (rlist h).length, lcode (lkS h (i + 1)), nI (i + 1), ct, v) ∧ v 25 = lleft (lkS h (i + 1)) ∧ ∀ k, k ≠ 25 → v k = vM k := by
          rintro x rfl
          have es : lkS h (i + 1) = match lkS h i with
            | none => some (i, lft h i)
            | some (b, m) => if m ≤ lft h i then some (b, m) else some (i, lft h i) := lkS_s h i
          rw [es]
          have fin : ∀ o, o = some (i, lft h i) → ∃ s', fX9_lookOf_J197 (nI (rlist h).length) (nI i) ct v (nI (lft h i)) = some (.inr s') ∧ ∃ v, s' = (nI (rlist h).length, lcode o, nI (i + 1), ct, v) ∧ v 25 = lleft o ∧ ∀ k, k ≠ 25 → v k = vM k := by
            rintro o rfl
            simp (disch := omega) only [fX9_lookOf_J197, fX9_lookOf_J216, nlit, pk_div, irm_nI, pk_mul, nI_add]
            exact ⟨_, rfl, _, rfl, rfl, fun k hk => by unfold upd; rw [if_neg hk]; exact vo k hk⟩
          unfold fX9_lookOf_J179
          rw [v25]
          cases hq : lkS h i with
          | none =>
            rw [if_pos (show lcode none < 0 by decide)]
            exact fin _ rfl
          | some bm =>
            obtain ⟨b, m⟩ := bm
            obtain ⟨q1, q2⟩ := lkS_le h _ _ _ hq
            rw [if_neg (show ¬ lcode (some (b, m)) < 0 from nI_pos (n := 100 * (b / 12) + b % 12) (by omega))]
            show ∃ s', (if nI (lft h i) < nI m then _ else _) = _ ∧ _
            simp (disch := omega) only [nI_ltI]
            by_cases hlq : m ≤ lft h i
            · rw [if_neg (by omega)]
              refine ⟨_, rfl, v, ?_, ?_, vo⟩
              · rw [if_pos hlq, nlit, nI_add]
              · rw [v25, hq, if_pos hlq]
            · rw [if_pos (by omega)]
              refine fin _ ?_
              rw [if_neg hlq]
        simp (disch := omega) only [fX9_lookOf_B134, nlit, nI_leI, ok_nI, gdT, nI_clamp, hct, pk_sub]
        rw [if_neg (by omega), if_neg (by omega)]
        have el : lft h i = if nR h (fun r => plBy (i / 12) r == i % 12) < (rlist h).length - nR h (fun r => plBy (i / 12) r == i % 12) then (rlist h).length - nR h (fun r => plBy (i / 12) r == i % 12) else nR h (fun r => plBy (i / 12) r == i % 12) := rfl
        generalize nR h (fun r => plBy (i / 12) r == i % 12) = z at hk2 el ⊢
        by_cases hq : z ≤ (rlist h).length - z
        · rw [if_pos hq]
          apply J
          rw [el]
          congr 1
          split <;> omega
        · rw [if_neg hq]
          apply J
          rw [el]
          congr 1
          split <;> omega
      · rintro s ⟨v, rfl, q⟩
        simp (disch := omega) only [fX9_lookOf_B134, fX9_lookOf_J222, nlit, nI_leI, exS]
        rw [if_pos (by omega)]
        exact ⟨_, rfl, v, ct, rfl, q⟩
  -- the counting
  have count : ∀ (ct : Nat → Int32), (∀ i, i < 1200 → ct i = nI 0) → ∃ res, lp (fX9_lookOf_B26 vM r) 5000 (nI 0, nI 2, ct) = some res ∧ ∃ v' cts', res = (lcode (lkO h), v', cts') ∧ v' 25 = lleft (lkO h) ∧ ∀ k, k ≠ 25 → v' k = vM k := by
    intro ct hct
    exact tri (α := (Int32 × (Nat → Int32))) h (fun l a => a.1 = nI l.length ∧ ∀ i, i < 1200 → a.2 i = nI (cntL (fun r => plBy (i / 12) r == i % 12) l l.length)) (fun res => ∃ v' cts', res = (lcode (lkO h), v', cts') ∧ v' 25 = lleft (lkO h) ∧ ∀ k, k ≠ 25 → v' k = vM k)
      (fX9_lookOf_B26 vM r) (fun k => fX9_lookOf_B34 vM r (nI (k + 2))) (fun k j => fX9_lookOf_B42 vM r (nI (k + 2)) (nI (j + 1)))
      (fun k a => (a.1, nI (k + 2), a.2)) (fun k j a => (a.1, nI (j + 1), a.2)) (fun k j f a => (a.1, nI f, a.2))
      (by
        rintro k j f ⟨a1, ct⟩ hk1 hj hf ⟨rfl, hct⟩
        left
        have hct : ∀ i, i < 1200 → ct i = nI (cntL (fun r => plBy (i / 12) r == i % 12) (pre h k j f) (pre h k j f).length) := hct
        have hlen := RP_lenk h k j f hk1 hj (by omega)
        simp (disch := omega) only [fX9_lookOf_B42, fX9_lookOf_J105, nlit, nI_leI, m_isRule hw hm hr, bdS, nI_add]
        rw [if_neg (by omega), pre_f]
        cases hq : rok h (k + 2) (j + 1) f with
        | false => exact ⟨(nI (pre h k j f).length, ct), rfl, by simp only [Bool.false_eq_true, if_false, List.append_nil], by simpa only [Bool.false_eq_true, if_false, List.append_nil] using hct⟩
        | true =>
          simp only [if_true, n10, if_false]
          have hcl : ∀ i, cntL (fun r => plBy (i / 12) r == i % 12) (pre h k j f) (pre h k j f).length ≤ 572 := fun i => Nat.le_trans (cntL_le _ _ _) (by omega)
          obtain ⟨res, e, q, hres, hq2⟩ := lp_inv (f := fX9_lookOf_B68 (nI (k + 2)) (nI (j + 1)) (nI (pre h k j f).length) (nI f)) (fun n s => ∃ q, s = (nI n, q) ∧ ∀ i, i < 1200 → q i = nI (cntL (fun r => plBy (i / 12) r == i % 12) (pre h k j f) (pre h k j f).length + if i / 12 < n ∧ (f + (j + 1) * (i / 12)) % (k + 2) = i % 12 then 1 else 0)) (fun res => ∃ q, res = .inr (nI ((pre h k j f).length + 1), nI (f + 1), q) ∧ ∀ i, i < 1200 → q i = nI (cntL (fun r => plBy (i / 12) r == i % 12) (pre h k j f) (pre h k j f).length + if (f + (j + 1) * (i / 12)) % (k + 2) = i % 12 then 1 else 0)) 100 (by
            rintro n s hn ⟨q, rfl, hq⟩
            left
            have b4 := mul12 (s := j + 1) (x := n) (by omega) (by omega)
            have hmod : (f + (j + 1) * n) % (k + 2) < k + 2 := Nat.mod_lt _ (by omega)
            generalize hz : (f + (j + 1) * n) % (k + 2) = z at hmod
            simp (disch := omega) only [fX9_lookOf_B68, nlit, nI_leI, nz_nI, gdT, pk_mul, nI_add, irm_nI, hz, ok_nI, nI_clamp, hq]
            rw [if_neg (by omega)]
            refine ⟨_, rfl, _, rfl, fun i hi => ?_⟩
            unfold upd
            have e1 : (12 * n + z) / 12 = n := by omega
            have e2 : (12 * n + z) % 12 = z := by omega
            by_cases e : i = 12 * n + z
            · rw [if_pos e, e, e1, e2, hz, if_neg (by omega), if_pos ⟨by omega, rfl⟩]
            · rw [if_neg e, hq i hi]
              congr 2
              refine if_c ⟨fun w => ⟨by omega, w.2⟩, fun w => ⟨?_, w.2⟩⟩
              rcases Nat.lt_or_ge (i / 12) n with q | q
              · exact q
              · have : i / 12 = n := by omega
                have w2 := w.2
                rw [this, hz] at w2
                omega) (by
            rintro s ⟨q, rfl, hq⟩
            simp (disch := omega) only [fX9_lookOf_B68, fX9_lookOf_J105, nlit, nI_leI, exS, nI_add]
            rw [if_pos (by omega)]
            refine ⟨_, rfl, q, rfl, fun i hi => ?_⟩
            rw [hq i hi]
            congr 2
            exact if_c ⟨fun w => w.2, fun w => ⟨by omega, w⟩⟩) 5000 0 (nI 0, ct) (Nat.zero_le _) ⟨ct, rfl, fun i hi => by rw [hct i hi, if_neg (by omega)]; rfl⟩ (by omega)
          rw [e, hres]
          refine ⟨(nI ((pre h k j f).length + 1), q), rfl, by rw [List.length_append]; rfl, fun i hi => ?_⟩
          have ec := cntL_app (fun r => plBy (i / 12) r == i % 12) (pre h k j f) (10000 * (k + 2) + 100 * (j + 1) + f)
          simp only [plBy_eq (show j + 1 < 100 by omega) (show f < 100 by omega)] at ec
          show q i = _
          rw [hq2 i hi, ec]
          congr 2
          exact if_c (by simp))
      (by
        intro k j a hk1 hj
        simp (disch := omega) only [fX9_lookOf_B42, nlit, nI_leI, exS, nI_add]
        rw [if_pos (Nat.le_refl _)])
      (by
        intro k j a hk1 hj
        simp (disch := omega) only [fX9_lookOf_B34, nlit, nI_leI]
        rw [if_neg (by omega)])
      (by
        intro k a hk1
        simp (disch := omega) only [fX9_lookOf_B34, nlit, nI_leI, exS, nI_add]
        rw [if_pos (by omega)])
      (by
        intro k a hk1
        simp (disch := omega) only [fX9_lookOf_B26, nlit, nI_ltI]
        rw [if_neg (by omega)])
      (by
        rintro ⟨a1, ct⟩ ⟨rfl, hct⟩
        simp (disch := omega) only [fX9_lookOf_B26, nlit, nI_ltI]
        rw [if_pos (by omega)]
        obtain ⟨res, e, q⟩ := last ct hct
        rw [e, exS]
        exact ⟨_, rfl, q⟩) (nI 0, ct) ⟨rfl, hct⟩
  refine Exists.elim (lp_inv (f := fX9_lookOf_B4 vM r) (fun i s => ∃ q, s = (nI i, q) ∧ ∀ j, j < i → q j = nI 0) (fun res => ∃ v' cts', res = (lcode (lkO h), v', cts') ∧ v' 25 = lleft (lkO h) ∧ ∀ k, k ≠ 25 → v' k = vM k) 1200 ?_ ?_ 5000 0 (nI 0, cts) (Nat.zero_le _) ⟨cts, rfl, fun j hj => by omega⟩ (by omega)) (fun res hr => ?_)
  · rintro i s hi ⟨q, rfl, hq⟩
    left
    simp (disch := omega) only [fX9_lookOf_B4, nlit, nI_leI, ok_nI, gdT, nI_clamp, nI_add]
    rw [if_neg (by omega)]
    refine ⟨_, rfl, _, rfl, fun j hj => ?_⟩
    unfold upd
    by_cases e : j = i
    · rw [if_pos e]
    · rw [if_neg e]; exact hq j (by omega)
  · rintro s ⟨q, rfl, hq⟩
    simp (disch := omega) only [fX9_lookOf_B4, nlit, nI_leI]
    rw [if_pos (by omega)]
    obtain ⟨res, e, w⟩ := count q hq
    rw [e, exS]
    exact ⟨_, rfl, w⟩
  · obtain ⟨e, v', cts', hres, q⟩ := hr
    exact ⟨v', cts', e.trans (congrArg some hres), q⟩
theorem C_rules (h2 : h 2 ≤ 4) (h1 : 1 ≤ h 2) (v2 : vH 2 = nI (h 2)) (hb : CB h vB rn) : fX8_rules vN vH vB = some (nI (rlist h).length, upd vN 6 (nI 0)) := by
  unfold fX8_rules fX0_count
  rw [c_stands_t h2 h1 v2, bdS, if_neg (by rw [nlit, n10]; exact id), bdS, hb.1.1]
  rfl
theorem M_rules (hw : WFh h) (hm : WFm h) (hr : ∀ k, k < 224 → r k = nI (h k)) (h14 : vM 14 = nI 1) : ∃ vM', fX9_rules vM r = some (nI (rlist h).length, vM') ∧ MA vM vM' (nI 0) := by
  obtain ⟨v, ev, hma, hv⟩ := m_good vM
  have v14 : v 14 = nI 1 := by rw [hv 14 (by omega) (by omega)]; exact h14
  refine ⟨v, ?_, hma⟩
  have e : fX9_rulesBy v r (nI 1) (nI 0) (nI 0) = some (nI (nR h (fun r => true || plBy 0 r == 0))) := m_rulesBy hw hm hr true (by omega) (by omega)
  simp only [Bool.true_or] at e
  rw [nR_all] at e
  unfold fX9_rules
  rw [ev, bdS, if_neg (by rw [v14, nlit, n10]; exact id)]
  simp only [nlit]
  rw [e, bdS]
  rfl
theorem C_ruleAt (h2 : h 2 ≤ 4) (h1 : 1 ≤ h 2) (v2 : vH 2 = nI (h 2)) (hb : CB h vB rn) {i : Nat} (hi : i < (rlist h).length) : fX8_ruleAt vN vH vB rn (nI i) = some (nI ((rlist h).getD i 0), upd vN 6 (nI 0)) := by
  have hl := RL_len h
  unfold fX8_ruleAt fX0_count
  rw [c_stands_t h2 h1 v2, bdS, if_neg (by rw [nlit, n10]; exact id), bdS, hb.1.1, c_ruleNumber hl hb.1 hi, bdS]
  simp (disch := omega) only [nlit, nI_ltI]
  rw [if_neg (by omega), if_pos hi]
  rfl
theorem M_ruleAt (hw : WFh h) (hm : WFm h) (hr : ∀ k, k < 224 → r k = nI (h k)) (h14 : vM 14 = nI 1) (x : Int32) : ∃ vM' a tr, fX9_ruleAt vM r x = some (a, vM') ∧ MA vM vM' tr ∧ ((∃ i, i < (rlist h).length ∧ x = nI i ∧ a = nI ((rlist h).getD i 0) ∧ tr = nI 0) ∨ ((∀ i, i < (rlist h).length → x ≠ nI i) ∧ a = -1 ∧ tr = nI 1)) := by
  obtain ⟨v, ev, hma, hv⟩ := m_good vM
  have v14 : v 14 = nI 1 := by rw [hv 14 (by omega) (by omega)]; exact h14
  have hl := RL_len h
  unfold fX9_ruleAt
  rw [ev, bdS, if_neg (by rw [v14, nlit, n10]; exact id)]
  simp only [nlit]
  have ext : ∀ (l m : List Nat), l <+: m → ∀ i, i < l.length → i < m.length ∧ m.getD i 0 = l.getD i 0 := by
    rintro l m ⟨t, rfl⟩ i hi
    refine ⟨by rw [List.length_append]; omega, ?_⟩
    rw [List.getD_eq_getElem?_getD, List.getD_eq_getElem?_getD, List.getElem?_append_left hi]
  have pf : ∀ k j f, k < 11 → j < k + 1 → f ≤ k + 2 → pre h k j f <+: rlist h := by
    intro k j f hk hj hf
    have a3 : ∀ f g, f ≤ g → pre h k j f <+: pre h k j g := by
      intro f g hfg
      induction hfg with
      | refl => exact List.prefix_refl _
      | step _ ih => rw [pre_f]; exact ih.trans (List.prefix_append _ _)
    have a1 : ∀ k k', k ≤ k' → pre h k 0 0 <+: pre h k' 0 0 := by
      intro k k' hkk
      induction hkk with
      | refl => exact List.prefix_refl _
      | step _ ih =>
        refine ih.trans ?_
        rw [pre_k]
        unfold pre
        exact (List.prefix_append_right_inj _).mpr (by simp [RS, RF])
    have b1 : pre h k j f <+: pre h k (j + 1) 0 := by rw [pre_j]; exact a3 f (k + 2) hf
    have b2 : pre h k (j + 1) 0 <+: pre h k (k + 1) 0 := by
      clear a3 b1
      have : ∀ d, j + 1 + d ≤ k + 1 → pre h k (j + 1) 0 <+: pre h k (j + 1 + d) 0 := by
        intro d
        induction d with
        | zero => intro _; exact List.prefix_refl _
        | succ d ih =>
          intro hd
          refine (ih (by omega)).trans ?_
          rw [← Nat.add_assoc, pre_j]
          unfold pre
          exact (List.prefix_append_right_inj _).mpr ((List.prefix_append_right_inj _).mpr (List.nil_prefix))
      have := this (k - j) (by omega)
      rw [show j + 1 + (k - j) = k + 1 by omega] at this
      exact this
    have b3 : pre h (k + 1) 0 0 <+: pre h 11 0 0 := a1 _ _ (by omega)
    rw [pre_11] at b3
    rw [pre_k] at b3
    exact b1.trans (b2.trans b3)
  obtain ⟨res, e, q⟩ := tri (α := Int32) (ρ := Int32 × (Nat → Int32)) h (fun l a => a = nI l.length ∧ ∀ i, i < l.length → x ≠ nI i) (fun res => (∃ i, i < (rlist h).length ∧ x = nI i ∧ res = (nI ((rlist h).getD i 0), v)) ∨ ((∀ i, i < (rlist h).length → x ≠ nI i) ∧ ∃ v', fX9_no v (nI 1) = some (-1, v') ∧ res = (-1, v')))
    (fX9_ruleAt_B21 r x) (fun k => fX9_ruleAt_B30 r x (nI (k + 2)) v) (fun k j => fX9_ruleAt_B39 r x (nI (k + 2)) v (nI (j + 1)))
    (fun k a => (a, nI (k + 2), v)) (fun k j a => (a, nI (j + 1))) (fun k j f a => (a, nI f))
    (by
      rintro k j f a hk1 hj hf ⟨rfl, hno⟩
      have hlen := RP_lenk h k j f hk1 hj (by omega)
      simp (disch := omega) only [fX9_ruleAt_B39, fX9_ruleAt_J83, nlit, nI_leI, m_isRule hw hm hr, bdS, pk_mul, nI_add, exS]
      rw [if_neg (by omega), pre_f]
      cases hq : rok h (k + 2) (j + 1) f with
      | false =>
        left
        simp only [Bool.false_eq_true, if_false, ↓reduceIte, List.append_nil]
        exact ⟨_, rfl, rfl, hno⟩
      | true =>
        simp only [if_true, n10, if_false, ↓reduceIte]
        by_cases hx : nI (pre h k j f).length = x
        · rw [if_pos hx]
          right
          have hp := pf k j (f + 1) hk1 hj (by omega)
          rw [pre_f, hq] at hp
          have hlt : (pre h k j f).length < (pre h k j f ++ [10000 * (k + 2) + 100 * (j + 1) + f]).length := by rw [List.length_append]; exact Nat.lt_succ_self _
          obtain ⟨q1, q2⟩ := ext _ _ hp _ hlt
          refine ⟨_, rfl, Or.inl ⟨(pre h k j f).length, q1, hx.symm, ?_⟩⟩
          rw [q2]
          simp [List.getD]
        · rw [if_neg hx]
          left
          refine ⟨_, rfl, by rw [List.length_append]; rfl, fun i hi => ?_⟩
          rw [List.length_append] at hi
          have hi : i < (pre h k j f).length + 1 := hi
          by_cases e : i = (pre h k j f).length
          · rw [e]; exact fun w => hx w.symm
          · exact hno i (by omega))
    (by
      intro k j a hk1 hj
      simp (disch := omega) only [fX9_ruleAt_B39, nlit, nI_leI, exS, nI_add]
      rw [if_pos (Nat.le_refl _)])
    (by
      intro k j a hk1 hj
      simp (disch := omega) only [fX9_ruleAt_B30, nlit, nI_leI]
      rw [if_neg (by omega)])
    (by
      intro k a hk1
      simp (disch := omega) only [fX9_ruleAt_B30, nlit, nI_leI, exS, nI_add]
      rw [if_pos (by omega)])
    (by
      intro k a hk1
      simp (disch := omega) only [fX9_ruleAt_B21, nlit, nI_ltI]
      rw [if_neg (by omega)])
    (by
      rintro a ⟨rfl, hno⟩
      obtain ⟨v', e, -, -⟩ := m_no v (nI 1)
      simp (disch := omega) only [fX9_ruleAt_B21, nlit, nI_ltI, e, bdS, exS]
      rw [if_pos (by omega)]
      exact ⟨_, rfl, Or.inr ⟨hno, v', rfl, rfl⟩⟩) (nI 0) ⟨rfl, fun i hi => absurd hi (Nat.not_lt_zero _)⟩
  rw [e]
  rcases q with ⟨i, q1, q2, q3⟩ | ⟨q1, v', q2, q3⟩
  · exact ⟨v, _, nI 0, by rw [q3], hma, Or.inl ⟨i, q1, q2, rfl, rfl⟩⟩
  · obtain ⟨v2, e2, a1, a2⟩ := m_no v (nI 1)
    rw [q2] at e2
    cases e2
    refine ⟨v', -1, nI 1, by rw [q3], ⟨a1, fun k b1 b2 b3 => ?_⟩, Or.inr ⟨q1, rfl, rfl⟩⟩
    rw [a2 k b2]
    exact hma.2 k b1 b2 b3
theorem C_there (h2 : h 2 ≤ 4) (h1 : 1 ≤ h 2) (v2 : vH 2 = nI (h 2)) (hb : CB h vB rn) {x y : Nat} (hx : x < 100) (hy : y < 12) : fX8_there vN vH vB rn (nI x) (nI y) = some (nI (nR h (fun r => plBy x r == y)), upd vN 6 (nI 0)) := by
  unfold fX8_there
  rw [c_stands_t h2 h1 v2, bdS, if_neg (by rw [nlit, n10]; exact id), c_countAt hb.1 (by omega) (by omega), bdS]
  simp (disch := omega) only [nlit, nI_ltI, nI_leI]
  rw [if_neg (by omega), if_neg (by omega), if_neg (by omega), if_pos hy]
  rfl
theorem M_there (hw : WFh h) (hm : WFm h) (hr : ∀ k, k < 224 → r k = nI (h k)) (h14 : vM 14 = nI 1) {x y : Nat} (hx : x < 100) (hy : y < 12) : ∃ vM', fX9_there vM r (nI x) (nI y) = some (nI (nR h (fun r => plBy x r == y)), vM') ∧ MA vM vM' (nI 0) := by
  obtain ⟨v, ev, hma, hv⟩ := m_good vM
  have v14 : v 14 = nI 1 := by rw [hv 14 (by omega) (by omega)]; exact h14
  refine ⟨v, ?_, hma⟩
  have e : fX9_rulesBy v r (nI 0) (nI x) (nI y) = some (nI (nR h (fun r => false || plBy x r == y))) := m_rulesBy hw hm hr false (by omega) (by omega)
  simp only [Bool.false_or] at e
  unfold fX9_there
  rw [ev, bdS, if_neg (by rw [v14, nlit, n10]; exact id)]
  simp only [nlit]
  rw [m_inn_t (show 99 < 2 ^ 30 by omega) (by omega), bdS, m_inn_t (show 11 < 2 ^ 30 by omega) (by omega), bdS, e, bdS]
  simp only [n10, if_false]
  rfl
theorem C_surely (h2 : h 2 ≤ 4) (h1 : 1 ≤ h 2) (v2 : vH 2 = nI (h 2)) (hb : CB h vB rn) {x : Nat} (hx : x < 100) : fX8_surely vN vH vB rn (nI x) = some (surelyA h x, upd vN 6 (nI 0)) := by
  unfold fX8_surely
  rw [c_stands_t h2 h1 v2, bdS, if_neg (by rw [nlit, n10]; exact id), c_firstSure hb.1 hx, bdS]
  simp (disch := omega) only [nlit, nI_ltI]
  rw [if_neg (by omega), if_pos hx]
  rfl
theorem M_surely (hw : WFh h) (hm : WFm h) (hr : ∀ k, k < 224 → r k = nI (h k)) (h14 : vM 14 = nI 1) {x : Nat} (hx : x < 100) : ∃ vM', fX9_surely vM r (nI x) = some (surelyA h x, vM') ∧ MA vM vM' (nI 0) := by
  obtain ⟨v, ev, hma, hv⟩ := m_good vM
  have v14 : v 14 = nI 1 := by rw [hv 14 (by omega) (by omega)]; exact h14
  refine ⟨v, ?_, hma⟩
  have e : fX9_rulesBy v r (nI 1) (nI 0) (nI 0) = some (nI (nR h (fun r => true || plBy 0 r == 0))) := m_rulesBy hw hm hr true (by omega) (by omega)
  simp only [Bool.true_or] at e
  rw [nR_all] at e
  unfold fX9_surely
  rw [ev, bdS, if_neg (by rw [v14, nlit, n10]; exact id)]
  simp only [nlit]
  rw [m_inn_t (show 99 < 2 ^ 30 by omega) (by omega), bdS, e, bdS]
  simp only [n10, if_false]
  exact m_surelyLoop hw hm hr hx
theorem C_look (h2 : h 2 ≤ 4) (h1 : 1 ≤ h 2) (v2 : vH 2 = nI (h 2)) (hb : CB h vB rn) : ∃ vB' seen', fX8_look vN vH vB seen rn = some (lcode (lkO h), upd vN 6 (nI 0), vB', seen') ∧ CB h vB' rn := by
  obtain ⟨vB', seen', e, q, q4, q5⟩ := c_lookOnce (seen := seen) hb
  refine ⟨vB', seen', ?_, q⟩
  unfold fX8_look fX0_bestLook
  rw [c_stands_t h2 h1 v2, bdS, if_neg (by rw [nlit, n10]; exact id), e, bdS]
  simp only
  rw [q4]
  rfl
theorem C_lookLeaves (h2 : h 2 ≤ 4) (h1 : 1 ≤ h 2) (v2 : vH 2 = nI (h 2)) (hb : CB h vB rn) : ∃ vB' seen', fX8_lookLeaves vN vH vB seen rn = some (lleft (lkO h), upd vN 6 (nI 0), vB', seen') ∧ CB h vB' rn := by
  obtain ⟨vB', seen', e, q, q4, q5⟩ := c_lookOnce (seen := seen) hb
  refine ⟨vB', seen', ?_, q⟩
  unfold fX8_lookLeaves fX0_leftByLook
  rw [c_stands_t h2 h1 v2, bdS, if_neg (by rw [nlit, n10]; exact id), e, bdS]
  simp only
  rw [q5]
  rfl
theorem M_look (hw : WFh h) (hm : WFm h) (hr : ∀ k, k < 224 → r k = nI (h k)) (h14 : vM 14 = nI 1) : ∃ vM' cts', fX9_look vM cts r = some (lcode (lkO h), vM', cts') ∧ MA vM vM' (nI 0) := by
  obtain ⟨v, ev, hma, hv⟩ := m_good vM
  have v14 : v 14 = nI 1 := by rw [hv 14 (by omega) (by omega)]; exact h14
  obtain ⟨v', cts', e, q, qo⟩ := m_lookOf (vM := v) (cts := cts) hw hm hr
  refine ⟨v', cts', ?_, by rw [qo 11 (by omega)]; exact hma.1, fun k a b d => by rw [qo k (by omega)]; exact hma.2 k a b d⟩
  unfold fX9_look
  rw [ev, bdS, if_neg (by rw [v14, nlit, n10]; exact id), e, bdS]
  rfl
theorem M_lookLeaves (hw : WFh h) (hm : WFm h) (hr : ∀ k, k < 224 → r k = nI (h k)) (h14 : vM 14 = nI 1) : ∃ vM' cts', fX9_lookLeaves vM cts r = some (lleft (lkO h), vM', cts') ∧ MA vM vM' (nI 0) := by
  obtain ⟨v, ev, hma, hv⟩ := m_good vM
  have v14 : v 14 = nI 1 := by rw [hv 14 (by omega) (by omega)]; exact h14
  obtain ⟨v', cts', e, q, qo⟩ := m_lookOf (vM := v) (cts := cts) hw hm hr
  refine ⟨v', cts', ?_, by rw [qo 11 (by omega)]; exact hma.1, fun k a b d => by rw [qo k (by omega)]; exact hma.2 k a b d⟩
  unfold fX9_lookLeaves
  rw [ev, bdS, if_neg (by rw [v14, nlit, n10]; exact id), e, bdS]
  simp only
  rw [q]
end LK
