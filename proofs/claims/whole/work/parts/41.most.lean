/-! MATH 21: mostMeet -/
/-- the first of the largest, if it is more than nothing -/
def AM (f : Nat → Nat) (n : Nat) (r : Int32) : Prop := (r = -2 ∧ ∀ q, q < n → f q = 0) ∨ ∃ q, q < n ∧ r = nI q ∧ 0 < f q ∧ (∀ p, p < n → f p ≤ f q) ∧ ∀ p, p < q → f p < f q
theorem AM_un {f : Nat → Nat} {n : Nat} {r s : Int32} (h1 : AM f n r) (h2 : AM f n s) : r = s := by
  rcases h1 with ⟨a, b⟩ | ⟨q, a, b, c, d, e⟩ <;> rcases h2 with ⟨a', b'⟩ | ⟨q', a', b', c', d', e'⟩
  · rw [a, a']
  · have := b q' a'; omega
  · have := b' q a; omega
  · rw [b, b']
    congr 1
    rcases Nat.lt_trichotomy q q' with h | h | h
    · have := e' q h; have := d q' a'; omega
    · exact h
    · have := e q' h; have := d' q a; omega
/-- how often a pair meets in k nights -/
def mcn (h c : Nat → Nat) (k q : Nat) : Nat := cnt (fun i => mb h (nights h c (i + 1)) q) k
theorem mcn_le (h c : Nat → Nat) (k q : Nat) : mcn h c k q ≤ k := cnt_le _ _
theorem mcn_s (h c : Nat → Nat) (k q : Nat) : mcn h c (k + 1) q = mcn h c k q + if mb h (nights h c (k + 1)) q then 1 else 0 := rfl
theorem if_c {p q : Prop} [Decidable p] [Decidable q] (e : p ↔ q) : (if p then (1 : Nat) else 0) = if q then 1 else 0 := by
  by_cases h : p
  · rw [if_pos h, if_pos (e.mp h)]
  · rw [if_neg h, if_neg (fun w => h (e.mpr w))]
section MM
variable {h c : Nat → Nat} {vH nx wd sz kd srt plc d1 d2 vD now vN vW cl who fro prs vM r st trial met : Nat → Int32} {aH aW : Nat} {x0 : Option Nat}
theorem c_mostPair (hw : WFh h) (hh : HC h vH nx wd sz kd srt none) (hc : okRow h c) (hj : injC h c) (h8 : c 8 ≤ 1000) (v4 : vH 4 = nI (h 5)) (hdr : ∀ d, d < h 5 → d1 d = nI (h (52 + 2 * d)) ∧ d2 d = nI (h (52 + 2 * d + 1)) ∧ h (52 + 2 * d) < 36 ∧ h (52 + 2 * d + 1) < 36) (hdw : WFd h) (hwr : WR h c vW cl who none) :
    ∃ r vW' prs' cl' who' fro', fX6_mostPair vW prs vH cl nx who fro sz wd kd d1 d2 (nI 60) = some (r, vW', prs', cl', who', fro') ∧ AM (mcn h c 60) 70 r := by
  have h3 := hw.2.2.2.2.2.1
  have h5 := hw.2.2.2.2.2.2.1
  obtain ⟨p0, e0, hp0⟩ := c_fill (n0 := 70) (p0 := prs) (nI 0) (by omega)
  unfold fX6_mostPair
  simp only [nlit]
  rw [e0, bdS]
  have cbC := mcn_le h c 60
  -- the choice
  have last : ∀ (p vW' cl' who' fro' : Nat → Int32), (∀ q, q < 70 → p q = nI (mcn h c 60 q)) → ∃ res, lp fX6_mostPair_B83 5000 (nI 0, -nI 2, nI 0, cl', fro', p, who', vW') = some res ∧ ∃ r, res = (r, vW', p, cl', who', fro') ∧ AM (mcn h c 60) 70 r := by
    intro p vW' cl' who' fro' hp
    refine Exists.elim (lp_inv (f := fX6_mostPair_B83) (fun i s => ∃ m r, s = (nI m, r, nI i, cl', fro', p, who', vW') ∧ AM (mcn h c 60) i r ∧ (∀ q, q < i → mcn h c 60 q ≤ m) ∧ (m = 0 ∨ ∃ q, q < i ∧ r = nI q ∧ mcn h c 60 q = m ∧ 0 < m)) (fun res => ∃ r, res = (r, vW', p, cl', who', fro') ∧ AM (mcn h c 60) 70 r) 70 ?_ ?_ 5000 0 (nI 0, -nI 2, nI 0, cl', fro', p, who', vW') (Nat.zero_le _) ⟨0, -nI 2, rfl, Or.inl ⟨rfl, fun q hq => by omega⟩, fun q hq => by omega, Or.inl rfl⟩ (by omega)) (fun res hr => ⟨res, hr⟩)
    · rintro i s hi ⟨m, r, rfl, ha, hle, hm⟩
      left
      have hmi := mcn_le h c 60 i
      have hm60 : m ≤ 60 := by
        rcases hm with hz | ⟨q, -, -, hz, -⟩
        · omega
        · have := cbC q; omega
      simp (disch := omega) only [fX6_mostPair_B83, fX6_mostPair_J112, nlit, nI_leI, ok_nI, gdT, nI_clamp, hp, nI_add]
      rw [if_neg (by omega)]
      by_cases hl : mcn h c 60 i ≤ m
      · rw [if_pos hl]
        refine ⟨_, rfl, m, r, rfl, ?_, fun q hq => ?_, ?_⟩
        · rcases ha with ⟨a1, a2⟩ | ⟨q, a1, a2, a3, a4, a5⟩
          · left
            refine ⟨a1, fun q hq => ?_⟩
            rcases Nat.lt_or_ge q i with hl' | hl'
            · exact a2 q hl'
            · obtain rfl : q = i := by omega
              rcases hm with h | ⟨q', h1, h2, h4, h6⟩
              · omega
              · have := a2 q' h1; omega
          · right
            refine ⟨q, by omega, a2, a3, fun p' hp' => ?_, a5⟩
            rcases Nat.lt_or_ge p' i with hl' | hl'
            · exact a4 p' hl'
            · obtain rfl : p' = i := by omega
              rcases hm with h | ⟨q', h1, h2, h4, h6⟩
              · have := hle q a1; omega
              · have := a4 q' h1; omega
        · rcases Nat.lt_or_ge q i with hl' | hl'
          · exact hle q hl'
          · obtain rfl : q = i := by omega
            exact hl
        · rcases hm with h | ⟨q', h1, h2, h4, h6⟩
          · exact Or.inl h
          · exact Or.inr ⟨q', by omega, h2, h4, h6⟩
      · rw [if_neg hl]
        refine ⟨_, rfl, mcn h c 60 i, nI i, rfl, Or.inr ⟨i, by omega, rfl, by omega, fun p' hp' => ?_, fun p' hp' => ?_⟩, fun q hq => ?_, Or.inr ⟨i, by omega, rfl, rfl, by omega⟩⟩
        · rcases Nat.lt_or_ge p' i with hl' | hl'
          · have := hle p' hl'; omega
          · obtain rfl : p' = i := by omega
            exact Nat.le_refl _
        · have := hle p' hp'; omega
        · rcases Nat.lt_or_ge q i with hl' | hl'
          · have := hle q hl'; omega
          · obtain rfl : q = i := by omega
            exact Nat.le_refl _
    · rintro s ⟨m, r, rfl, ha, hle, hm⟩
      simp (disch := omega) only [fX6_mostPair_B83, nlit, nI_leI, exS]
      rw [if_pos (by omega)]
      exact ⟨_, rfl, r, rfl, ha⟩
  refine Exists.elim (lp_inv (f := fX6_mostPair_B10 vH nx sz wd kd d1 d2 (nI 60)) (fun i s => ∃ cl' fro' p who' vW', s = (nI i, cl', fro', p, who', vW') ∧ WR h (nights h c i) vW' cl' who' none ∧ ∀ q, q < 70 → p q = nI (mcn h c i q)) (fun res => ∃ r vW' p cl' who' fro', res = (r, vW', p, cl', who', fro') ∧ AM (mcn h c 60) 70 r) 60 ?_ ?_ 5000 0 (nI 0, cl, fro, p0, who, vW) (Nat.zero_le _) ⟨cl, fro, p0, who, vW, rfl, hwr, hp0⟩ (by omega)) (fun res hr => ?_)
  · rintro i s hi ⟨cl', fro', p, who', vW', rfl, q, hp⟩
    left
    obtain ⟨a1, a2, a3, a4⟩ := nts hw hc hj h8 i (by omega)
    obtain ⟨b1, b2, b3, b4⟩ := nts hw hc hj h8 (i + 1) (by omega)
    obtain ⟨vW2, cl2, who2, fro2, e, q1, q2, -, -⟩ := c_pass0 (fro := fro') hw hh a1 a2 q
    have q1 : WR h (nights h c (i + 1)) vW2 cl2 who2 none := q1
    simp (disch := omega) only [fX6_mostPair_B10, nlit, nI_leI, e, bdS]
    rw [if_neg (by omega)]
    obtain ⟨res, er, p', hres, hp'⟩ := lp_inv (f := fX6_mostPair_B22 vH d1 d2 (nI i)) (fun d s => ∃ p', s = (nI d, cl2, fro2, p', who2, vW2) ∧ ∀ q, q < 70 → p' q = nI (mcn h c i q + cnt (fun d => pq h (nights h c (i + 1)) d == some q) d)) (fun res => ∃ p', res = .inr (nI (i + 1), cl2, fro2, p', who2, vW2) ∧ ∀ q, q < 70 → p' q = nI (mcn h c (i + 1) q)) (h 5) (by
      rintro d s hd ⟨p', rfl, hp'⟩
      left
      simp (disch := omega) only [fX6_mostPair_B22, fX6_mostPair_J63, v4, nlit, nI_leI, c_pairAt hw v4 hdr q1 hd, bdS, nI_add]
      rw [if_neg (by omega)]
      cases hq : pq h (nights h c (i + 1)) d with
      | none =>
        refine ⟨_, rfl, p', rfl, fun q hq' => ?_⟩
        rw [hp' q hq', cnt, hq]
        rfl
      | some q0 =>
        have h70 := pq_70 h3 hq
        show ∃ s', (if nI q0 < nI 0 then _ else if nI 70 ≤ nI q0 then _ else _) = _ ∧ _
        simp (disch := omega) only [nI_ltI, nI_leI]
        rw [if_neg (by omega), if_neg (by omega)]
        show ∃ s', gd (okI (nI q0) 70) (gd (okI (nI q0) 70) (some (Sum.inr (_, _, _, upd p' (nI q0).toNatClampNeg (p' (nI q0).toNatClampNeg + nI 1), _, _)))) = _ ∧ _
        simp (disch := omega) only [ok_nI, gdT, nI_clamp, hp', nI_add]
        refine ⟨_, rfl, _, rfl, fun q hq' => ?_⟩
        unfold upd
        by_cases e1 : q = q0
        · rw [if_pos e1, e1, cnt, hq]
          simp [Nat.add_assoc]
        · rw [if_neg e1, hp' q hq', cnt, hq]
          have : ¬ q0 = q := fun w => e1 w.symm
          simp [this]) (by
      rintro s ⟨p', rfl, hp'⟩
      simp (disch := omega) only [fX6_mostPair_B22, v4, nlit, nI_leI, nI_add, exS]
      rw [if_pos (by omega)]
      refine ⟨_, rfl, p', rfl, fun q hq => ?_⟩
      rw [hp' q hq, cnt_pq h3 hdw b2, mcn_s]) 5000 0 (nI 0, cl2, fro2, p, who2, vW2) (Nat.zero_le _) ⟨p, rfl, hp⟩ (by omega)
    rw [er, hres]
    exact ⟨_, rfl, cl2, fro2, p', who2, vW2, rfl, q1, hp'⟩
  · rintro s ⟨cl', fro', p, who', vW', rfl, q, hp⟩
    simp (disch := omega) only [fX6_mostPair_B10, nlit, nI_leI]
    rw [if_pos (by omega)]
    obtain ⟨res, e, r, hr, ha⟩ := last p vW' cl' who' fro' hp
    rw [e, exS]
    exact ⟨_, rfl, r, vW', p, cl', who', fro', hr, ha⟩
  · obtain ⟨e, r, vW', p, cl', who', fro', hr, ha⟩ := hr
    exact ⟨r, vW', p, cl', who', fro', e.trans (congrArg some hr), ha⟩
theorem C_mostMeet (hx : CX h c vH nx wd sz kd srt plc d1 d2 now) (hdw : WFd h) :
    ∃ a vW' who' cl' prs' fro', fX8_mostMeet aH aW vN vH vW vD now who kd cl srt prs nx fro sz wd d1 d2 = some (a, upd vN 6 (nI 0), vW', who', cl', prs', fro', aH) ∧ AM (mcn h c 60) 70 a := by
  obtain ⟨vW1, who1, cl1, e1, w1, -⟩ := c_start0 (vW := vW) (vD := vD) (who := who) (cl := cl) hx
  obtain ⟨hw, hh, hc, hj, h8, hd, h1, v4, hpl, hdr⟩ := hx
  obtain ⟨r, vW', prs', cl', who', fro', e2, ha⟩ := c_mostPair (fro := fro) (prs := prs) hw hh hc hj h8 v4 hdr hdw w1
  refine ⟨r, vW', who', cl', prs', fro', ?_, ha⟩
  unfold fX8_mostMeet
  rw [c_stands_t hw.2.2.2.2.1 h1 hh.2.1, bdS, if_neg (by rw [nlit, n10]; exact id), nlit, e1, bdS]
  simp only [nlit]
  rw [e2, bdS]
  rfl
/-- the reference's table: the pair (i / 7, i % 7) -/
def q7 (i : Nat) : Nat := 10 * (i / 7) + i % 7
theorem mb_q7 {i : Nat} (hi : i < 49) : mb h c (q7 i) = (decide (i % 7 < h 3) && decide (i / 7 < i % 7) && doorb h (c (i / 7)) (c (i % 7))) := by
  have e1 : q7 i / 10 = i / 7 := by unfold q7; omega
  have e2 : q7 i % 10 = i % 7 := by unfold q7; omega
  unfold mb
  rw [e1, e2]
theorem M_mostMeet (hx : MX h c vM r st) : ∃ a vM' tr' met', fX9_mostMeet vM st trial met r = some (a, vM', tr', met') ∧ AM (mcn h c 60) 70 a ∧ MA vM vM' (nI 0) := by
  obtain ⟨hw, hc, hj, h8, hr, hst, h14⟩ := hx
  have h3 := hw.2.2.2.2.2.1
  obtain ⟨v, ev, hma, hv⟩ := m_good vM
  have v14 : v 14 = nI 1 := by rw [hv 14 (by omega) (by omega)]; exact h14
  obtain ⟨t0, e0, ht0⟩ := m_begin (vM := v) (trial := trial) hst
  unfold fX9_mostMeet
  rw [ev, bdS, if_neg (by rw [v14, nlit, n10]; exact id)]
  simp only [nlit]
  have cb : ∀ k q, mcn h c k q ≤ k := fun k q => mcn_le h c k q
  -- the choice
  have last : ∀ (p tr : Nat → Int32), (∀ i, i < 49 → p i = nI (mcn h c 60 (q7 i))) → ∃ res, lp fX9_mostMeet_B148 5000 (-nI 2, nI 0, nI 0, p, tr, v) = some res ∧ ∃ a, res = (a, v, tr, p) ∧ AM (mcn h c 60) 70 a := by
    intro p tr hp
    have zero : ∀ q, q < 70 → (∀ i, i < 49 → q7 i ≠ q) → mcn h c 60 q = 0 := by
      intro q hq hne
      apply cnt_0
      intro i hi
      have : ¬ (q % 10 < h 3 ∧ q / 10 < q % 10) := fun w => hne (7 * (q / 10) + q % 10) (by omega) (by unfold q7; omega)
      unfold mb
      by_cases h1 : q % 10 < h 3
      · by_cases h2 : q / 10 < q % 10
        · exact absurd ⟨h1, h2⟩ this
        · simp [h2]
      · simp [h1]
    refine Exists.elim (lp_inv (f := fX9_mostMeet_B148) (fun i s => ∃ m a, s = (a, nI m, nI i, p, tr, v) ∧ m ≤ 60 ∧ (∀ j, j < i → mcn h c 60 (q7 j) ≤ m) ∧ ((m = 0 ∧ a = -nI 2) ∨ ∃ j, j < i ∧ a = nI (q7 j) ∧ mcn h c 60 (q7 j) = m ∧ 0 < m ∧ ∀ j', j' < j → mcn h c 60 (q7 j') < m)) (fun res => ∃ a, res = (a, v, tr, p) ∧ AM (mcn h c 60) 70 a) 49 ?_ ?_ 5000 0 (-nI 2, nI 0, nI 0, p, tr, v) (Nat.zero_le _) ⟨0, -nI 2, rfl, by omega, fun q hq => by omega, Or.inl ⟨rfl, rfl⟩⟩ (by omega)) (fun res hr => ⟨res, hr⟩)
    · rintro i s hi ⟨m, a, rfl, hm6, hle, hm⟩
      left
      have hmi := cb 60 (q7 i)
      simp (disch := omega) only [fX9_mostMeet_B148, fX9_mostMeet_J187, nlit, nI_leI, nI_ltI, ok_nI, gdT, nI_clamp, hp, nI_add, pk_div, irm_nI, pk_mul]
      rw [if_neg (by omega)]
      by_cases hl : m < mcn h c 60 (q7 i)
      · rw [if_pos hl]
        refine ⟨_, rfl, mcn h c 60 (q7 i), nI (q7 i), rfl, hmi, fun j hj => ?_, Or.inr ⟨i, by omega, rfl, rfl, by omega, fun j' hj' => ?_⟩⟩
        · rcases Nat.lt_or_ge j i with hl' | hl'
          · have := hle j hl'; omega
          · obtain rfl : j = i := by omega
            exact Nat.le_refl _
        · have := hle j' hj'; omega
      · rw [if_neg hl]
        refine ⟨_, rfl, m, a, rfl, hm6, fun j hj => ?_, ?_⟩
        · rcases Nat.lt_or_ge j i with hl' | hl'
          · exact hle j hl'
          · obtain rfl : j = i := by omega
            omega
        · rcases hm with h | ⟨j, a1, a2, a3, a4, a5⟩
          · exact Or.inl h
          · exact Or.inr ⟨j, by omega, a2, a3, a4, a5⟩
    · rintro s ⟨m, a, rfl, hm6, hle, hm⟩
      simp (disch := omega) only [fX9_mostMeet_B148, nlit, nI_leI, exS]
      rw [if_pos (by omega)]
      refine ⟨_, rfl, a, rfl, ?_⟩
      rcases hm with ⟨h1, h2⟩ | ⟨j, a1, a2, a3, a4, a5⟩
      · left
        refine ⟨h2, fun q hq => ?_⟩
        by_cases he : ∃ i, i < 49 ∧ q7 i = q
        · obtain ⟨i, hi, rfl⟩ := he
          have := hle i hi; omega
        · exact zero q hq (fun i hi e => he ⟨i, hi, e⟩)
      · right
        refine ⟨q7 j, by unfold q7; omega, a2, by omega, fun q hq => ?_, fun q hq => ?_⟩
        · by_cases he : ∃ i, i < 49 ∧ q7 i = q
          · obtain ⟨i, hi, rfl⟩ := he
            have := hle i hi; omega
          · rw [zero q hq (fun i hi e => he ⟨i, hi, e⟩)]; omega
        · have hj70 : q7 j < 70 := by unfold q7; omega
          by_cases he : ∃ i, i < 49 ∧ q7 i = q
          · obtain ⟨i, hi, rfl⟩ := he
            have := a5 i (by unfold q7 at hq; omega)
            omega
          · rw [zero q (by omega) (fun i hi e => he ⟨i, hi, e⟩)]; omega
  have one : ∀ i, i < 60 → ∀ (p tr : Nat → Int32), (∀ j, j < 9 → tr j = nI (nights h c (i + 1) j)) → (∀ j, j < 49 → p j = nI (mcn h c i (q7 j))) → ∃ p', lp (fX9_mostMeet_B61 r (nI i) v) 5000 (nI 0, p, tr) = some (.inr (nI (i + 1), p', tr, v)) ∧ ∀ j, j < 49 → p' j = nI (mcn h c (i + 1) (q7 j)) := by
    intro i hi p tr htr hp
    obtain ⟨b1, b2, b3, b4⟩ := nts hw hc hj h8 (i + 1) (by omega)
    have b36 : ∀ t, t < h 3 → nights h c (i + 1) t < 36 := fun t ht => okc_lt hw (b1.1 t ht)
    -- what was added for the pairs before (t, u)
    refine Exists.elim (lp_inv (f := fX9_mostMeet_B61 r (nI i) v) (fun t s => ∃ p', s = (nI t, p', tr) ∧ ∀ j, j < 49 → p' j = nI (mcn h c i (q7 j) + if j / 7 < t ∧ mb h (nights h c (i + 1)) (q7 j) = true then 1 else 0)) (fun res => ∃ p', res = .inr (nI (i + 1), p', tr, v) ∧ ∀ j, j < 49 → p' j = nI (mcn h c (i + 1) (q7 j))) (h 3) ?_ ?_ 5000 0 (nI 0, p, tr) (Nat.zero_le _) ⟨p, rfl, fun j hj => by rw [hp j hj, if_neg (by omega)]; rfl⟩ (by omega)) (fun res hr => ?_)
    · rintro t s ht ⟨p', rfl, hp'⟩
      left
      simp (disch := omega) only [fX9_mostMeet_B61, nlit, ok_nI, gdT, nI_clamp, hr, nI_leI, nI_add]
      rw [if_neg (by omega)]
      obtain ⟨res, er, p2, rfl, hp2⟩ := lp_inv (f := fX9_mostMeet_B75 r v (nI t) tr) (fun u s => ∃ p2, s = (nI (t + 1 + u), p2) ∧ ∀ j, j < 49 → p2 j = nI (mcn h c i (q7 j) + if (j / 7 < t ∨ j / 7 = t ∧ j % 7 < t + 1 + u) ∧ mb h (nights h c (i + 1)) (q7 j) = true then 1 else 0)) (fun res => ∃ p2, res = .inr (nI (t + 1), p2, tr) ∧ ∀ j, j < 49 → p2 j = nI (mcn h c i (q7 j) + if j / 7 < t + 1 ∧ mb h (nights h c (i + 1)) (q7 j) = true then 1 else 0)) (h 3 - (t + 1)) (by
        rintro u s hu ⟨p2, rfl, hp2⟩
        left
        have hb : mb h (nights h c (i + 1)) (q7 (7 * t + (t + 1 + u))) = doorb h (nights h c (i + 1) t) (nights h c (i + 1) (t + 1 + u)) := by
          rw [mb_q7 (by omega)]
          have e1 : (7 * t + (t + 1 + u)) / 7 = t := by omega
          have e2 : (7 * t + (t + 1 + u)) % 7 = t + 1 + u := by omega
          rw [e1, e2]
          simp [show t + 1 + u < h 3 by omega, show t < t + 1 + u by omega]
        have cq := cb i (q7 (7 * t + (t + 1 + u)))
        simp (disch := omega) only [fX9_mostMeet_B75, fX9_mostMeet_J121, nlit, ok_nI, gdT, nI_clamp, hr, nI_leI, nI_add, pk_mul, htr, m_areDoored hw hr (b36 t ht) (b36 (t + 1 + u) (by omega)), bdS, hp2]
        rw [if_neg (by omega)]
        have old : (7 * t + (t + 1 + u)) / 7 = t ∧ (7 * t + (t + 1 + u)) % 7 = t + 1 + u := by omega
        have step : ∀ (w : Nat), w = (if mb h (nights h c (i + 1)) (q7 (7 * t + (t + 1 + u))) = true then 1 else 0) → ∀ j, j < 49 → upd p2 (7 * t + (t + 1 + u)) (nI (mcn h c i (q7 (7 * t + (t + 1 + u))) + (if ((7 * t + (t + 1 + u)) / 7 < t ∨ (7 * t + (t + 1 + u)) / 7 = t ∧ (7 * t + (t + 1 + u)) % 7 < t + 1 + u) ∧ mb h (nights h c (i + 1)) (q7 (7 * t + (t + 1 + u))) = true then 1 else 0) + w)) j = nI (mcn h c i (q7 j) + if (j / 7 < t ∨ j / 7 = t ∧ j % 7 < t + 1 + (u + 1)) ∧ mb h (nights h c (i + 1)) (q7 j) = true then 1 else 0) := by
          intro w hwv j hj
          unfold upd
          by_cases ej : j = 7 * t + (t + 1 + u)
          · rw [if_pos ej, ← ej, hwv, ← ej]
            congr 1
            have : ¬ ((j / 7 < t ∨ j / 7 = t ∧ j % 7 < t + 1 + u) ∧ mb h (nights h c (i + 1)) (q7 j) = true) := fun w => by omega
            rw [if_neg this]
            by_cases hm : mb h (nights h c (i + 1)) (q7 j) = true
            · rw [if_pos hm, if_pos ⟨Or.inr ⟨by omega, by omega⟩, hm⟩]
            · rw [if_neg hm, if_neg (fun w => hm w.2)]
          · rw [if_neg ej, hp2 j hj]
            congr 2
            refine if_c ⟨?_, ?_⟩
            · rintro ⟨w1, w2⟩; exact ⟨by omega, w2⟩
            · rintro ⟨w1, w2⟩; exact ⟨by omega, w2⟩
        cases hq : doorb h (nights h c (i + 1) t) (nights h c (i + 1) (t + 1 + u)) with
        | false =>
          simp only [Bool.false_eq_true, if_false, if_true]
          exact ⟨_, rfl, _, rfl, step 0 (by rw [hb, hq]; rfl)⟩
        | true =>
          simp only [if_true, n10, if_false]
          exact ⟨_, rfl, _, rfl, step 1 (by rw [hb, hq]; rfl)⟩) (by
        rintro s ⟨p2, rfl, hp2⟩
        simp (disch := omega) only [fX9_mostMeet_B75, nlit, ok_nI, gdT, nI_clamp, hr, nI_leI, nI_add, exS]
        rw [if_pos (by omega)]
        refine ⟨_, rfl, p2, rfl, fun j hj => ?_⟩
        rw [hp2 j hj]
        congr 2
        refine if_c ⟨?_, ?_⟩
        · rintro ⟨w1, w2⟩; exact ⟨by omega, w2⟩
        · rintro ⟨w1, w2⟩
          have hm := w2
          rw [mb_q7 hj] at hm
          simp at hm
          exact ⟨by omega, w2⟩) 5000 0 (nI (t + 1), p') (Nat.zero_le _) ⟨p', rfl, fun j hj => by
            rw [hp' j hj]
            congr 2
            refine if_c ⟨?_, ?_⟩
            · rintro ⟨w1, w2⟩; exact ⟨by omega, w2⟩
            · rintro ⟨w1, w2⟩
              have hm := w2
              rw [mb_q7 hj] at hm
              simp at hm
              exact ⟨by omega, w2⟩⟩ (by omega)
      rw [er]
      exact ⟨_, rfl, p2, rfl, hp2⟩
    · rintro s ⟨p', rfl, hp'⟩
      simp (disch := omega) only [fX9_mostMeet_B61, nlit, ok_nI, gdT, nI_clamp, hr, nI_leI, nI_add, exS]
      rw [if_pos (by omega)]
      refine ⟨_, rfl, p', rfl, fun j hj => ?_⟩
      rw [hp' j hj, mcn_s]
      congr 2
      refine if_c ⟨?_, ?_⟩
      · rintro ⟨w1, w2⟩; exact w2
      · intro w2
        have hm := w2
        rw [mb_q7 hj] at hm
        simp at hm
        exact ⟨by omega, w2⟩
    · obtain ⟨e, p', hres, hp'⟩ := hr
      exact ⟨p', e.trans (congrArg some hres), hp'⟩
  -- the nights
  have nigh : ∀ (p : Nat → Int32), (∀ j, j < 49 → p j = nI 0) → ∃ res, lp (fX9_mostMeet_B44 r) 5000 (nI 0, p, t0, v) = some res ∧ ∃ a tr p', res = (a, v, tr, p') ∧ AM (mcn h c 60) 70 a := by
    intro p hp
    refine Exists.elim (lp_inv (f := fX9_mostMeet_B44 r) (fun i s => ∃ p' tr, s = (nI i, p', tr, v) ∧ (∀ j, j < 9 → tr j = nI (nights h c i j)) ∧ ∀ j, j < 49 → p' j = nI (mcn h c i (q7 j))) (fun res => ∃ a tr p', res = (a, v, tr, p') ∧ AM (mcn h c 60) 70 a) 60 ?_ ?_ 5000 0 (nI 0, p, t0, v) (Nat.zero_le _) ⟨p, t0, rfl, ht0, hp⟩ (by omega)) (fun res hr => ⟨res, hr⟩)
    · rintro i s hi ⟨p', tr, rfl, htr, hp'⟩
      left
      obtain ⟨a1, a2, a3, a4⟩ := nts hw hc hj h8 i (by omega)
      obtain ⟨tr2, e, htr2⟩ := m_nightOf (vM := v) hw hr htr a1
      simp (disch := omega) only [fX9_mostMeet_B44, nlit, nI_leI, e, bdS]
      rw [if_neg (by omega)]
      obtain ⟨p2, e2, hp2⟩ := one i hi p' tr2 htr2 hp'
      rw [e2]
      exact ⟨_, rfl, p2, tr2, rfl, htr2, hp2⟩
    · rintro s ⟨p', tr, rfl, htr, hp'⟩
      simp (disch := omega) only [fX9_mostMeet_B44, nlit, nI_leI]
      rw [if_pos (by omega)]
      obtain ⟨res, e, a, hres, ha⟩ := last p' tr hp'
      rw [e, exS]
      exact ⟨_, rfl, a, tr, p', hres, ha⟩
  refine Exists.elim (lp_inv (f := fX9_mostMeet_B19 st trial r) (fun i s => ∃ p, s = (nI i, p, v) ∧ ∀ j, j < i → p j = nI 0) (fun res => ∃ a tr p', res = (a, v, tr, p') ∧ AM (mcn h c 60) 70 a) 49 ?_ ?_ 5000 0 (nI 0, met, v) (Nat.zero_le _) ⟨met, rfl, fun j hj => by omega⟩ (by omega)) (fun res hr => ?_)
  · rintro i s hi ⟨p, rfl, hp⟩
    left
    simp (disch := omega) only [fX9_mostMeet_B19, nlit, nI_leI, ok_nI, gdT, nI_clamp, nI_add]
    rw [if_neg (by omega)]
    refine ⟨_, rfl, _, rfl, fun j hj => ?_⟩
    unfold upd
    by_cases e : j = i
    · rw [if_pos e]
    · rw [if_neg e]; exact hp j (by omega)
  · rintro s ⟨p, rfl, hp⟩
    simp (disch := omega) only [fX9_mostMeet_B19, nlit, nI_leI]
    rw [if_pos (by omega), e0, bdS]
    obtain ⟨res, e, q⟩ := nigh p hp
    rw [e, exS]
    exact ⟨_, rfl, q⟩
  · obtain ⟨e, a, tr, p', hres, ha⟩ := hr
    exact ⟨a, v, tr, p', e.trans (congrArg some hres), ha, hma⟩
end MM
