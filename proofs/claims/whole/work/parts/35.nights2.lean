/-! MATH 15: period, behind, steps, meetings -/
section QP
variable {h c : Nat → Nat} {vH nx wd sz kd srt plc d1 d2 vD now vN vW cl who fro vM r st trial : Nat → Int32} {aH aW : Nat} {x0 : Option Nat}
theorem c_isAsIn {d : Nat → Nat} (hw : WFh h) (v5 : vH 5 = nI (h 3)) (hd : DR h c now) (hc : okRow h c) (hcd : okRow h d) (hwr : WR h d vW cl who x0) : fX6_isAsIn vW vH cl vD now = some (nI (if sameR h c d then 1 else 0)) := by
  have h3 := hw.2.2.2.2.2.1
  unfold fX6_isAsIn sameR
  refine Exists.elim (lp_find (f := fX6_isAsIn_B2 vH cl vD now) (fun t => d t != c t) (h 3) (fun i s => s = nI i) (fun o res => res = nI (if o.isNone then 1 else 0)) ?_ ?_ (s := nI 0) rfl (show h 3 < 5000 by omega)) (fun res hr => ?_)
  · rintro i s hi rfl
    have b1 := okc_lt hw (hc.1 i hi)
    have b2 := okc_lt hw (hcd.1 i hi)
    simp (disch := omega) only [fX6_isAsIn_B2, nlit, v5, nI_leI, ok_nI, gdT, nI_clamp, hwr.1 i hi, c_dcell hw hd hi, bdS, nI_eq, nI_add, exS]
    rw [if_neg (by omega), if_neg (by omega)]
    constructor
    · intro hq
      have : d i = c i := by simpa using hq
      rw [if_pos this]
      exact ⟨_, rfl, rfl⟩
    · intro hq
      have : ¬ d i = c i := by simpa using hq
      rw [if_neg this]
      exact ⟨_, rfl, rfl⟩
  · rintro s rfl
    simp (disch := omega) only [fX6_isAsIn_B2, fX6_isAsIn_J41, nlit, v5, nI_leI, exS]
    rw [if_pos (Nat.le_refl _)]
    exact ⟨_, rfl, rfl⟩
  · rw [nlit, hr.1, hr.2]
theorem C_period (hx : CX h c vH nx wd sz kd srt plc d1 d2 now) :
    ∃ vW' who' cl' fro', fX8_period aH aW vN vH vW vD now who kd cl srt nx fro sz wd = some (periodA h c, upd vN 6 (nI 0), vW', who', cl', fro', aH) := by
  obtain ⟨vW1, who1, cl1, e1, w1, -⟩ := c_start0 (vW := vW) (vD := vD) (who := who) (cl := cl) hx
  obtain ⟨hw, hh, hc, hj, h8, hd, h1, v4, hpl, hdr⟩ := hx
  have h2 := hw.2.2.2.2.1
  have h3 := hw.2.2.2.2.2.1
  unfold fX8_period
  rw [c_stands_t h2 h1 hh.2.1, bdS, if_neg (by rw [nlit, n10]; exact id), nlit, e1, bdS]
  simp only
  refine Exists.elim (lp_find (f := fX8_period_B34 aH vN vH vD now kd nx sz wd) (fun k => sameR h c (nights h c (k + 1))) 200 (fun i s => ∃ cl' fro' who' vW', s = (nI (i + 1), cl', fro', who', vW') ∧ WR h (nights h c i) vW' cl' who' none) (fun o res => ∃ vW' who' cl' fro', res = (orNone (o.map (· + 1)), upd vN 6 (nI 0), vW', who', cl', fro', aH)) ?_ ?_ ⟨cl1, fro, who1, vW1, rfl, w1⟩ (show 200 < 5000 by omega)) (fun res hr => ?_)
  · rintro i s hi ⟨cl', fro', who', vW', rfl, q⟩
    obtain ⟨a1, a2, a3, a4⟩ := nts hw hc hj h8 i (by omega)
    obtain ⟨vW2, cl2, who2, fro2, e, q1, q2, -, -⟩ := c_pass0 (fro := fro') hw hh a1 a2 q
    have a5 := (nts hw hc hj h8 (i + 1) (by omega)).1
    simp (disch := omega) only [fX8_period_B34, fX8_answer, nlit, nI_ltI, bdS, e, exS, nI_add, c_isAsIn (d := nights h c (i + 1)) hw hh.2.2.1 hd hc a5 q1]
    rw [if_neg (by omega)]
    constructor
    · intro hq
      simp only [hq, Bool.false_eq_true, if_false, if_true]
      exact ⟨_, rfl, cl2, fro2, who2, vW2, rfl, q1⟩
    · intro hq
      simp only [hq, if_true, n10, if_false]
      exact ⟨_, rfl, vW2, who2, cl2, fro2, rfl⟩
  · rintro s ⟨cl', fro', who', vW', rfl, q⟩
    simp (disch := omega) only [fX8_period_B34, fX8_answer, nlit, nI_ltI, bdS, exS]
    rw [if_pos (by omega)]
    exact ⟨_, rfl, vW', who', cl', fro', rfl⟩
  · obtain ⟨e, vW', who', cl', fro', hr⟩ := hr
    exact ⟨vW', who', cl', fro', e.trans (congrArg some hr)⟩
theorem M_period (hx : MX h c vM r st) : ∃ vM' tr', fX9_period vM st trial r = some (periodA h c, vM', tr') ∧ MA vM vM' (nI 0) := by
  obtain ⟨hw, hc, hj, h8, hr, hst, h14⟩ := hx
  have h3 := hw.2.2.2.2.2.1
  obtain ⟨v, ev, hma, hv⟩ := m_good vM
  have v14 : v 14 = nI 1 := by rw [hv 14 (by omega) (by omega)]; exact h14
  obtain ⟨t0, e0, ht0⟩ := m_begin (vM := v) (trial := trial) hst
  -- the inner loop
  have inner : ∀ (y : Nat) (p : Nat → Int32) (d : Nat → Nat), okRow h d → (∀ k, k < 9 → p k = nI (d k)) → lp (fX9_period_B43 st r (nI y) v) 5000 (nI 1, nI 0, p) = some (if sameR h c d then .inl (nI y, v, p) else .inr (nI (y + 1), p, v)) := by
    intro y p d hcd hp
    have hnn : ∀ i, i ≤ h 3 → (fnd (fun t => d t != c t) i).isNone = true ∨ (fnd (fun t => d t != c t) i).isNone = false := fun i _ => by cases (fnd (fun t => d t != c t) i).isNone <;> simp
    refine lp_for (fun i => (nI (if (fnd (fun t => d t != c t) i).isNone then 1 else 0), nI i, p)) (h 3) ?_ ?_ (by omega) rfl
    · intro i hi
      have b1 := okc_lt hw (hc.1 i hi)
      have b2 := okc_lt hw (hcd.1 i hi)
      have hf : (fnd (fun t => d t != c t) (i + 1)).isNone = ((fnd (fun t => d t != c t) i).isNone && (d i == c i)) := by
        rw [fnd]
        cases fnd (fun t => d t != c t) i with
        | some u => rfl
        | none =>
          by_cases e : d i = c i
          · simp [e]
          · simp [e]
      rw [hf]
      simp (disch := omega) only [fX9_period_B43, fX9_period_J76, fX9_period_J77, nlit, ok_nI, gdT, nI_clamp, hr, nI_leI, hp, hst, nI_eq, nI_add]
      rw [if_neg (by omega)]
      cases (fnd (fun t => d t != c t) i).isNone with
      | false => simp
      | true =>
        by_cases e : d i = c i
        · simp [e, n10]
        · simp [e, n10]
    · simp (disch := omega) only [fX9_period_B43, nlit, ok_nI, gdT, nI_clamp, hr, nI_leI, exS, nI_add]
      rw [if_pos (Nat.le_refl _)]
      unfold sameR
      cases (fnd (fun t => d t != c t) (h 3)).isNone with
      | false => simp [exS]
      | true => simp [exS, n10]
  unfold fX9_period
  rw [ev, bdS, if_neg (by rw [v14, nlit, n10]; exact id), e0, bdS]
  refine Exists.elim (lp_find (f := fX9_period_B23 st r) (fun k => sameR h c (nights h c (k + 1))) 200 (fun i s => ∃ p, s = (nI (i + 1), p, v) ∧ ∀ k, k < 9 → p k = nI (nights h c i k)) (fun o res => ∃ p, res = (orNone (o.map (· + 1)), v, p)) ?_ ?_ ⟨t0, rfl, ht0⟩ (show 200 < 5000 by omega)) (fun res hres => ?_)
  · rintro i s hi ⟨p, rfl, hp⟩
    obtain ⟨a1, a2, a3, a4⟩ := nts hw hc hj h8 i (by omega)
    obtain ⟨p', e, hp'⟩ := m_nightOf (vM := v) hw hr hp a1
    have a5 := (nts hw hc hj h8 (i + 1) (by omega)).1
    simp (disch := omega) only [fX9_period_B23, nlit, nI_ltI, e, bdS]
    rw [if_neg (by omega), inner (i + 1) p' (nights h c (i + 1)) a5 hp']
    constructor
    · intro hq
      simp only [hq, Bool.false_eq_true, if_false]
      exact ⟨_, rfl, p', rfl, hp'⟩
    · intro hq
      simp only [hq, if_true]
      exact ⟨_, rfl, p', rfl⟩
  · rintro s ⟨p, rfl, hp⟩
    simp (disch := omega) only [fX9_period_B23, nlit, nI_ltI, exS]
    rw [if_pos (by omega)]
    exact ⟨_, rfl, p, rfl⟩
  · obtain ⟨e, p, hres⟩ := hres
    exact ⟨v, p, e.trans (congrArg some hres), hma⟩
theorem C_behind (hx : CX h c vH nx wd sz kd srt plc d1 d2 now) {t k : Nat} (ht : t < h 3) (hk : k ≤ 200) :
    ∃ vW' who' cl' fro', fX8_behind aH aW vN vH vW vD now who kd cl srt nx fro sz wd (nI t) (nI k) = some (behindA h c t k, upd vN 6 (nI 0), vW', who', cl', fro', aH) := by
  obtain ⟨vW1, who1, cl1, e1, w1, -⟩ := c_start0 (vW := vW) (vD := vD) (who := who) (cl := cl) hx
  obtain ⟨hw, hh, hc, hj, h8, hd, h1, v4, hpl, hdr⟩ := hx
  have h3 := hw.2.2.2.2.2.1
  obtain ⟨vW2, cl2, who2, fro2, e2, w2⟩ := c_goOn (fro := fro) hw hh hc hj h8 w1 (k := k) (by omega)
  have hok := okc_lt hw ((nts hw hc hj h8 k (by omega)).1.1 t ht)
  refine ⟨vW2, who2, cl2, fro2, ?_⟩
  unfold fX8_behind
  rw [c_hasThing_t h3 hh.2.2.1 ht, bdS, if_neg (by rw [nlit, n10]; exact id)]
  simp (disch := omega) only [nlit, nI_ltI, nI_leI]
  rw [if_neg (by omega), if_pos hk, e1, bdS]
  simp only
  rw [e2, bdS]
  simp only
  rw [c_wcell h3 w2 ht, bdS, c_ten hok, bdS]
  rfl
theorem m_why_0 {x : Int32} {n k : Nat} (hn : n < 2 ^ 30) (hx : x = nI 1) (hk : k ≤ n) : fX9_why x (nI k) (nI n) = some (nI 0) := by
  unfold fX9_why fX9_why_J22
  rw [hx, if_neg (by rw [nlit, n10]; exact id), nlit, m_inn_t hn hk, bdS, if_neg (by rw [n10]; exact id)]
theorem M_behind (hx : MX h c vM r st) {t k : Nat} (ht : t < h 3) (hk : k ≤ 200) :
    ∃ vM' tr', fX9_behind vM r st trial (nI t) (nI k) = some (behindA h c t k, vM', tr') ∧ MA vM vM' (nI 0) := by
  obtain ⟨hw, hc, hj, h8, hr, hst, h14⟩ := hx
  have h3 := hw.2.2.2.2.2.1
  obtain ⟨v, ev, hma, hv⟩ := m_good vM
  have v14 : v 14 = nI 1 := by rw [hv 14 (by omega) (by omega)]; exact h14
  obtain ⟨t0, e0, ht0⟩ := m_begin (vM := v) (trial := trial) hst
  unfold fX9_behind
  rw [ev, bdS, m_isThing_t hw hr v14 ht, bdS]
  simp only [nlit]
  rw [m_why_0 (by omega) rfl hk, bdS]
  simp only [↓reduceIte]
  rw [e0, bdS]
  refine Exists.elim (lp_inv (f := fX9_behind_B35 r (nI t) (nI k)) (fun i s => ∃ p, s = (nI i, p, v) ∧ ∀ j, j < 9 → p j = nI (nights h c i j)) (fun res => ∃ p, res = (behindA h c t k, v, p)) k ?_ ?_ 5000 0 (nI 0, t0, v) (Nat.zero_le _) ⟨t0, rfl, ht0⟩ (by omega)) (fun res hres => ?_)
  · rintro i s hi ⟨p, rfl, hp⟩
    left
    obtain ⟨a1, a2, a3, a4⟩ := nts hw hc hj h8 i (by omega)
    obtain ⟨p', e, hp'⟩ := m_nightOf (vM := v) hw hr hp a1
    simp (disch := omega) only [fX9_behind_B35, nlit, nI_leI, nI_add, e, bdS]
    rw [if_neg (by omega)]
    exact ⟨_, rfl, p', rfl, hp'⟩
  · rintro s ⟨p, rfl, hp⟩
    have hok := okc_lt hw ((nts hw hc hj h8 k (by omega)).1.1 t ht)
    simp (disch := omega) only [fX9_behind_B35, nlit, nI_leI, ok_nI, gdT, nI_clamp, hp, m_ten hok, bdS, exS]
    rw [if_pos (Nat.le_refl _)]
    exact ⟨_, rfl, p, rfl⟩
  · obtain ⟨e, p, hres⟩ := hres
    exact ⟨v, p, e.trans (congrArg some hres), hma⟩
end QP
