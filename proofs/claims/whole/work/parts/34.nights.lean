/-! MATH 14: meets, still, period, behind, steps, meetings -/
def meetsA (h c : Nat → Nat) (t u : Nat) : Int32 := orNone (fnd (fun k => doorb h (nights h c k t) (nights h c k u)) 201)
def stillA (h c : Nat → Nat) : Int32 := orNone (fnd (fun k => bm (going h (nights h c k)) (h 3) == 0) 201)
def behindA (h c : Nat → Nat) (t k : Nat) : Int32 := nI (ten (nights h c k t))
def stepsA (h c : Nat → Nat) (t k : Nat) : Int32 := nI (cnt (fun i => going h (nights h c i) t) k)
def meetingsA (h c : Nat → Nat) (t u k : Nat) : Int32 := nI (cnt (fun i => doorb h (nights h c (i + 1) t) (nights h c (i + 1) u)) k)
/-- is every thing where it is in c -/
def sameR (h c d : Nat → Nat) : Bool := (fnd (fun t => d t != c t) (h 3)).isNone
def periodA (h c : Nat → Nat) : Int32 := orNone ((fnd (fun k => sameR h c (nights h c (k + 1))) 200).map (· + 1))
section QN
variable {h c : Nat → Nat} {vH nx wd sz kd srt plc d1 d2 vD now vN vW cl who fro vM r st trial : Nat → Int32} {aH aW : Nat} {x0 : Option Nat}
theorem c_atDoor (hw : WFh h) (v4 : vH 4 = nI (h 5)) (hdr : ∀ d, d < h 5 → d1 d = nI (h (52 + 2 * d)) ∧ d2 d = nI (h (52 + 2 * d + 1)) ∧ h (52 + 2 * d) < 36 ∧ h (52 + 2 * d + 1) < 36) (hc : okRow h c) (hwr : WR h c vW cl who x0) {t u : Nat} (ht : t < h 3) (hu : u < h 3) : fX6_atDoor vW cl vH d1 d2 (nI t) (nI u) = some (nI (if doorb h (c t) (c u) then 1 else 0)) := by
  have h3 := hw.2.2.2.2.2.1
  unfold fX6_atDoor
  rw [c_wcell h3 hwr ht, bdS, c_wcell h3 hwr hu, bdS, c_hasDoor hw v4 (fun d hd => ⟨(hdr d hd).1, (hdr d hd).2.1⟩) (okc_lt hw (hc.1 t ht)) (okc_lt hw (hc.1 u hu)), bdS]
  cases doorb h (c t) (c u) <;> rfl
theorem c_areTwo_t (h3 : h 3 ≤ 7) (v5 : vH 5 = nI (h 3)) {t u : Nat} (ht : t < h 3) (hu : u < h 3) (hne : t ≠ u) : fX8_areTwo vN vH (nI t) (nI u) = some (nI 1) := by
  simp (disch := omega) only [fX8_areTwo, fX8_areTwo_J31, fX8_areTwo_J32, c_hasThing_t h3 v5 ht, c_hasThing_t h3 v5 hu, bdS, nlit, nI_eq, Nat.one_ne_zero, if_false, isB_1, gdT]
  rw [if_neg hne]
theorem m_areTwo_t (hw : WFh h) (hr : ∀ k, k < 224 → r k = nI (h k)) (h14 : vM 14 = nI 1) {t u : Nat} (ht : t < h 3) (hu : u < h 3) (hne : t ≠ u) : fX9_areTwo vM r (nI t) (nI u) = some (nI 1) := by
  have h3 := hw.2.2.2.2.2.1
  unfold fX9_areTwo
  rw [m_isThing_t hw hr h14 ht, bdS]
  simp (disch := omega) only [nlit, nI_eq, Nat.one_ne_zero, if_false, m_isThing_t hw hr h14 hu, bdS]
  simp [hne, fX9_areTwo_J26, fX9_areTwo_J25, isB_1, gdT]
theorem C_meets (hx : CX h c vH nx wd sz kd srt plc d1 d2 now) {t u : Nat} (ht : t < h 3) (hu : u < h 3) (hne : t ≠ u) :
    ∃ vW' who' cl' fro', fX8_meets aH aW vN vH vW vD now who kd cl srt d1 d2 nx fro sz wd (nI t) (nI u) = some (meetsA h c t u, upd vN 6 (nI 0), vW', who', cl', fro', aH) := by
  obtain ⟨vW1, who1, cl1, e1, w1, -⟩ := c_start0 (vW := vW) (vD := vD) (who := who) (cl := cl) hx
  obtain ⟨hw, hh, hc, hj, h8, hd, h1, v4, hpl, hdr⟩ := hx
  have h3 := hw.2.2.2.2.2.1
  unfold fX8_meets
  rw [c_areTwo_t h3 hh.2.2.1 ht hu hne, bdS, if_neg (by rw [nlit, n10]; exact id), nlit, e1, bdS]
  simp only
  refine Exists.elim (lp_find (f := fX8_meets_B33 aH vN vH kd d1 d2 nx sz wd (nI t) (nI u)) (fun k => doorb h (nights h c k t) (nights h c k u)) 201 (fun i s => ∃ cl' fro' who' vW', s = (nI i, cl', fro', who', vW') ∧ WR h (nights h c i) vW' cl' who' none) (fun o res => ∃ vW' who' cl' fro', res = (orNone o, upd vN 6 (nI 0), vW', who', cl', fro', aH)) ?_ ?_ ⟨cl1, fro, who1, vW1, rfl, w1⟩ (show 201 < 5000 by omega)) (fun res hr => ?_)
  · rintro i s hi ⟨cl', fro', who', vW', rfl, q⟩
    obtain ⟨a1, a2, a3, a4⟩ := nts hw hc hj h8 i (by omega)
    obtain ⟨vW2, cl2, who2, fro2, e, q1, q2, -, -⟩ := c_pass0 (fro := fro') hw hh a1 a2 q
    simp (disch := omega) only [fX8_meets_B33, fX8_answer, nlit, nI_ltI, c_atDoor hw v4 hdr a1 q ht hu, bdS, e, exS, nI_add]
    rw [if_neg (by omega)]
    constructor
    · intro hq
      simp only [hq, Bool.false_eq_true, if_false, if_true]
      exact ⟨_, rfl, cl2, fro2, who2, vW2, rfl, q1⟩
    · intro hq
      simp only [hq, if_true, n10, if_false]
      exact ⟨_, rfl, vW', who', cl', fro', rfl⟩
  · rintro s ⟨cl', fro', who', vW', rfl, q⟩
    simp (disch := omega) only [fX8_meets_B33, fX8_answer, nlit, nI_ltI, bdS, exS]
    rw [if_pos (by omega)]
    exact ⟨_, rfl, vW', who', cl', fro', rfl⟩
  · obtain ⟨e, vW', who', cl', fro', hr⟩ := hr
    exact ⟨vW', who', cl', fro', e.trans (congrArg some hr)⟩
theorem M_meets (hx : MX h c vM r st) {t u : Nat} (ht : t < h 3) (hu : u < h 3) (hne : t ≠ u) :
    ∃ vM' tr', fX9_meets vM r st trial (nI t) (nI u) = some (meetsA h c t u, vM', tr') ∧ MA vM vM' (nI 0) := by
  obtain ⟨hw, hc, hj, h8, hr, hst, h14⟩ := hx
  have h3 := hw.2.2.2.2.2.1
  obtain ⟨v, ev, hma, hv⟩ := m_good vM
  have v14 : v 14 = nI 1 := by rw [hv 14 (by omega) (by omega)]; exact h14
  obtain ⟨t0, e0, ht0⟩ := m_begin (vM := v) (trial := trial) hst
  unfold fX9_meets
  rw [ev, bdS, m_areTwo_t hw hr v14 ht hu hne, bdS, if_neg (by rw [nlit, n10]; exact id), e0, bdS]
  refine Exists.elim (lp_find (f := fX9_meets_B25 r (nI t) (nI u)) (fun k => doorb h (nights h c k t) (nights h c k u)) 201 (fun i s => ∃ p, s = (nI i, p, v) ∧ ∀ k, k < 9 → p k = nI (nights h c i k)) (fun o res => ∃ p, res = (orNone o, v, p)) ?_ ?_ ⟨t0, rfl, ht0⟩ (show 201 < 5000 by omega)) (fun res hres => ?_)
  · rintro i s hi ⟨p, rfl, hp⟩
    obtain ⟨a1, a2, a3, a4⟩ := nts hw hc hj h8 i (by omega)
    obtain ⟨p', e, hp'⟩ := m_nightOf (vM := v) hw hr hp a1
    simp (disch := omega) only [fX9_meets_B25, nlit, nI_ltI, ok_nI, gdT, nI_clamp, hp, m_areDoored hw hr (okc_lt hw (a1.1 t ht)) (okc_lt hw (a1.1 u hu)), nI_add, e, bdS, exS]
    rw [if_neg (by omega)]
    constructor
    · intro hq
      simp only [hq, Bool.false_eq_true, if_false, if_true]
      exact ⟨_, rfl, p', rfl, hp'⟩
    · intro hq
      simp only [hq, if_true, n10, if_false]
      exact ⟨_, rfl, p, rfl⟩
  · rintro s ⟨p, rfl, hp⟩
    simp (disch := omega) only [fX9_meets_B25, nlit, nI_ltI, exS]
    rw [if_pos (by omega)]
    exact ⟨_, rfl, p, rfl⟩
  · obtain ⟨e, p, hres⟩ := hres
    exact ⟨v, p, e.trans (congrArg some hres), hma⟩
theorem C_still (hx : CX h c vH nx wd sz kd srt plc d1 d2 now) :
    ∃ vW' who' cl' fro', fX8_still aH aW vN vH vW vD now who kd cl srt nx fro sz wd = some (stillA h c, upd vN 6 (nI 0), vW', who', cl', fro', aH) := by
  obtain ⟨vW1, who1, cl1, e1, w1, -⟩ := c_start0 (vW := vW) (vD := vD) (who := who) (cl := cl) hx
  obtain ⟨hw, hh, hc, hj, h8, hd, h1, v4, hpl, hdr⟩ := hx
  have h2 := hw.2.2.2.2.1
  have h3 := hw.2.2.2.2.2.1
  have b31 : ∀ q : Nat → Bool, bm q (h 3) < 2 ^ 31 := fun q => Nat.lt_of_lt_of_le (bm_7 q h3) (by decide)
  unfold fX8_still
  rw [c_stands_t h2 h1 hh.2.1, bdS, if_neg (by rw [nlit, n10]; exact id), nlit, e1, bdS]
  simp only
  refine Exists.elim (lp_find (f := fX8_still_B34 aH vN vH kd nx sz wd) (fun k => bm (going h (nights h c k)) (h 3) == 0) 201 (fun i s => ∃ cl' fro' who' vW', s = (nI i, cl', fro', who', vW') ∧ WR h (nights h c i) vW' cl' who' none) (fun o res => ∃ vW' who' cl' fro', res = (orNone o, upd vN 6 (nI 0), vW', who', cl', fro', aH)) ?_ ?_ ⟨cl1, fro, who1, vW1, rfl, w1⟩ (show 201 < 5000 by omega)) (fun res hr => ?_)
  · rintro i s hi ⟨cl', fro', who', vW', rfl, q⟩
    obtain ⟨a1, a2, a3, a4⟩ := nts hw hc hj h8 i (by omega)
    obtain ⟨vW2, cl2, who2, fro2, e, q1, q2, -, -⟩ := c_pass0 (fro := fro') hw hh a1 a2 q
    simp (disch := first | omega | exact b31 _) only [fX8_still_B34, fX8_answer, fX6_went, nlit, nI_ltI, bdS, e, exS, nI_add, q2, nI_eq]
    rw [if_neg (by omega)]
    constructor
    · intro hq
      rw [if_neg (by simpa using hq)]
      exact ⟨_, rfl, cl2, fro2, who2, vW2, rfl, q1⟩
    · intro hq
      rw [if_pos (by simpa using hq)]
      exact ⟨_, rfl, vW2, who2, cl2, fro2, rfl⟩
  · rintro s ⟨cl', fro', who', vW', rfl, q⟩
    simp (disch := omega) only [fX8_still_B34, fX8_answer, nlit, nI_ltI, bdS, exS]
    rw [if_pos (by omega)]
    exact ⟨_, rfl, vW', who', cl', fro', rfl⟩
  · obtain ⟨e, vW', who', cl', fro', hr⟩ := hr
    exact ⟨vW', who', cl', fro', e.trans (congrArg some hr)⟩
theorem M_still (hx : MX h c vM r st) : ∃ vM' tr', fX9_still vM st trial r = some (stillA h c, vM', tr') ∧ MA vM vM' (nI 0) := by
  obtain ⟨hw, hc, hj, h8, hr, hst, h14⟩ := hx
  have h3 := hw.2.2.2.2.2.1
  have b31 : ∀ q : Nat → Bool, bm q (h 3) < 2 ^ 31 := fun q => Nat.lt_of_lt_of_le (bm_7 q h3) (by decide)
  obtain ⟨v, ev, hma, hv⟩ := m_good vM
  have v14 : v 14 = nI 1 := by rw [hv 14 (by omega) (by omega)]; exact h14
  obtain ⟨t0, e0, ht0⟩ := m_begin (vM := v) (trial := trial) hst
  unfold fX9_still
  rw [ev, bdS, if_neg (by rw [v14, nlit, n10]; exact id), e0, bdS]
  refine Exists.elim (lp_find (f := fX9_still_B23 r) (fun k => bm (going h (nights h c k)) (h 3) == 0) 201 (fun i s => ∃ p, s = (nI i, p, v) ∧ ∀ k, k < 9 → p k = nI (nights h c i k)) (fun o res => ∃ p, res = (orNone o, v, p)) ?_ ?_ ⟨t0, rfl, ht0⟩ (show 201 < 5000 by omega)) (fun res hres => ?_)
  · rintro i s hi ⟨p, rfl, hp⟩
    obtain ⟨a1, a2, a3, a4⟩ := nts hw hc hj h8 i (by omega)
    obtain ⟨p', e, hp'⟩ := m_nightOf (vM := v) hw hr hp a1
    simp (disch := first | omega | exact b31 _) only [fX9_still_B23, nlit, nI_ltI, nI_add, e, bdS, exS, nI_eq]
    rw [if_neg (by omega)]
    constructor
    · intro hq
      rw [if_neg (by simpa using hq)]
      exact ⟨_, rfl, p', rfl, hp'⟩
    · intro hq
      rw [if_pos (by simpa using hq)]
      exact ⟨_, rfl, p', rfl⟩
  · rintro s ⟨p, rfl, hp⟩
    simp (disch := omega) only [fX9_still_B23, nlit, nI_ltI, exS]
    rw [if_pos (by omega)]
    exact ⟨_, rfl, p, rfl⟩
  · obtain ⟨e, p, hres⟩ := hres
    exact ⟨v, p, e.trans (congrArg some hres), hma⟩
end QN
