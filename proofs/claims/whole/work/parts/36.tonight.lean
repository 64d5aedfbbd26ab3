/-! MATH 16: goes, blocked, steps, meetings -/
theorem andn7 {a b n : Nat} (ha : a < 2 ^ n) (hn : n ≤ 31) : nI a &&& (nI b ^^^ (-nI 1)) = nI (bm (fun t => a.testBit t && !b.testBit t) n) := by
  have e : (-nI 1 : Int32).toBitVec = BitVec.allOnes 32 := by decide
  apply Int32.toBitVec_inj.1
  show BitVec.ofNat 32 a &&& (BitVec.ofNat 32 b ^^^ (-nI 1 : Int32).toBitVec) = BitVec.ofNat 32 _
  rw [e]
  apply BitVec.eq_of_getLsbD_eq
  intro i hi
  simp only [BitVec.getLsbD_and, BitVec.getLsbD_xor, BitVec.getLsbD_ofNat, BitVec.getLsbD_allOnes, hi, decide_true, Bool.true_and, bm_bit]
  by_cases hin : i < n
  · simp [hin]
  · have : a < 2 ^ i := Nat.lt_of_lt_of_le ha (Nat.pow_le_pow_right (by omega) (by omega))
    rw [Nat.testBit_lt_two_pow this]
    simp
theorem nbit7 : ∀ a, a < 128 → ∀ t, t < 7 → isr (nI a ^^^ (-nI 1)) (nI t) &&& nI 1 = nI (if a.testBit t then 0 else 1) := by decide +kernel
def blk (h c : Nat → Nat) (t : Nat) : Bool := !(own h c t || going h c t) && come h c t
section QT
variable {h c : Nat → Nat} {vH nx wd sz kd srt plc d1 d2 vD now vN vW cl who fro vM r st trial : Nat → Int32} {aH aW : Nat} {x0 : Option Nat}
theorem c_decide0 (hw : WFh h) (hh : HC h vH nx wd sz kd srt x0) (hc : okRow h c) (hwr : WR h c vW cl who x0) :
    ∃ fro', fX6_decide vW vH cl nx who fro sz wd kd (nI 0) = some (upd (upd vW 11 (nI (bm (stK h c (fun _ => false)) (h 3)))) 12 (nI (bm (going h c) (h 3))), fro') := by
  obtain ⟨fro', e⟩ := c_decide (fro := fro) hw hh hc hwr (fun _ => false)
  rw [bm_0 (fun _ _ => rfl)] at e
  have hg : goSet h c (fun t => own h c t || false) = going h c := by
    unfold going
    congr 1
    funext t
    exact Bool.or_false _
  rw [hg] at e
  exact ⟨fro', e⟩
theorem C_goes (hx : CX h c vH nx wd sz kd srt plc d1 d2 now) :
    ∃ vW' who' cl' fro', fX8_goes aH aW vN vH vW vD now who kd cl srt nx fro sz wd = some (nI (bm (going h c) (h 3)), upd vN 6 (nI 0), vW', who', cl', fro', aH) := by
  obtain ⟨vW1, who1, cl1, e1, w1, -⟩ := c_start0 (vW := vW) (vD := vD) (who := who) (cl := cl) hx
  obtain ⟨hw, hh, hc, hj, h8, hd, h1, v4, hpl, hdr⟩ := hx
  obtain ⟨fro2, e2⟩ := c_decide0 (fro := fro) hw hh hc w1
  refine ⟨upd (upd vW1 11 (nI (bm (stK h c (fun _ => false)) (h 3)))) 12 (nI (bm (going h c) (h 3))), who1, cl1, fro2, ?_⟩
  unfold fX8_goes
  rw [c_stands_t hw.2.2.2.2.1 h1 hh.2.1, bdS, if_neg (by rw [nlit, n10]; exact id), nlit, e1, bdS]
  simp only
  rw [e2, bdS]
  rfl
theorem M_goes (hx : MX h c vM r st) : ∃ vM', fX9_goes vM r st = some (nI (bm (going h c) (h 3)), vM') ∧ MA vM vM' (nI 0) := by
  obtain ⟨hw, hc, hj, h8, hr, hst, h14⟩ := hx
  obtain ⟨v, ev, hma, hv⟩ := m_good vM
  have v14 : v 14 = nI 1 := by rw [hv 14 (by omega) (by omega)]; exact h14
  refine ⟨v, ?_, hma⟩
  unfold fX9_goes fX9_going
  rw [ev, bdS, if_neg (by rw [v14, nlit, n10]; exact id), m_fixed hw hr hst hc, bdS, m_goingBy hw hr hst hc (own h c), bdS, bdS]
  rfl
theorem C_blocked (hx : CX h c vH nx wd sz kd srt plc d1 d2 now) :
    ∃ vW' who' cl' fro', fX8_blocked aH aW vN vH vW vD now who kd cl srt nx fro sz wd = some (nI (bm (blk h c) (h 3)), upd vN 6 (nI 0), vW', who', cl', fro', aH) := by
  obtain ⟨vW1, who1, cl1, e1, w1, -⟩ := c_start0 (vW := vW) (vD := vD) (who := who) (cl := cl) hx
  obtain ⟨hw, hh, hc, hj, h8, hd, h1, v4, hpl, hdr⟩ := hx
  have h3 := hw.2.2.2.2.2.1
  obtain ⟨fro2, e2⟩ := c_decide0 (fro := fro) hw hh hc w1
  refine ⟨upd (upd vW1 11 (nI (bm (stK h c (fun _ => false)) (h 3)))) 12 (nI (bm (going h c) (h 3))), who1, cl1, fro2, ?_⟩
  unfold fX8_blocked
  rw [c_stands_t hw.2.2.2.2.1 h1 hh.2.1, bdS, if_neg (by rw [nlit, n10]; exact id), nlit, e1, bdS]
  simp only
  rw [e2, bdS]
  simp only
  have es : fX6_stuck (upd (upd vW1 11 (nI (bm (stK h c (fun _ => false)) (h 3)))) 12 (nI (bm (going h c) (h 3)))) vH = some (nI (bm (blk h c) (h 3))) := by
    unfold fX6_stuck
    show some ((isl 1 (vH 5) - 1 &&& (nI (bm (going h c) (h 3)) ^^^ -1)) &&& (nI (bm (stK h c (fun _ => false)) (h 3)) ^^^ -1)) = _
    rw [hh.2.2.1]
    simp only [nlit]
    rw [mask_not h3 (bm_lt _ _), andn7 (bm_lt _ _) (by omega)]
    congr 2
    apply bm_ext
    intro t ht
    rw [bm_bit, bm_bit, bm_bit]
    unfold blk stK
    simp only [ht, decide_true, Bool.true_and, Bool.or_false]
    cases own h c t <;> cases going h c t <;> cases come h c t <;> rfl
  rw [es, bdS]
  rfl
theorem M_blocked (hx : MX h c vM r st) : ∃ vM', fX9_blocked vM r st = some (nI (bm (blk h c) (h 3)), vM') ∧ MA vM vM' (nI 0) := by
  obtain ⟨hw, hc, hj, h8, hr, hst, h14⟩ := hx
  have h3 := hw.2.2.2.2.2.1
  obtain ⟨v, ev, hma, hv⟩ := m_good vM
  have v14 : v 14 = nI 1 := by rw [hv 14 (by omega) (by omega)]; exact h14
  refine ⟨v, ?_, hma⟩
  unfold fX9_blocked fX9_going
  rw [ev, bdS, if_neg (by rw [v14, nlit, n10]; exact id), m_fixed hw hr hst hc, bdS, bdS, m_goingBy hw hr hst hc (own h c), bdS, bdS]
  show lp _ 5000 ((nI (bm (own h c) (h 3)) ||| nI (bm (going h c) (h 3))) ^^^ -1, 0, 0, v) = _
  rw [nI_or, bm_or]
  refine lp_for (fun i => (nI (bm (fun t => own h c t || going h c t) (h 3)) ^^^ (-nI 1), nI (bm (blk h c) i), nI i, v)) (h 3) ?_ ?_ (by omega) rfl
  · intro i hi
    have hbit : fX9_hasBit (nI (bm (fun t => own h c t || going h c t) (h 3)) ^^^ (-nI 1)) (nI i) = some (nI (if own h c i || going h c i then 0 else 1)) := by
      unfold fX9_hasBit fX9_hasBit_J14
      rw [nlit, nbit7 _ (bm_7 _ h3) i (by omega), bm_bit]
      simp only [hi, decide_true, Bool.true_and]
      cases (own h c i || going h c i) <;> rfl
    simp (disch := omega) only [fX9_blocked_B41, fX9_blocked_J78, fX9_blocked_J79, nlit, ok_nI, gdT, nI_clamp, hr, nI_leI, hbit, bdS, m_isCome hw hr hst hc hi, isl_1, nI_or, nI_add]
    rw [if_neg (by omega)]
    have e : bm (blk h c) (i + 1) = bm (blk h c) i ||| (if blk h c i then 2 ^ i else 0) := rfl
    rw [e]
    have eb : blk h c i = (!(own h c i || going h c i) && come h c i) := rfl
    rw [eb]
    cases (own h c i || going h c i) <;> cases come h c i <;> simp [n10]
  · simp (disch := omega) only [fX9_blocked_B41, nlit, ok_nI, gdT, nI_clamp, hr, nI_leI, exS]
    rw [if_pos (Nat.le_refl _)]
theorem C_steps (hx : CX h c vH nx wd sz kd srt plc d1 d2 now) {t k : Nat} (ht : t < h 3) (hk : k ≤ 200) :
    ∃ vW' who' cl' fro', fX8_steps aH aW vN vH vW vD now who kd cl srt nx fro sz wd (nI t) (nI k) = some (stepsA h c t k, upd vN 6 (nI 0), vW', who', cl', fro', aH) := by
  obtain ⟨vW1, who1, cl1, e1, w1, -⟩ := c_start0 (vW := vW) (vD := vD) (who := who) (cl := cl) hx
  obtain ⟨hw, hh, hc, hj, h8, hd, h1, v4, hpl, hdr⟩ := hx
  have h3 := hw.2.2.2.2.2.1
  have b31 : ∀ q : Nat → Bool, bm q (h 3) < 2 ^ 31 := fun q => Nat.lt_of_lt_of_le (bm_7 q h3) (by decide)
  unfold fX8_steps
  rw [c_hasThing_t h3 hh.2.2.1 ht, bdS, if_neg (by rw [nlit, n10]; exact id)]
  simp (disch := omega) only [nlit, nI_ltI, nI_leI]
  rw [if_neg (by omega), if_pos hk, e1, bdS]
  simp only
  refine Exists.elim (lp_inv (f := fX8_steps_B55 aH vN vH kd nx sz wd (nI t) (nI k)) (fun i s => ∃ cl' fro' who' vW', s = (nI (cnt (fun j => going h (nights h c j) t) i), nI (i + 1), cl', fro', who', vW') ∧ WR h (nights h c i) vW' cl' who' none) (fun res => ∃ vW' who' cl' fro', res = (stepsA h c t k, upd vN 6 (nI 0), vW', who', cl', fro', aH)) k ?_ ?_ 5000 0 (nI 0, nI 1, cl1, fro, who1, vW1) (Nat.zero_le _) ⟨cl1, fro, who1, vW1, rfl, w1⟩ (by omega)) (fun res hr => ?_)
  · rintro i s hi ⟨cl', fro', who', vW', rfl, q⟩
    left
    obtain ⟨a1, a2, a3, a4⟩ := nts hw hc hj h8 i (by omega)
    obtain ⟨vW2, cl2, who2, fro2, e, q1, q2, -, -⟩ := c_pass0 (fro := fro') hw hh a1 a2 q
    simp (disch := first | omega | exact b31 _) only [fX8_steps_B55, fX6_went, nlit, nI_ltI, bdS, e, q2, bit_nI, nI_add]
    rw [if_neg (by omega), bm_bit]
    simp only [ht, decide_true, Bool.true_and]
    exact ⟨_, rfl, cl2, fro2, who2, vW2, rfl, q1⟩
  · rintro s ⟨cl', fro', who', vW', rfl, q⟩
    simp (disch := omega) only [fX8_steps_B55, fX8_answer, nlit, nI_ltI, bdS, exS]
    rw [if_pos (by omega)]
    exact ⟨_, rfl, vW', who', cl', fro', rfl⟩
  · obtain ⟨e, vW', who', cl', fro', hr⟩ := hr
    exact ⟨vW', who', cl', fro', e.trans (congrArg some hr)⟩
theorem M_steps (hx : MX h c vM r st) {t k : Nat} (ht : t < h 3) (hk : k ≤ 200) :
    ∃ vM' tr', fX9_steps vM r st trial (nI t) (nI k) = some (stepsA h c t k, vM', tr') ∧ MA vM vM' (nI 0) := by
  obtain ⟨hw, hc, hj, h8, hr, hst, h14⟩ := hx
  have h3 := hw.2.2.2.2.2.1
  have b31 : ∀ q : Nat → Bool, bm q (h 3) < 2 ^ 31 := fun q => Nat.lt_of_lt_of_le (bm_7 q h3) (by decide)
  obtain ⟨v, ev, hma, hv⟩ := m_good vM
  have v14 : v 14 = nI 1 := by rw [hv 14 (by omega) (by omega)]; exact h14
  obtain ⟨t0, e0, ht0⟩ := m_begin (vM := v) (trial := trial) hst
  unfold fX9_steps
  rw [ev, bdS, m_isThing_t hw hr v14 ht, bdS]
  simp only [nlit]
  rw [m_why_0 (by omega) rfl hk, bdS]
  simp only [↓reduceIte]
  rw [e0, bdS]
  refine Exists.elim (lp_inv (f := fX9_steps_B38 r (nI t) (nI k)) (fun i s => ∃ p, s = (nI (cnt (fun j => going h (nights h c j) t) i), nI i, p, v) ∧ ∀ j, j < 9 → p j = nI (nights h c i j)) (fun res => ∃ p, res = (stepsA h c t k, v, p)) k ?_ ?_ 5000 0 (nI 0, nI 0, t0, v) (Nat.zero_le _) ⟨t0, rfl, ht0⟩ (by omega)) (fun res hres => ?_)
  · rintro i s hi ⟨p, rfl, hp⟩
    left
    obtain ⟨a1, a2, a3, a4⟩ := nts hw hc hj h8 i (by omega)
    obtain ⟨p', e, hp'⟩ := m_nightOf (vM := v) hw hr hp a1
    simp (disch := first | omega | exact b31 _) only [fX9_steps_B38, nlit, nI_leI, e, bdS, bit_nI, nI_add]
    rw [if_neg (by omega), bm_bit]
    simp only [ht, decide_true, Bool.true_and]
    exact ⟨_, rfl, p', rfl, hp'⟩
  · rintro s ⟨p, rfl, hp⟩
    simp (disch := omega) only [fX9_steps_B38, nlit, nI_leI, exS]
    rw [if_pos (Nat.le_refl _)]
    exact ⟨_, rfl, p, rfl⟩
  · obtain ⟨e, p, hres⟩ := hres
    exact ⟨v, p, e.trans (congrArg some hres), hma⟩
theorem C_meetings (hx : CX h c vH nx wd sz kd srt plc d1 d2 now) {t u k : Nat} (ht : t < h 3) (hu : u < h 3) (hne : t ≠ u) (hk : k ≤ 200) :
    ∃ vW' who' cl' fro', fX8_meetings aH aW vN vH vW vD now who kd cl srt nx fro sz wd d1 d2 (nI t) (nI u) (nI k) = some (meetingsA h c t u k, upd vN 6 (nI 0), vW', who', cl', fro', aH) := by
  obtain ⟨vW1, who1, cl1, e1, w1, -⟩ := c_start0 (vW := vW) (vD := vD) (who := who) (cl := cl) hx
  obtain ⟨hw, hh, hc, hj, h8, hd, h1, v4, hpl, hdr⟩ := hx
  have h3 := hw.2.2.2.2.2.1
  unfold fX8_meetings
  rw [c_areTwo_t h3 hh.2.2.1 ht hu hne, bdS, if_neg (by rw [nlit, n10]; exact id)]
  simp (disch := omega) only [nlit, nI_ltI, nI_leI]
  rw [if_neg (by omega), if_pos hk, e1, bdS]
  simp only
  refine Exists.elim (lp_inv (f := fX8_meetings_B54 aH vN vH kd nx sz wd d1 d2 (nI t) (nI u) (nI k)) (fun i s => ∃ cl' fro' who' vW', s = (nI (cnt (fun j => doorb h (nights h c (j + 1) t) (nights h c (j + 1) u)) i), nI (i + 1), cl', fro', who', vW') ∧ WR h (nights h c i) vW' cl' who' none) (fun res => ∃ vW' who' cl' fro', res = (meetingsA h c t u k, upd vN 6 (nI 0), vW', who', cl', fro', aH)) k ?_ ?_ 5000 0 (nI 0, nI 1, cl1, fro, who1, vW1) (Nat.zero_le _) ⟨cl1, fro, who1, vW1, rfl, w1⟩ (by omega)) (fun res hr => ?_)
  · rintro i s hi ⟨cl', fro', who', vW', rfl, q⟩
    left
    obtain ⟨a1, a2, a3, a4⟩ := nts hw hc hj h8 i (by omega)
    have a5 := (nts hw hc hj h8 (i + 1) (by omega)).1
    obtain ⟨vW2, cl2, who2, fro2, e, q1, q2, -, -⟩ := c_pass0 (fro := fro') hw hh a1 a2 q
    simp (disch := omega) only [fX8_meetings_B54, fX8_meetings_J87, nlit, nI_ltI, bdS, e, c_atDoor (c := nights h c (i + 1)) hw v4 hdr a5 q1 ht hu, nI_add]
    rw [if_neg (by omega)]
    have ec : cnt (fun j => doorb h (nights h c (j + 1) t) (nights h c (j + 1) u)) (i + 1) = cnt (fun j => doorb h (nights h c (j + 1) t) (nights h c (j + 1) u)) i + (if doorb h (nights h c (i + 1) t) (nights h c (i + 1) u) then 1 else 0) := rfl
    cases hq : doorb h (nights h c (i + 1) t) (nights h c (i + 1) u) with
    | false =>
      rw [hq] at ec
      simp only [Bool.false_eq_true, if_false, if_true]
      exact ⟨_, rfl, cl2, fro2, who2, vW2, by rw [ec]; rfl, q1⟩
    | true =>
      rw [hq] at ec
      simp only [if_true, n10, if_false]
      exact ⟨_, rfl, cl2, fro2, who2, vW2, by rw [ec]; rfl, q1⟩
  · rintro s ⟨cl', fro', who', vW', rfl, q⟩
    simp (disch := omega) only [fX8_meetings_B54, fX8_answer, nlit, nI_ltI, bdS, exS]
    rw [if_pos (by omega)]
    exact ⟨_, rfl, vW', who', cl', fro', rfl⟩
  · obtain ⟨e, vW', who', cl', fro', hr⟩ := hr
    exact ⟨vW', who', cl', fro', e.trans (congrArg some hr)⟩
theorem M_meetings (hx : MX h c vM r st) {t u k : Nat} (ht : t < h 3) (hu : u < h 3) (hne : t ≠ u) (hk : k ≤ 200) :
    ∃ vM' tr', fX9_meetings vM r st trial (nI t) (nI u) (nI k) = some (meetingsA h c t u k, vM', tr') ∧ MA vM vM' (nI 0) := by
  obtain ⟨hw, hc, hj, h8, hr, hst, h14⟩ := hx
  have h3 := hw.2.2.2.2.2.1
  obtain ⟨v, ev, hma, hv⟩ := m_good vM
  have v14 : v 14 = nI 1 := by rw [hv 14 (by omega) (by omega)]; exact h14
  obtain ⟨t0, e0, ht0⟩ := m_begin (vM := v) (trial := trial) hst
  unfold fX9_meetings
  rw [ev, bdS, m_areTwo_t hw hr v14 ht hu hne, bdS]
  simp only [nlit]
  rw [m_why_0 (by omega) rfl hk, bdS]
  simp only [↓reduceIte]
  rw [e0, bdS]
  refine Exists.elim (lp_inv (f := fX9_meetings_B42 r (nI t) (nI u) (nI k)) (fun i s => ∃ p, s = (nI (cnt (fun j => doorb h (nights h c (j + 1) t) (nights h c (j + 1) u)) i), nI i, p, v) ∧ ∀ j, j < 9 → p j = nI (nights h c i j)) (fun res => ∃ p, res = (meetingsA h c t u k, v, p)) k ?_ ?_ 5000 0 (nI 0, nI 0, t0, v) (Nat.zero_le _) ⟨t0, rfl, ht0⟩ (by omega)) (fun res hres => ?_)
  · rintro i s hi ⟨p, rfl, hp⟩
    left
    obtain ⟨a1, a2, a3, a4⟩ := nts hw hc hj h8 i (by omega)
    have a5 := (nts hw hc hj h8 (i + 1) (by omega)).1
    obtain ⟨p', e, hp'⟩ := m_nightOf (vM := v) hw hr hp a1
    have hp2 : ∀ j, j < 9 → p' j = nI (nights h c (i + 1) j) := hp'
    simp (disch := omega) only [fX9_meetings_B42, fX9_meetings_J83, nlit, nI_leI, e, bdS, ok_nI, gdT, nI_clamp, hp2, m_areDoored hw hr (okc_lt hw (a5.1 t ht)) (okc_lt hw (a5.1 u hu)), nI_add]
    rw [if_neg (by omega)]
    have ec : cnt (fun j => doorb h (nights h c (j + 1) t) (nights h c (j + 1) u)) (i + 1) = cnt (fun j => doorb h (nights h c (j + 1) t) (nights h c (j + 1) u)) i + (if doorb h (nights h c (i + 1) t) (nights h c (i + 1) u) then 1 else 0) := rfl
    cases hq : doorb h (nights h c (i + 1) t) (nights h c (i + 1) u) with
    | false =>
      rw [hq] at ec
      simp only [Bool.false_eq_true, if_false, if_true]
      exact ⟨_, rfl, p', by rw [ec]; rfl, hp2⟩
    | true =>
      rw [hq] at ec
      simp only [if_true, n10, if_false]
      exact ⟨_, rfl, p', by rw [ec]; rfl, hp2⟩
  · rintro s ⟨p, rfl, hp⟩
    simp (disch := omega) only [fX9_meetings_B42, nlit, nI_leI, exS]
    rw [if_pos (Nat.le_refl _)]
    exact ⟨_, rfl, p, rfl⟩
  · obtain ⟨e, p, hres⟩ := hres
    exact ⟨v, p, e.trans (congrArg some hres), hma⟩
end QT
