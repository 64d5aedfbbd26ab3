/-! MATH 20: meeting, mostMeet -/
def pq (h c : Nat → Nat) (d : Nat) : Option Nat :=
  match fnd (fun u => c u == h (52 + 2 * d)) (h 3), fnd (fun u => c u == h (52 + 2 * d + 1)) (h 3) with
  | some a, some b => some (10 * (if b < a then b else a) + (if a < b then b else a))
  | _, _ => none
def mb (h c : Nat → Nat) (q : Nat) : Bool := decide (q % 10 < h 3) && decide (q / 10 < q % 10) && doorb h (c (q / 10)) (c (q % 10))
/-- a door's two sides are these -/
def dsd (h : Nat → Nat) (d x y : Nat) : Prop := (h (52 + 2 * d) = x ∧ h (52 + 2 * d + 1) = y) ∨ (h (52 + 2 * d) = y ∧ h (52 + 2 * d + 1) = x)
/-- doors: two places each, no two alike -/
def WFd (h : Nat → Nat) : Prop := ∀ d, d < h 5 → h (52 + 2 * d) ≠ h (52 + 2 * d + 1) ∧ ∀ e, e < h 5 → dsd h d (h (52 + 2 * e)) (h (52 + 2 * e + 1)) → d = e
section MT
variable {h c : Nat → Nat}
theorem doorb_iff {x y : Nat} : doorb h x y = true ↔ ∃ d, d < h 5 ∧ dsd h d x y := by
  unfold doorb
  constructor
  · intro e
    cases hf : fnd (fun d => (h (52 + 2 * d) == x && h (52 + 2 * d + 1) == y) || (h (52 + 2 * d) == y && h (52 + 2 * d + 1) == x)) (h 5) with
    | none => rw [hf] at e; cases e
    | some d =>
      obtain ⟨h1, h2, -⟩ := fnd_some hf
      exact ⟨d, h1, by simpa [dsd] using h2⟩
  · rintro ⟨d, h1, h2⟩
    cases hf : fnd (fun d => (h (52 + 2 * d) == x && h (52 + 2 * d + 1) == y) || (h (52 + 2 * d) == y && h (52 + 2 * d + 1) == x)) (h 5) with
    | none =>
      have := fnd_none hf d h1
      unfold dsd at h2
      simp at this
      omega
    | some d => rfl
theorem fnd_c (hj : injC h c) {t x : Nat} (ht : t < h 3) (e : c t = x) : fnd (fun u => c u == x) (h 3) = some t := by
  refine fnd_eq ht (by simpa using e) (fun v hv => ?_)
  have : ¬ c v = x := fun q => by
    have := hj v t (by omega) ht (by rw [q, e])
    omega
  simpa using this
theorem pq_of (hj : injC h c) {d t u : Nat} (ht : t < h 3) (hu : u < h 3) (htu : t < u) (hs : dsd h d (c t) (c u)) : pq h c d = some (10 * t + u) := by
  unfold pq
  rcases hs with ⟨e1, e2⟩ | ⟨e1, e2⟩
  · rw [fnd_c hj ht e1.symm, fnd_c hj hu e2.symm]
    show some _ = some _
    rw [if_neg (by omega), if_pos htu]
  · rw [fnd_c hj hu e1.symm, fnd_c hj ht e2.symm]
    show some _ = some _
    rw [if_pos htu, if_neg (by omega)]
theorem pq_some (hn : h 3 ≤ 7) (hd : WFd h) {d q : Nat} (hd5 : d < h 5) (e : pq h c d = some q) : q < 70 ∧ q % 10 < h 3 ∧ q / 10 < q % 10 ∧ dsd h d (c (q / 10)) (c (q % 10)) := by
  unfold pq at e
  cases h1 : fnd (fun u => c u == h (52 + 2 * d)) (h 3) with
  | none => rw [h1] at e; cases e
  | some a =>
    cases h2 : fnd (fun u => c u == h (52 + 2 * d + 1)) (h 3) with
    | none => rw [h1, h2] at e; cases e
    | some b =>
      rw [h1, h2] at e
      obtain ⟨a1, a2, -⟩ := fnd_some h1
      obtain ⟨b1, b2, -⟩ := fnd_some h2
      have a2 : c a = h (52 + 2 * d) := by simpa using a2
      have b2 : c b = h (52 + 2 * d + 1) := by simpa using b2
      have hne : a ≠ b := fun q => (hd d hd5).1 (by rw [← a2, ← b2, q])
      cases e
      rcases Nat.lt_or_ge a b with hl | hl
      · rw [if_neg (by omega), if_pos hl]
        have e1 : (10 * a + b) / 10 = a := by omega
        have e2 : (10 * a + b) % 10 = b := by omega
        rw [e1, e2]
        exact ⟨by omega, b1, hl, Or.inl ⟨a2.symm, b2.symm⟩⟩
      · rw [if_pos (by omega), if_neg (by omega)]
        have e1 : (10 * b + a) / 10 = b := by omega
        have e2 : (10 * b + a) % 10 = a := by omega
        rw [e1, e2]
        exact ⟨by omega, a1, by omega, Or.inr ⟨a2.symm, b2.symm⟩⟩
theorem mb_pq (hn : h 3 ≤ 7) (hd : WFd h) (hj : injC h c) {q : Nat} : mb h c q = true ↔ ∃ d, d < h 5 ∧ pq h c d = some q := by
  constructor
  · intro e
    have e' : (q % 10 < h 3 ∧ q / 10 < q % 10) ∧ doorb h (c (q / 10)) (c (q % 10)) = true := by simpa [mb] using e
    obtain ⟨⟨h1, h2⟩, h3⟩ := e'
    obtain ⟨d, h4, h5⟩ := doorb_iff.mp h3
    refine ⟨d, h4, ?_⟩
    rw [pq_of hj (by omega) h1 h2 h5]
    congr 1
    omega
  · rintro ⟨d, h1, h2⟩
    obtain ⟨h3, h4, h5, h6⟩ := pq_some hn hd h1 h2
    have := doorb_iff.mpr ⟨d, h1, h6⟩
    simp [mb, h4, h5, this]
theorem dsd_un (hd : WFd h) {d e x y : Nat} (h1 : d < h 5) (h2 : e < h 5) (s1 : dsd h d x y) (s2 : dsd h e x y) : d = e := by
  apply (hd d h1).2 e h2
  unfold dsd at *
  omega
theorem cnt_0 {p : Nat → Bool} {n : Nat} (hp : ∀ i, i < n → p i = false) : cnt p n = 0 := by
  induction n with
  | zero => rfl
  | succ n ih =>
    rw [cnt, ih (fun i hi => hp i (by omega)), hp n (by omega)]
    rfl
theorem cnt_1 {p : Nat → Bool} {n u : Nat} (hu : u < n) (h1 : p u = true) (h2 : ∀ i, i < n → p i = true → i = u) : cnt p n = 1 := by
  induction n with
  | zero => omega
  | succ n ih =>
    rw [cnt]
    rcases Nat.lt_or_ge u n with hl | hl
    · rw [ih hl (fun i hi => h2 i (by omega))]
      cases hp : p n with
      | true => have := h2 n (by omega) hp; omega
      | false => rfl
    · obtain rfl : u = n := by omega
      rw [cnt_0 (fun i hi => by
        cases hp : p i with
        | true => have := h2 i (by omega) hp; omega
        | false => rfl), h1]
      rfl
theorem cnt_pq (hn : h 3 ≤ 7) (hd : WFd h) (hj : injC h c) (q : Nat) : cnt (fun d => pq h c d == some q) (h 5) = if mb h c q then 1 else 0 := by
  cases hm : mb h c q with
  | true =>
    obtain ⟨d, h1, h2⟩ := (mb_pq hn hd hj).mp hm
    refine (cnt_1 h1 (by simpa using h2) (fun e he h3 => ?_)).trans rfl
    have h3 : pq h c e = some q := by simpa using h3
    exact dsd_un hd he h1 (pq_some hn hd he h3).2.2.2 (pq_some hn hd h1 h2).2.2.2
  | false =>
    refine (cnt_0 (fun e he => ?_)).trans rfl
    cases h3 : (pq h c e == some q) with
    | false => rfl
    | true =>
      have h3 : pq h c e = some q := by simpa using h3
      have := (mb_pq hn hd hj).mpr ⟨e, he, h3⟩
      rw [hm] at this; cases this
def fp (h c : Nat → Nat) : Nat → Option Nat
  | 0 => none
  | d + 1 => match pq h c d, fp h c d with
    | none, x => x
    | some q, none => some q
    | some q, some b => if b ≤ q then some b else some q
theorem fp_spec (n : Nat) : (fp h c n = none → ∀ d, d < n → pq h c d = none) ∧ ∀ b, fp h c n = some b → (∃ d, d < n ∧ pq h c d = some b) ∧ ∀ d q, d < n → pq h c d = some q → b ≤ q := by
  induction n with
  | zero => exact ⟨fun _ d hd => by omega, fun b e => by cases e⟩
  | succ n ih =>
    obtain ⟨i1, i2⟩ := ih
    rw [fp]
    cases hq : pq h c n with
    | none =>
      refine ⟨fun e d hd => ?_, fun b e => ?_⟩
      · rcases Nat.lt_or_ge d n with hl | hl
        · exact i1 e d hl
        · obtain rfl : d = n := by omega
          exact hq
      · obtain ⟨⟨d, a1, a2⟩, a3⟩ := i2 b e
        refine ⟨⟨d, by omega, a2⟩, fun d q hd e => ?_⟩
        rcases Nat.lt_or_ge d n with hl | hl
        · exact a3 d q hl e
        · obtain rfl : d = n := by omega
          rename_i e0
          rw [hq] at e0; cases e0
    | some q =>
      cases hf : fp h c n with
      | none =>
        refine ⟨fun e => (by cases e), fun b e => ?_⟩
        cases e
        refine ⟨⟨n, by omega, hq⟩, fun d q' hd e => ?_⟩
        rcases Nat.lt_or_ge d n with hl | hl
        · rw [i1 hf d hl] at e; cases e
        · obtain rfl : d = n := by omega
          rw [hq] at e; cases e; exact Nat.le_refl _
      | some b0 =>
        obtain ⟨⟨d0, a1, a2⟩, a3⟩ := i2 b0 hf
        show ((if b0 ≤ q then some b0 else some q) = none → _) ∧ _
        by_cases hl : b0 ≤ q
        · simp only [hl, if_true]
          refine ⟨fun e => (by cases e), fun b e => ?_⟩
          cases e
          refine ⟨⟨d0, by omega, a2⟩, fun d q' hd e => ?_⟩
          rcases Nat.lt_or_ge d n with hl' | hl'
          · exact a3 d q' hl' e
          · obtain rfl : d = n := by omega
            rw [hq] at e; cases e; exact hl
        · simp only [hl, if_false]
          refine ⟨fun e => (by cases e), fun b e => ?_⟩
          cases e
          refine ⟨⟨n, by omega, hq⟩, fun d q' hd e => ?_⟩
          rcases Nat.lt_or_ge d n with hl' | hl'
          · have := a3 d q' hl' e; omega
          · obtain rfl : d = n := by omega
            rw [hq] at e; cases e; exact Nat.le_refl _
theorem fp_eq (hn : h 3 ≤ 7) (hd : WFd h) (hj : injC h c) : fp h c (h 5) = fnd (mb h c) 70 := by
  obtain ⟨i1, i2⟩ := fp_spec (h := h) (c := c) (h 5)
  cases hf : fp h c (h 5) with
  | none =>
    symm
    apply fnd_no
    intro q hq
    cases hm : mb h c q with
    | false => rfl
    | true =>
      obtain ⟨d, h1, h2⟩ := (mb_pq hn hd hj).mp hm
      rw [i1 hf d h1] at h2; cases h2
  | some b =>
    obtain ⟨⟨d, a1, a2⟩, a3⟩ := i2 b hf
    symm
    refine fnd_eq (pq_some hn hd a1 a2).1 ((mb_pq hn hd hj).mpr ⟨d, a1, a2⟩) (fun q hq => ?_)
    cases hm : mb h c q with
    | false => rfl
    | true =>
      obtain ⟨d, h1, h2⟩ := (mb_pq hn hd hj).mp hm
      have := a3 d q h1 h2
      omega
theorem pq_70 (hn : h 3 ≤ 7) {d q : Nat} (e : pq h c d = some q) : q < 70 := by
  unfold pq at e
  cases h1 : fnd (fun u => c u == h (52 + 2 * d)) (h 3) with
  | none => rw [h1] at e; cases e
  | some a =>
    cases h2 : fnd (fun u => c u == h (52 + 2 * d + 1)) (h 3) with
    | none => rw [h1, h2] at e; cases e
    | some b =>
      rw [h1, h2] at e
      have a1 := (fnd_some h1).1
      have b1 := (fnd_some h2).1
      cases e
      split <;> split <;> omega
theorem fp_70 (hn : h 3 ≤ 7) : ∀ n b, fp h c n = some b → b < 70 := by
  intro n b e
  obtain ⟨⟨d, a1, a2⟩, -⟩ := (fp_spec n).2 b e
  exact pq_70 hn a2
end MT
def meetingA (h c : Nat → Nat) : Int32 := orNone (fnd (mb h c) 70)
section MT2
variable {h c : Nat → Nat} {vH nx wd sz kd srt plc d1 d2 vD now vN vW cl who fro vM r st trial : Nat → Int32} {aH aW : Nat} {x0 : Option Nat}
theorem c_doorSide0 (hw : WFh h) (v4 : vH 4 = nI (h 5)) (hdr : ∀ d, d < h 5 → d1 d = nI (h (52 + 2 * d)) ∧ d2 d = nI (h (52 + 2 * d + 1)) ∧ h (52 + 2 * d) < 36 ∧ h (52 + 2 * d + 1) < 36) {d : Nat} (hd : d < h 5) : fX4_doorSide vH d1 d2 (nI d) (nI 0) = some (nI (h (52 + 2 * d))) := by
  have h5 := hw.2.2.2.2.2.2.1
  simp (disch := omega) only [fX4_doorSide, fX4_doorSide_J38, v4, nlit, nI_ltI, nI_leI, ok_nI, gdT, nI_clamp, (hdr d hd).1]
  rw [if_neg (by omega), if_neg (by omega), if_pos (by omega)]
  simp only [↓reduceIte]
theorem c_doorSide1 (hw : WFh h) (v4 : vH 4 = nI (h 5)) (hdr : ∀ d, d < h 5 → d1 d = nI (h (52 + 2 * d)) ∧ d2 d = nI (h (52 + 2 * d + 1)) ∧ h (52 + 2 * d) < 36 ∧ h (52 + 2 * d + 1) < 36) {d : Nat} (hd : d < h 5) : fX4_doorSide vH d1 d2 (nI d) (nI 1) = some (nI (h (52 + 2 * d + 1))) := by
  have h5 := hw.2.2.2.2.2.2.1
  simp (disch := omega) only [fX4_doorSide, fX4_doorSide_J38, v4, nlit, nI_ltI, nI_leI, ok_nI, gdT, nI_clamp, (hdr d hd).2.1]
  rw [if_neg (by omega), if_neg (by omega), if_pos (by omega), if_neg (by rw [n10]; exact id)]
theorem c_pairAt (hw : WFh h) (v4 : vH 4 = nI (h 5)) (hdr : ∀ d, d < h 5 → d1 d = nI (h (52 + 2 * d)) ∧ d2 d = nI (h (52 + 2 * d + 1)) ∧ h (52 + 2 * d) < 36 ∧ h (52 + 2 * d + 1) < 36) (hwr : WR h c vW cl who x0) {d : Nat} (hd : d < h 5) : fX6_pairAt vW vH d1 d2 who (nI d) = some (orNone (pq h c d)) := by
  have h3 := hw.2.2.2.2.2.1
  unfold fX6_pairAt pq
  simp only [nlit]
  rw [c_doorSide0 hw v4 hdr hd, bdS, c_thingAt hwr (hdr d hd).2.2.1, bdS, c_doorSide1 hw v4 hdr hd, bdS, c_thingAt hwr (hdr d hd).2.2.2, bdS]
  cases h1 : fnd (fun u => c u == h (52 + 2 * d)) (h 3) with
  | none => rfl
  | some a =>
    have a1 := (fnd_some h1).1
    cases h2 : fnd (fun u => c u == h (52 + 2 * d + 1)) (h 3) with
    | none =>
      simp (disch := omega) only [nI_ltI]
      rw [if_neg (by omega)]
      rfl
    | some b =>
      have b1 := (fnd_some h2).1
      simp (disch := omega) only [nI_ltI, nI_leI]
      rw [if_neg (by omega), if_pos (by omega)]
      show some _ = some (nI _)
      congr 1
      split <;> split <;> simp only [pk_mul, nI_add]
theorem c_firstPair (hw : WFh h) (v4 : vH 4 = nI (h 5)) (hdr : ∀ d, d < h 5 → d1 d = nI (h (52 + 2 * d)) ∧ d2 d = nI (h (52 + 2 * d + 1)) ∧ h (52 + 2 * d) < 36 ∧ h (52 + 2 * d + 1) < 36) (hwr : WR h c vW cl who x0) : fX6_firstPair vW vH d1 d2 who = some (orNone (fp h c (h 5))) := by
  have h3 := hw.2.2.2.2.2.1
  have h5 := hw.2.2.2.2.2.2.1
  unfold fX6_firstPair
  refine lp_for (fun i => (orNone (fp h c i), nI i)) (h 5) ?_ ?_ (by omega) rfl
  · intro i hi
    simp (disch := omega) only [fX6_firstPair_B5, fX6_firstPair_J39, fX6_firstPair_J37, v4, nlit, nI_leI, c_pairAt hw v4 hdr hwr hi, bdS, nI_add]
    rw [if_neg (by omega), fp]
    cases hq : pq h c i with
    | none => rfl
    | some q =>
      have hq7 := pq_70 h3 hq
      show (if nI q < nI 0 then _ else _) = _
      simp (disch := omega) only [nI_ltI]
      rw [if_neg (by omega)]
      cases hf : fp h c i with
      | none => rfl
      | some b =>
        have hb7 := fp_70 h3 i b hf
        rw [if_neg (show ¬ orNone (some b) = -nI 2 from nI_neg2 (a := b) (by omega))]
        show (if nI b ≤ nI q then _ else _) = _
        simp (disch := omega) only [nI_leI]
        by_cases hl : b ≤ q
        · rw [if_pos hl, if_pos hl]
        · rw [if_neg hl, if_neg hl]
  · simp (disch := omega) only [fX6_firstPair_B5, v4, nlit, nI_leI, exS]
    rw [if_pos (Nat.le_refl _)]
theorem C_meeting (hx : CX h c vH nx wd sz kd srt plc d1 d2 now) (hdw : WFd h) :
    ∃ vW' who' cl', fX8_meeting aH aW vN vH vW vD now who kd cl srt d1 d2 = some (meetingA h c, upd vN 6 (nI 0), vW', who', cl', aH) := by
  obtain ⟨vW1, who1, cl1, e1, w1, -⟩ := c_start0 (vW := vW) (vD := vD) (who := who) (cl := cl) hx
  obtain ⟨hw, hh, hc, hj, h8, hd, h1, v4, hpl, hdr⟩ := hx
  refine ⟨vW1, who1, cl1, ?_⟩
  unfold fX8_meeting
  rw [c_stands_t hw.2.2.2.2.1 h1 hh.2.1, bdS, if_neg (by rw [nlit, n10]; exact id), nlit, e1, bdS]
  simp only
  rw [c_firstPair hw v4 hdr w1, bdS, fp_eq hw.2.2.2.2.2.1 hdw hj]
  rfl
theorem M_meeting (hx : MX h c vM r st) : ∃ vM', fX9_meeting vM r st = some (meetingA h c, vM') ∧ MA vM vM' (nI 0) := by
  obtain ⟨hw, hc, hj, h8, hr, hst, h14⟩ := hx
  have h3 := hw.2.2.2.2.2.1
  obtain ⟨v, ev, hma, hv⟩ := m_good vM
  have v14 : v 14 = nI 1 := by rw [hv 14 (by omega) (by omega)]; exact h14
  refine ⟨v, ?_, hma⟩
  unfold fX9_meeting
  rw [ev, bdS, if_neg (by rw [v14, nlit, n10]; exact id)]
  simp only [nlit]
  have hc36 : ∀ t, t < h 3 → c t < 36 := fun t ht => okc_lt hw (hc.1 t ht)
  -- inner
  have inner : ∀ t, t < h 3 → (∀ q, q < 10 * t + t + 1 → mb h c q = false) → (lp (fX9_meeting_B33 r st (nI t) v) 5000 (nI (t + 1)) = some (.inr (nI (t + 1), v)) ∧ ∀ q, q < 10 * (t + 1) + (t + 1) + 1 → mb h c q = false) ∨ lp (fX9_meeting_B33 r st (nI t) v) 5000 (nI (t + 1)) = some (.inl (meetingA h c, v)) := by
    intro t ht hno
    obtain ⟨res, e, hres⟩ := lp_inv (f := fX9_meeting_B33 r st (nI t) v) (fun i s => s = nI (t + 1 + i) ∧ ∀ u, t < u → u < t + 1 + i → doorb h (c t) (c u) = false) (fun res => (res = .inr (nI (t + 1), v) ∧ ∀ u, t < u → u < h 3 → doorb h (c t) (c u) = false) ∨ ∃ u, t < u ∧ u < h 3 ∧ doorb h (c t) (c u) = true ∧ (∀ w, t < w → w < u → doorb h (c t) (c w) = false) ∧ res = .inl (nI (10 * t + u), v)) (h 3 - (t + 1)) (by
      rintro i s hi ⟨rfl, hd⟩
      simp (disch := omega) only [fX9_meeting_B33, nlit, ok_nI, gdT, nI_clamp, hr, nI_leI, hst, m_areDoored hw hr (hc36 t ht) (hc36 (t + 1 + i) (by omega)), bdS, nI_add, pk_mul, exS]
      rw [if_neg (by omega)]
      cases hq : doorb h (c t) (c (t + 1 + i)) with
      | false =>
        left
        refine ⟨_, rfl, rfl, fun u h1 h2 => ?_⟩
        rcases Nat.lt_or_ge u (t + 1 + i) with hl | hl
        · exact hd u h1 hl
        · obtain rfl : u = t + 1 + i := by omega
          exact hq
      | true =>
        right
        simp only [if_true, n10, if_false]
        exact ⟨_, rfl, Or.inr ⟨t + 1 + i, by omega, by omega, hq, hd, rfl⟩⟩) (by
      rintro s ⟨rfl, hd⟩
      simp (disch := omega) only [fX9_meeting_B33, nlit, ok_nI, gdT, nI_clamp, hr, nI_leI, nI_add, exS]
      rw [if_pos (by omega)]
      exact ⟨_, rfl, Or.inl ⟨rfl, fun u h1 h2 => hd u h1 (by omega)⟩⟩) 5000 0 (nI (t + 1)) (Nat.zero_le _) ⟨rfl, fun u h1 h2 => by omega⟩ (by omega)
    have mbf : ∀ q, (∀ u, q / 10 = t → q % 10 = u → t < u → u < h 3 → doorb h (c t) (c u) = false) → q / 10 = t → mb h c q = false := by
      intro q hu hqt
      unfold mb
      by_cases h1 : q % 10 < h 3
      · by_cases h2 : q / 10 < q % 10
        · have := hu (q % 10) hqt rfl (by omega) h1
          rw [hqt, this]
          simp
        · simp [h2]
      · simp [h1]
    have mbg : ∀ q, q / 10 > t → q < 10 * (t + 1) + (t + 1) + 1 → mb h c q = false := by
      intro q h1 h2
      have : ¬ q / 10 < q % 10 := by omega
      simp [mb, this]
    rcases hres with ⟨rfl, hd⟩ | ⟨u, h1, h2, h4, h5, rfl⟩
    · left
      refine ⟨e, fun q hq => ?_⟩
      rcases Nat.lt_trichotomy (q / 10) t with hl | hl | hl
      · exact hno q (by omega)
      · exact mbf q (fun u _ _ a b => hd u a b) hl
      · exact mbg q hl hq
    · right
      rw [e]
      have : fnd (mb h c) 70 = some (10 * t + u) := by
        refine fnd_eq (by omega) ?_ (fun q hq => ?_)
        · have e1 : (10 * t + u) / 10 = t := by omega
          have e2 : (10 * t + u) % 10 = u := by omega
          simp [mb, e1, e2, h4, h1, h2]
        · rcases Nat.lt_trichotomy (q / 10) t with hl | hl | hl
          · exact hno q (by omega)
          · exact mbf q (fun w a b c1 d => h5 w c1 (by omega)) hl
          · omega
      unfold meetingA
      rw [this]
      rfl
  obtain ⟨res, e, hres⟩ := lp_inv (f := fX9_meeting_B19 r st) (fun i s => s = (nI i, v) ∧ ∀ q, q < 10 * i + i + 1 → mb h c q = false) (fun res => res = (meetingA h c, v)) (h 3) (by
    rintro i s hi ⟨rfl, hno⟩
    simp (disch := omega) only [fX9_meeting_B19, nlit, ok_nI, gdT, nI_clamp, hr, nI_leI, nI_add]
    rw [if_neg (by omega)]
    rcases inner i hi hno with ⟨e, hn⟩ | e
    · exact Or.inl ⟨_, e, rfl, hn⟩
    · exact Or.inr ⟨_, e, rfl⟩) (by
    rintro s ⟨rfl, hno⟩
    simp (disch := omega) only [fX9_meeting_B19, nlit, ok_nI, gdT, nI_clamp, hr, nI_leI, exS]
    rw [if_pos (Nat.le_refl _)]
    refine ⟨_, rfl, ?_⟩
    have : fnd (mb h c) 70 = none := by
      apply fnd_no
      intro q hq
      rcases Nat.lt_or_ge q (10 * h 3 + h 3 + 1) with hl | hl
      · exact hno q hl
      · have : ¬ (q % 10 < h 3 ∧ q / 10 < q % 10) := by omega
        simp only [mb]
        by_cases h1 : q % 10 < h 3
        · by_cases h2 : q / 10 < q % 10
          · omega
          · simp [h2]
        · simp [h1]
    unfold meetingA
    rw [this]
    rfl) 5000 0 (nI 0, v) (Nat.zero_le _) ⟨rfl, fun q hq => by
      obtain rfl : q = 0 := by omega
      simp [mb]⟩ (by omega)
  rw [e, hres]
end MT2
