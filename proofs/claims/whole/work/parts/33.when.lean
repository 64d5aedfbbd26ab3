/-! MATH 13: questions about nights to come: what they answer, and that both sides answer so -/
theorem lp_find {σ ρ : Type} {f : σ → Option (ρ ⊕ σ)} (q : Nat → Bool) (n : Nat) (I : Nat → σ → Prop) (Q : Option Nat → ρ → Prop)
    (hs : ∀ i s, i < n → I i s → (q i = false → ∃ s', f s = some (.inr s') ∧ I (i + 1) s') ∧ (q i = true → ∃ r, f s = some (.inl r) ∧ Q (some i) r))
    (he : ∀ s, I n s → ∃ r, f s = some (.inl r) ∧ Q none r) {s : σ} (h0 : I 0 s) {fuel : Nat} (hf : n < fuel) : ∃ r, lp f fuel s = some r ∧ Q (fnd q n) r := by
  cases hq : fnd q n with
  | none =>
    have hno := fnd_none hq
    exact lp_inv I (Q none) n (fun i s hi h => Or.inl ((hs i s hi h).1 (hno i hi))) he fuel 0 s (Nat.zero_le _) h0 (by omega)
  | some u =>
    obtain ⟨h1, h2, h3⟩ := fnd_some hq
    exact lp_inv I (Q (some u)) u (fun i s hi h => Or.inl ((hs i s (by omega) h).1 (h3 i hi))) (fun s h => (hs u s h1 h).2 h2) fuel 0 s (Nat.zero_le _) h0 (by omega)
/-- a number found, or -2 -/
def orNone (o : Option Nat) : Int32 := match o with
  | some k => nI k
  | none => -2
/-- the class's side of a house that stands -/
def CX (h c : Nat → Nat) (vH nx wd sz kd srt plc d1 d2 now : Nat → Int32) : Prop :=
  WFh h ∧ HC h vH nx wd sz kd srt none ∧ okRow h c ∧ injC h c ∧ c 8 ≤ 1000 ∧ DR h c now ∧ 1 ≤ h 2 ∧ vH 4 = nI (h 5) ∧ (∀ g, g < h 2 → plc g = nI (pl h g)) ∧ ∀ d, d < h 5 → d1 d = nI (h (52 + 2 * d)) ∧ d2 d = nI (h (52 + 2 * d + 1)) ∧ h (52 + 2 * d) < 36 ∧ h (52 + 2 * d + 1) < 36
/-- the reference's side -/
def MX (h c : Nat → Nat) (vM r st : Nat → Int32) : Prop := WFh h ∧ okRow h c ∧ injC h c ∧ c 8 ≤ 1000 ∧ (∀ k, k < 224 → r k = nI (h k)) ∧ (∀ k, k < 9 → st k = nI (c k)) ∧ vM 14 = nI 1
/-- what a question may change of the reference: thrown, trouble, what it works with -/
def MA (vM vM' : Nat → Int32) (tr : Int32) : Prop := vM' 11 = tr ∧ ∀ k, k ≠ 0 → k ≠ 11 → k < 25 → vM' k = vM k
theorem held0 (c : Nat → Nat) : held c 0 = c := by
  funext k
  unfold held
  by_cases hk : k = 7
  · subst hk; simp
  · rw [if_neg hk]
theorem m_good (vM : Nat → Int32) : ∃ v, fX9_good vM = some v ∧ MA vM v (nI 0) ∧ ∀ k, k ≠ 0 → k ≠ 11 → v k = vM k := by
  refine ⟨_, rfl, ⟨rfl, fun k h1 h2 _ => ?_⟩, fun k h1 h2 => ?_⟩
  all_goals
    unfold upd
    first | rw [if_neg h2, if_neg h1] | rw [if_neg h1, if_neg h2]
theorem m_no (vM : Nat → Int32) (w : Int32) : ∃ v, fX9_no vM w = some (-1, v) ∧ v 11 = w ∧ ∀ k, k ≠ 11 → v k = vM k := by
  refine ⟨_, rfl, rfl, fun k h1 => ?_⟩
  unfold upd
  rw [if_neg h1]
section QW
variable {h c : Nat → Nat} {vH nx wd sz kd srt plc d1 d2 vD now vN vW cl who fro vM r st trial : Nat → Int32} {aH aW : Nat}
theorem c_start0 (hx : CX h c vH nx wd sz kd srt plc d1 d2 now) : ∃ vW' who' cl', fX6_start vW vD now who vH kd cl srt (nI 0) = some (vW', who', cl') ∧ WR h c vW' cl' who' none ∧ vW' 10 = vW 10 := by
  obtain ⟨hw, hh, hc, hj, h8, hd, -⟩ := hx
  have := c_start (vW := vW) (vD := vD) (who := who) (cl := cl) hw hh hc hj hd (m := 0) (Nat.two_pow_pos _)
  rw [held0] at this
  exact this
/-- when: behind how many nights a thing is at a place -/
def whenA (h c : Nat → Nat) (t x : Nat) : Int32 := orNone (fnd (fun k => nights h c k t == x) 201)
theorem C_when (hx : CX h c vH nx wd sz kd srt plc d1 d2 now) {t g y : Nat} (ht : t < h 3) (hg : g < h 2) (hy : y < pl h g) :
    ∃ vW' who' cl' fro', fX8_when aH aW vN vH plc vW vD now who kd cl srt nx fro sz wd (nI t) (nI g) (nI y) = some (whenA h c t (9 * g + y), upd vN 6 (nI 0), vW', who', cl', fro', aH) := by
  obtain ⟨vW1, who1, cl1, e1, w1, -⟩ := c_start0 (vW := vW) (vD := vD) (who := who) (cl := cl) hx
  obtain ⟨hw, hh, hc, hj, h8, hd, h1, v4, hpl, hdr⟩ := hx
  have h2 := hw.2.2.2.2.1
  have h3 := hw.2.2.2.2.2.1
  have hp9 := (hw.2.2.2.2.2.2.2.2.2.1 g hg).2
  have e2 : fX8_cellAt (nI g) (nI y) = some (nI (9 * g + y)) := by
    simp (disch := omega) only [fX8_cellAt, nlit, pk_mul, nI_add]
    rw [Nat.mul_comm]
  unfold fX8_when
  rw [c_hasThing_t h3 hh.2.2.1 ht, bdS, if_neg (by rw [nlit, n10]; exact id), c_hasPlace_t h2 hh.2.1 hg (hpl g hg) hp9 hy, bdS, if_neg (by rw [nlit, n10]; exact id), e2, bdS, nlit, e1, bdS]
  simp only
  refine Exists.elim (lp_find (f := fX8_when_B55 aH vN vH kd nx sz wd (nI t)) (fun k => nights h c k t == 9 * g + y) 201 (fun i s => ∃ cl' fro' who' vW', s = (nI (9 * g + y), nI i, cl', fro', who', vW') ∧ WR h (nights h c i) vW' cl' who' none) (fun o res => ∃ vW' who' cl' fro', res = (orNone o, upd vN 6 (nI 0), vW', who', cl', fro', aH)) ?_ ?_ ⟨cl1, fro, who1, vW1, rfl, w1⟩ (show 201 < 5000 by omega)) (fun res hr => ?_)
  · rintro i s hi ⟨cl', fro', who', vW', rfl, q⟩
    obtain ⟨a1, a2, a3, a4⟩ := nts hw hc hj h8 i (by omega)
    have hlt := okc_lt hw (a1.1 t ht)
    obtain ⟨vW2, cl2, who2, fro2, e, q1, q2, -, -⟩ := c_pass0 (fro := fro') hw hh a1 a2 q
    simp (disch := omega) only [fX8_when_B55, fX8_answer, nlit, nI_ltI, c_wcell h3 q ht, bdS, nI_eq, e, exS, nI_add]
    rw [if_neg (by omega)]
    constructor
    · intro hq
      rw [if_neg (by simpa using hq)]
      exact ⟨_, rfl, cl2, fro2, who2, vW2, rfl, q1⟩
    · intro hq
      rw [if_pos (by simpa using hq)]
      exact ⟨_, rfl, vW', who', cl', fro', rfl⟩
  · rintro s ⟨cl', fro', who', vW', rfl, q⟩
    simp (disch := omega) only [fX8_when_B55, fX8_answer, nlit, nI_ltI, bdS, exS]
    rw [if_pos (by omega)]
    exact ⟨_, rfl, vW', who', cl', fro', rfl⟩
  · obtain ⟨e, vW', who', cl', fro', hr⟩ := hr
    exact ⟨vW', who', cl', fro', e.trans (congrArg some hr)⟩
theorem M_when (hx : MX h c vM r st) {t g y : Nat} (ht : t < h 3) (hg : g < h 2) (hy : y < pl h g) :
    ∃ vM' tr', fX9_when vM r st trial (nI t) (nI g) (nI y) = some (whenA h c t (9 * g + y), vM', tr') ∧ MA vM vM' (nI 0) := by
  obtain ⟨hw, hc, hj, h8, hr, hst, h14⟩ := hx
  have h2 := hw.2.2.2.2.1
  have h3 := hw.2.2.2.2.2.1
  have hp9 := (hw.2.2.2.2.2.2.2.2.2.1 g hg).2
  obtain ⟨v, ev, hma, hv⟩ := m_good vM
  have v14 : v 14 = nI 1 := by rw [hv 14 (by omega) (by omega)]; exact h14
  obtain ⟨t0, e0, ht0⟩ := m_begin (vM := v) (trial := trial) hst
  unfold fX9_when
  rw [ev, bdS, m_isThing_t hw hr v14 ht, bdS, if_neg (by rw [nlit, n10]; exact id), m_isPlace_t hw hr v14 hg hy, bdS, if_neg (by rw [nlit, n10]; exact id), e0, bdS]
  refine Exists.elim (lp_find (f := fX9_when_B34 r (nI t) (nI g) (nI y)) (fun k => nights h c k t == 9 * g + y) 201 (fun i s => ∃ p, s = (nI i, p, v) ∧ ∀ k, k < 9 → p k = nI (nights h c i k)) (fun o res => ∃ p, res = (orNone o, v, p)) ?_ ?_ ⟨t0, rfl, ht0⟩ (show 201 < 5000 by omega)) (fun res hres => ?_)
  · rintro i s hi ⟨p, rfl, hp⟩
    obtain ⟨a1, a2, a3, a4⟩ := nts hw hc hj h8 i (by omega)
    have hlt := okc_lt hw (a1.1 t ht)
    obtain ⟨p', e, hp'⟩ := m_nightOf (vM := v) hw hr hp a1
    simp (disch := omega) only [fX9_when_B34, nlit, nI_ltI, ok_nI, gdT, nI_clamp, hp, pk_mul, nI_add, nI_eq, e, bdS, exS]
    rw [if_neg (by omega)]
    constructor
    · intro hq
      rw [if_neg (by simpa using hq)]
      exact ⟨_, rfl, p', rfl, hp'⟩
    · intro hq
      rw [if_pos (by simpa using hq)]
      exact ⟨_, rfl, p, rfl⟩
  · rintro s ⟨p, rfl, hp⟩
    simp (disch := omega) only [fX9_when_B34, nlit, nI_ltI, exS]
    rw [if_pos (by omega)]
    exact ⟨_, rfl, p, rfl⟩
  · obtain ⟨e, p, hres⟩ := hres
    exact ⟨v, p, e.trans (congrArg some hres), hma⟩
end QW
