/-! MATH 23: damp nights -/
def dr (s : Nat) : Nat → Nat
  | 0 => s
  | i + 1 => (75 * dr s i + 74) % 65537
theorem dr_le {s : Nat} (hs : s ≤ 65536) (i : Nat) : dr s i ≤ 65536 := by
  cases i with
  | zero => exact hs
  | succ i => rw [dr]; omega
theorem dr_add (s : Nat) (a b : Nat) : dr s (a + b) = dr (dr s a) b := by
  induction b with
  | zero => rfl
  | succ b ih => rw [← Nat.add_assoc, dr, dr, ih]
def dmp (h : Nat → Nat) (s t : Nat) : Bool := decide (dr s (t + 1) % 100 < h 1)
def dgo (h c : Nat → Nat) (s : Nat) : Nat → Bool := goSet h c (fun t => own h c t || dmp h s t)
def dN (h c : Nat → Nat) (s : Nat) : Nat → Nat → Nat
  | 0 => c
  | k + 1 => nightRow h (dN h c s k) (dgo h (dN h c s k) (dr s (k * h 3)))
def dmv (h c : Nat → Nat) (s : Nat) : Nat → Nat
  | 0 => 0
  | k + 1 => dmv h c s k + cnt (dgo h (dN h c s k) (dr s (k * h 3))) (h 3)
theorem dmv_le (h c : Nat → Nat) (s : Nat) (hn : h 3 ≤ 7) (k : Nat) : dmv h c s k ≤ 7 * k := by
  induction k with
  | zero => exact Nat.le_refl _
  | succ k ih =>
    rw [dmv]
    have := cnt_le (dgo h (dN h c s k) (dr s (k * h 3))) (h 3)
    omega
theorem dNs {h c : Nat → Nat} (hw : WFh h) (hc : okRow h c) (hj : injC h c) (h8 : c 8 ≤ 1000) (s : Nat) : ∀ k, k ≤ 1000 → okRow h (dN h c s k) ∧ injC h (dN h c s k) ∧ dN h c s k 8 = c 8 + k := by
  have h3 := hw.2.2.2.2.2.1
  intro k
  induction k with
  | zero => intro _; exact ⟨hc, hj, rfl⟩
  | succ k ih =>
    intro hk
    obtain ⟨a1, a2, a3⟩ := ih (by omega)
    refine ⟨nr_ok hw a1 (by omega), nr_inj hw a1 a2 _, ?_⟩
    show nightRow h _ _ 8 = _
    rw [nr_8 h3, a3]
    omega
def dampA (h c : Nat → Nat) (t s k : Nat) : Int32 := nI (ten (dN h c s k t))
def dampStepsA (h c : Nat → Nat) (s k : Nat) : Int32 := nI (dmv h c s k)
def orZero (o : Option Nat) : Nat := match o with
  | some k => k + 1
  | none => 0
def dampWhenA (h c : Nat → Nat) (t x s k : Nat) : Int32 := nI (orZero (fnd (fun j => dN h c s (j + 1) t == x) k))
theorem fnd_s (q : Nat → Bool) (n : Nat) : fnd q (n + 1) = match fnd q n with | some u => some u | none => if q n then some n else none := rfl
section DP
variable {h c : Nat → Nat} {vH nx wd sz kd srt plc d1 d2 vD now vN vW cl who fro vM r st trial : Nat → Int32} {aH aW : Nat} {x0 : Option Nat}
theorem c_passDamp (hw : WFh h) (hh : HC h vH nx wd sz kd srt x0) (v1 : vH 1 = nI (h 1)) (hc : okRow h c) (hj : injC h c) (hwr : WR h c vW cl who x0) {s : Nat} (hs : s ≤ 65536) (v10 : vW 10 = nI s) :
    ∃ vW' cl' who' fro', fX6_passDamp vW vH cl nx who fro sz wd kd = some (vW', cl', who', fro') ∧ WR h (nightRow h c (dgo h c s)) vW' cl' who' x0 ∧ vW' 12 = nI (bm (dgo h c s) (h 3)) ∧ vW' 10 = nI (dr s (h 3)) := by
  have h3 := hw.2.2.2.2.2.1
  have h1b := hw.2.2.2.1
  unfold fX6_passDamp
  simp only [nlit]
  refine Exists.elim (lp_inv (f := fX6_passDamp_B4 vH cl nx who fro sz wd kd) (fun i t => ∃ v, t = (nI (bm (dmp h s) i), nI i, v) ∧ v 10 = nI (dr s i) ∧ ∀ k, k ≠ 10 → v k = vW k) (fun res => ∃ vW' cl' who' fro', res = (vW', cl', who', fro') ∧ WR h (nightRow h c (dgo h c s)) vW' cl' who' x0 ∧ vW' 12 = nI (bm (dgo h c s) (h 3)) ∧ vW' 10 = nI (dr s (h 3))) (h 3) ?_ ?_ 5000 0 (nI 0, nI 0, vW) (Nat.zero_le _) ⟨vW, rfl, v10, fun k _ => rfl⟩ (by omega)) (fun res hres => ?_)
  · rintro i t hi ⟨v, rfl, e10, eo⟩
    left
    have hd := dr_le hs i
    have e : bm (dmp h s) (i + 1) = bm (dmp h s) i ||| (if dmp h s i then 2 ^ i else 0) := rfl
    have ed : dmp h s i = decide ((75 * dr s i + 74) % 65537 % 100 < h 1) := rfl
    simp (disch := omega) only [fX6_passDamp_B4, fX6_passDamp_J63, hh.2.2.1, nlit, nI_leI, e10, pk_mul, nI_add, irm_nI, v1, isl_1, nI_or]
    rw [if_neg (by omega), if_neg (by omega)]
    by_cases hl : (75 * dr s i + 74) % 65537 % 100 < h 1
    · rw [if_neg (by omega)]
      refine ⟨_, rfl, upd v 10 (nI ((75 * dr s i + 74) % 65537)), ?_, rfl, fun k hk => ?_⟩
      · rw [e, ed, if_pos (by simpa using hl)]
      · unfold upd; rw [if_neg hk]; exact eo k hk
    · rw [if_pos (by omega)]
      refine ⟨_, rfl, upd v 10 (nI ((75 * dr s i + 74) % 65537)), ?_, rfl, fun k hk => ?_⟩
      · rw [e, ed, if_neg (by simpa using hl)]
      · unfold upd; rw [if_neg hk]; exact eo k hk
  · rintro t ⟨v, rfl, e10, eo⟩
    have hwr' : WR h c v cl who x0 := by
      obtain ⟨a1, a2, a3, a4, a5, a6, a7⟩ := hwr
      exact ⟨a1, a2, by rw [eo 5 (by omega)]; exact a3, by rw [eo 6 (by omega)]; exact a4, by rw [eo 7 (by omega)]; exact a5, by rw [eo 8 (by omega)]; exact a6, by rw [eo 9 (by omega)]; exact a7⟩
    obtain ⟨vW', cl', who', fro', e, q1, q2, q3, q4⟩ := c_pass (fro := fro) hw hh hc hj hwr' (dmp h s)
    simp (disch := omega) only [fX6_passDamp_B4, fX6_passDamp_J71, hh.2.2.1, nlit, nI_leI, e, bdS, exS]
    rw [if_pos (by omega)]
    exact ⟨_, rfl, vW', cl', who', fro', rfl, q1, q2, by rw [q4]; exact e10⟩
  · obtain ⟨e, vW', cl', who', fro', hr, q⟩ := hres
    exact ⟨vW', cl', who', fro', e.trans (congrArg some hr), q⟩
theorem c_dampNums_t {s k : Nat} (hs : s ≤ 65536) (hk : k ≤ 60) : fX8_areDampNumbers (nI s) (nI k) = some (nI 1) := by
  simp (disch := omega) only [fX8_areDampNumbers, fX8_areDampNumbers_J26, nlit, nI_ltI]
  rw [if_neg (by omega), if_neg (by omega), if_neg (by omega), if_neg (by omega)]
  rfl
theorem WR_sow (hwr : WR h c vW cl who x0) (x : Int32) : WR h c (upd vW 10 x) cl who x0 := by
  obtain ⟨a1, a2, a3, a4, a5, a6, a7⟩ := hwr
  exact ⟨a1, a2, a3, a4, a5, a6, a7⟩
theorem C_damp (hx : CX h c vH nx wd sz kd srt plc d1 d2 now) (v1 : vH 1 = nI (h 1)) {t s k : Nat} (ht : t < h 3) (hs : s ≤ 65536) (hk : k ≤ 60) :
    ∃ vW' who' cl' fro', fX8_damp aH aW vN vH vW vD now who kd cl srt nx fro sz wd (nI t) (nI s) (nI k) = some (dampA h c t s k, upd vN 6 (nI 0), vW', who', cl', fro', aH) := by
  obtain ⟨vW1, who1, cl1, e1, w1, -⟩ := c_start0 (vW := vW) (vD := vD) (who := who) (cl := cl) hx
  obtain ⟨hw, hh, hc, hj, h8, hd, h1, v4, hpl, hdr⟩ := hx
  have h3 := hw.2.2.2.2.2.1
  unfold fX8_damp
  rw [c_hasThing_t h3 hh.2.2.1 ht, bdS, if_neg (by rw [nlit, n10]; exact id), c_dampNums_t hs hk, bdS, if_neg (by rw [nlit, n10]; exact id), nlit, e1, bdS]
  simp only [fX6_sow, bdS, nlit]
  refine Exists.elim (lp_inv (f := fX8_damp_B58 aH vN vH kd nx sz wd (nI t) (nI k)) (fun i z => ∃ cl' fro' who' vW', z = (nI (i + 1), cl', fro', who', vW') ∧ WR h (dN h c s i) vW' cl' who' none ∧ vW' 10 = nI (dr s (i * h 3))) (fun res => ∃ vW' who' cl' fro', res = (dampA h c t s k, upd vN 6 (nI 0), vW', who', cl', fro', aH)) k ?_ ?_ 5000 0 (nI 1, cl1, fro, who1, upd vW1 10 (nI s)) (Nat.zero_le _) ⟨cl1, fro, who1, _, rfl, WR_sow w1 _, by rw [Nat.zero_mul]; rfl⟩ (by omega)) (fun res hr => ?_)
  · rintro i z hi ⟨cl', fro', who', vW', rfl, q, q10⟩
    left
    obtain ⟨a1, a2, a3⟩ := dNs hw hc hj h8 s i (by omega)
    obtain ⟨vW2, cl2, who2, fro2, e, q1, q2, q3⟩ := c_passDamp (fro := fro') hw hh v1 a1 a2 q (dr_le hs _) q10
    simp (disch := omega) only [fX8_damp_B58, nlit, nI_ltI, e, bdS, nI_add]
    rw [if_neg (by omega)]
    refine ⟨_, rfl, cl2, fro2, who2, vW2, rfl, q1, ?_⟩
    rw [q3, ← dr_add, Nat.succ_mul]
  · rintro z ⟨cl', fro', who', vW', rfl, q, q10⟩
    obtain ⟨a1, a2, a3⟩ := dNs hw hc hj h8 s k (by omega)
    simp (disch := omega) only [fX8_damp_B58, fX8_answer, nlit, nI_ltI, c_wcell h3 q ht, bdS, c_ten (okc_lt hw (a1.1 t ht)), exS]
    rw [if_pos (by omega)]
    exact ⟨_, rfl, vW', who', cl', fro', rfl⟩
  · obtain ⟨e, vW', who', cl', fro', hr⟩ := hr
    exact ⟨vW', who', cl', fro', e.trans (congrArg some hr)⟩
theorem C_dampSteps (hx : CX h c vH nx wd sz kd srt plc d1 d2 now) (v1 : vH 1 = nI (h 1)) {s k : Nat} (hs : s ≤ 65536) (hk : k ≤ 60) :
    ∃ vW' who' cl' fro', fX8_dampSteps aH aW vN vH vW vD now who kd cl srt nx fro sz wd (nI s) (nI k) = some (dampStepsA h c s k, upd vN 6 (nI 0), vW', who', cl', fro', aH) := by
  obtain ⟨vW1, who1, cl1, e1, w1, -⟩ := c_start0 (vW := vW) (vD := vD) (who := who) (cl := cl) hx
  obtain ⟨hw, hh, hc, hj, h8, hd, h1, v4, hpl, hdr⟩ := hx
  have h3 := hw.2.2.2.2.2.1
  unfold fX8_dampSteps
  rw [c_stands_t hw.2.2.2.2.1 h1 hh.2.1, bdS, if_neg (by rw [nlit, n10]; exact id), c_dampNums_t hs hk, bdS, if_neg (by rw [nlit, n10]; exact id), nlit, e1, bdS]
  simp only [fX6_sow, bdS, nlit]
  refine Exists.elim (lp_inv (f := fX8_dampSteps_B59 aH vN vH kd nx sz wd (nI k)) (fun i z => ∃ cl' fro' who' vW', z = (nI (dmv h c s i), nI (i + 1), cl', fro', who', vW') ∧ WR h (dN h c s i) vW' cl' who' none ∧ vW' 10 = nI (dr s (i * h 3))) (fun res => ∃ vW' who' cl' fro', res = (dampStepsA h c s k, upd vN 6 (nI 0), vW', who', cl', fro', aH)) k ?_ ?_ 5000 0 (nI 0, nI 1, cl1, fro, who1, upd vW1 10 (nI s)) (Nat.zero_le _) ⟨cl1, fro, who1, _, rfl, WR_sow w1 _, by rw [Nat.zero_mul]; rfl⟩ (by omega)) (fun res hr => ?_)
  · rintro i z hi ⟨cl', fro', who', vW', rfl, q, q10⟩
    left
    obtain ⟨a1, a2, a3⟩ := dNs hw hc hj h8 s i (by omega)
    obtain ⟨vW2, cl2, who2, fro2, e, q1, q2, q3⟩ := c_passDamp (fro := fro') hw hh v1 a1 a2 q (dr_le hs _) q10
    simp (disch := omega) only [fX8_dampSteps_B59, fX6_went, nlit, nI_ltI, e, bdS, q2, bc_nI _ (bm_7 _ h3), popc_bm _ (show h 3 ≤ 8 by omega), nI_add]
    rw [if_neg (by omega)]
    refine ⟨_, rfl, cl2, fro2, who2, vW2, rfl, q1, ?_⟩
    rw [q3, ← dr_add, Nat.succ_mul]
  · rintro z ⟨cl', fro', who', vW', rfl, q, q10⟩
    simp (disch := omega) only [fX8_dampSteps_B59, fX8_answer, nlit, nI_ltI, bdS, exS]
    rw [if_pos (by omega)]
    exact ⟨_, rfl, vW', who', cl', fro', rfl⟩
  · obtain ⟨e, vW', who', cl', fro', hr⟩ := hr
    exact ⟨vW', who', cl', fro', e.trans (congrArg some hr)⟩
theorem C_dampWhen (hx : CX h c vH nx wd sz kd srt plc d1 d2 now) (v1 : vH 1 = nI (h 1)) {t p s k : Nat} (ht : t < h 3) (hp : p < pl h (c t / 9)) (hs : s ≤ 65536) (hk : k ≤ 60) :
    ∃ vW' who' cl' fro', fX8_dampWhen aH aW vN vH vD now plc vW who kd cl srt nx fro sz wd (nI t) (nI p) (nI s) (nI k) = some (dampWhenA h c t (9 * (c t / 9) + p) s k, upd vN 6 (nI 0), vW', who', cl', fro', aH) := by
  obtain ⟨vW1, who1, cl1, e1, w1, -⟩ := c_start0 (vW := vW) (vD := vD) (who := who) (cl := cl) hx
  obtain ⟨hw, hh, hc, hj, h8, hd, h1, v4, hpl, hdr⟩ := hx
  have h2 := hw.2.2.2.2.1
  have h3 := hw.2.2.2.2.2.1
  have hg := (hc.1 t ht).1
  have hp9 := (hw.2.2.2.2.2.2.2.2.2.1 (c t / 9) hg).2
  have hct := okc_lt hw (hc.1 t ht)
  have e2 : fX8_cellAt (nI (c t / 9)) (nI p) = some (nI (9 * (c t / 9) + p)) := by
    simp (disch := omega) only [fX8_cellAt, nlit, pk_mul, nI_add]
    rw [Nat.mul_comm]
  unfold fX8_dampWhen
  rw [c_hasThing_t h3 hh.2.2.1 ht, bdS, if_neg (by rw [nlit, n10]; exact id), c_dcell hw hd ht, bdS, c_ring (by omega), bdS, c_hasPlace_t h2 hh.2.1 hg (hpl _ hg) hp9 hp, bdS, if_neg (by rw [nlit, n10]; exact id), c_dampNums_t hs hk, bdS, if_neg (by rw [nlit, n10]; exact id), nlit, e1, bdS]
  simp only [fX6_sow, bdS, nlit]
  refine Exists.elim (lp_find (f := fX8_dampWhen_B91 aH vN vH kd nx sz wd (nI t) (nI p) (nI k)) (fun j => dN h c s (j + 1) t == 9 * (c t / 9) + p) k (fun i z => ∃ cl' fro' who' vW', z = (nI (c t / 9), nI (i + 1), cl', fro', who', vW') ∧ WR h (dN h c s i) vW' cl' who' none ∧ vW' 10 = nI (dr s (i * h 3))) (fun o res => ∃ vW' who' cl' fro', res = (nI (orZero o), upd vN 6 (nI 0), vW', who', cl', fro', aH)) ?_ ?_ (s := (nI (c t / 9), nI 1, cl1, fro, who1, upd vW1 10 (nI s))) ⟨cl1, fro, who1, _, rfl, WR_sow w1 _, by rw [Nat.zero_mul]; rfl⟩ (show k < 5000 by omega)) (fun res hr => ?_)
  · rintro i z hi ⟨cl', fro', who', vW', rfl, q, q10⟩
    obtain ⟨a1, a2, a3⟩ := dNs hw hc hj h8 s i (by omega)
    obtain ⟨b1, b2, b3⟩ := dNs hw hc hj h8 s (i + 1) (by omega)
    have hlt := okc_lt hw (b1.1 t ht)
    obtain ⟨vW2, cl2, who2, fro2, e, q1, q2, q3⟩ := c_passDamp (fro := fro') hw hh v1 a1 a2 q (dr_le hs _) q10
    have q1 : WR h (dN h c s (i + 1)) vW2 cl2 who2 none := q1
    simp (disch := omega) only [fX8_dampWhen_B91, fX8_answer, nlit, nI_ltI, e, bdS, c_wcell h3 q1 ht, e2, nI_eq, exS, nI_add]
    rw [if_neg (by omega)]
    constructor
    · intro hq
      rw [if_neg (by simpa using hq)]
      refine ⟨_, rfl, cl2, fro2, who2, vW2, rfl, q1, ?_⟩
      rw [q3, ← dr_add, Nat.succ_mul]
    · intro hq
      rw [if_pos (by simpa using hq)]
      exact ⟨_, rfl, vW2, who2, cl2, fro2, rfl⟩
  · rintro z ⟨cl', fro', who', vW', rfl, q, q10⟩
    simp (disch := omega) only [fX8_dampWhen_B91, fX8_answer, nlit, nI_ltI, bdS, exS]
    rw [if_pos (by omega)]
    exact ⟨_, rfl, vW', who', cl', fro', rfl⟩
  · obtain ⟨e, vW', who', cl', fro', hr⟩ := hr
    exact ⟨vW', who', cl', fro', e.trans (congrArg some hr)⟩
/-- what the reference looks for: a thing at a place, or nothing -/
def dhit (h c : Nat → Nat) (s : Nat) (o : Option (Nat × Nat)) (j : Nat) : Bool := match o with
  | none => false
  | some (t, x) => dN h c s (j + 1) t == x
def d4 (o : Option (Nat × Nat)) : Int32 := match o with
  | none => -1
  | some (t, _) => nI t
def d5 (o : Option (Nat × Nat)) : Int32 := match o with
  | none => nI 0
  | some (_, x) => nI x
theorem m_dampWhy (hw : WFh h) (hc : okRow h c) (hj : injC h c) (h8 : c 8 ≤ 1000) (hr : ∀ k, k < 224 → r k = nI (h k)) (hst : ∀ k, k < 9 → st k = nI (c k)) {s k : Nat} (hs : s ≤ 65536) (hk : k ≤ 60) (o : Option (Nat × Nat)) (ho : ∀ t x, o = some (t, x) → t < h 3 ∧ x < 1000) :
    ∃ vM' tr', fX9_dampWhy vM st trial r (nI 1) (nI s) (nI k) (d4 o) (d5 o) = some (nI 0, vM', tr') ∧ (∀ j, j < 9 → tr' j = nI (dN h c s k j)) ∧ vM' 27 = nI (dmv h c s k) ∧ vM' 28 = nI (orZero (fnd (dhit h c s o) k)) ∧ ∀ j, j ≠ 27 → j ≠ 28 → vM' j = vM j := by
  have h3 := hw.2.2.2.2.2.1
  have h1b := hw.2.2.2.1
  obtain ⟨t0, e0, ht0⟩ := m_begin (vM := vM) (trial := trial) hst
  unfold fX9_dampWhy
  simp only [nlit]
  rw [m_inn_t (show 65536 < 2 ^ 30 by omega) hs, bdS, m_inn_t (show 60 < 2 ^ 30 by omega) hk, bdS, e0, bdS]
  simp only [n10, if_false]
  refine Exists.elim (lp_inv (f := fX9_dampWhy_B49 r (nI k) (d4 o) (d5 o)) (fun i z => ∃ tr v, z = (nI (dr s (i * h 3)), nI (i + 1), tr, v) ∧ (∀ j, j < 9 → tr j = nI (dN h c s i j)) ∧ v 27 = nI (dmv h c s i) ∧ v 28 = nI (orZero (fnd (dhit h c s o) i)) ∧ ∀ j, j ≠ 27 → j ≠ 28 → v j = vM j) (fun res => ∃ vM' tr', res = (nI 0, vM', tr') ∧ (∀ j, j < 9 → tr' j = nI (dN h c s k j)) ∧ vM' 27 = nI (dmv h c s k) ∧ vM' 28 = nI (orZero (fnd (dhit h c s o) k)) ∧ ∀ j, j ≠ 27 → j ≠ 28 → vM' j = vM j) k ?_ ?_ 5000 0 (nI s, nI 1, t0, upd (upd vM 27 (nI 0)) 28 (nI 0)) (Nat.zero_le _) ⟨t0, _, by rw [Nat.zero_mul]; rfl, ht0, rfl, rfl, fun j h1 h2 => ?_⟩ (by omega)) (fun res hres => ?_)
  · rintro i z hi ⟨tr, v, rfl, htr, v27, v28, vo⟩
    left
    obtain ⟨a1, a2, a3⟩ := dNs hw hc hj h8 s i (by omega)
    have hdm := dmv_le h c s h3 i
    simp (disch := omega) only [fX9_dampWhy_B49, nlit, nI_ltI]
    rw [if_neg (by omega), m_fixed hw hr htr a1, bdS]
    have s1 := dr_le hs (i * h 3)
    obtain ⟨res, er, hres⟩ := lp_inv (f := fX9_dampWhy_B68 r (d4 o) (d5 o) (nI (i + 1)) tr v) (fun j z => z = (nI (dr (dr s (i * h 3)) j), nI (bm (own h (dN h c s i)) (h 3) ||| bm (dmp h (dr s (i * h 3))) j), nI j)) (fun res => ∃ tr' v', res = .inr (nI (dr s ((i + 1) * h 3)), nI (i + 1 + 1), tr', v') ∧ (∀ j, j < 9 → tr' j = nI (dN h c s (i + 1) j)) ∧ v' 27 = nI (dmv h c s (i + 1)) ∧ v' 28 = nI (orZero (fnd (dhit h c s o) (i + 1))) ∧ ∀ j, j ≠ 27 → j ≠ 28 → v' j = vM j) (h 3) (by
      rintro j z hj rfl
      left
      have hd := dr_le s1 j
      have e : bm (dmp h (dr s (i * h 3))) (j + 1) = bm (dmp h (dr s (i * h 3))) j ||| (if dmp h (dr s (i * h 3)) j then 2 ^ j else 0) := rfl
      have ed : dmp h (dr s (i * h 3)) j = decide ((75 * dr (dr s (i * h 3)) j + 74) % 65537 % 100 < h 1) := rfl
      simp (disch := omega) only [fX9_dampWhy_B68, fX9_dampWhy_J117, nlit, ok_nI, gdT, nI_clamp, hr, nI_leI, pk_mul, nI_add, irm_nI, isl_1, nI_or]
      rw [if_neg (by omega)]
      by_cases hl : (75 * dr (dr s (i * h 3)) j + 74) % 65537 % 100 < h 1
      · rw [if_neg (by omega)]
        refine ⟨_, rfl, ?_⟩
        rw [e, ed, if_pos (by simpa using hl), ← Nat.or_assoc]
        rfl
      · rw [if_pos (by omega)]
        refine ⟨_, rfl, ?_⟩
        rw [e, ed, if_neg (by simpa using hl), Nat.or_zero, Nat.or_zero]
        rfl) (by
      rintro z rfl
      rw [bm_or]
      obtain ⟨p', e2, hp'⟩ := m_goOver (vM := v) hw hr htr a1 (dgo h (dN h c s i) (dr s (i * h 3)))
      have e1 := m_goingBy (vM := v) hw hr htr a1 (fun t => own h (dN h c s i) t || dmp h (dr s (i * h 3)) t)
      have e1 : fX9_goingBy v r 9 tr (nI (bm (fun t => own h (dN h c s i) t || dmp h (dr s (i * h 3)) t) (h 3))) = some (nI (bm (dgo h (dN h c s i) (dr s (i * h 3))) (h 3))) := e1
      have hp' : ∀ j, j < 9 → p' j = nI (dN h c s (i + 1) j) := hp'
      have e3 : fX9_ones (nI (bm (dgo h (dN h c s i) (dr s (i * h 3))) (h 3))) = some (nI (cnt (dgo h (dN h c s i) (dr s (i * h 3))) (h 3))) := by
        rw [m_ones (Nat.lt_of_lt_of_le (bm_7 _ h3) (by decide)), popc_bm _ (by omega)]
      have es : dr s ((i + 1) * h 3) = dr (dr s (i * h 3)) (h 3) := by rw [← dr_add, Nat.succ_mul]
      have u27 : upd v 27 (v 27 + nI (cnt (dgo h (dN h c s i) (dr s (i * h 3))) (h 3))) 27 = nI (dmv h c s (i + 1)) := by
        show v 27 + _ = _
        rw [v27, nI_add]
        rfl
      have uo : ∀ x j, j ≠ 27 → j ≠ 28 → upd v 27 x j = vM j := fun x j q1 q2 => by unfold upd; rw [if_neg q1]; exact vo j q1 q2
      have uo2 : ∀ x y j, j ≠ 27 → j ≠ 28 → upd (upd v 27 x) 28 y j = vM j := fun x y j q1 q2 => by unfold upd; rw [if_neg q2, if_neg q1]; exact vo j q1 q2
      simp (disch := omega) only [fX9_dampWhy_B68, fX9_dampWhy_J192, nlit, ok_nI, gdT, nI_clamp, hr, nI_leI, e1, e2, e3, bdS, nI_add]
      rw [if_pos (Nat.le_refl _), es]
      cases o with
      | none =>
        rw [if_pos (show d4 none < nI 0 by decide), exS]
        exact ⟨_, rfl, p', _, rfl, hp', u27, by show v 28 = _; rw [v28, fnd_s]; cases fnd (dhit h c s none) i <;> rfl, uo _⟩
      | some tx =>
        obtain ⟨t, x⟩ := tx
        obtain ⟨ht, hx⟩ := ho t x rfl
        obtain ⟨b1, b2, b3⟩ := dNs hw hc hj h8 s (i + 1) (by omega)
        have hlt := okc_lt hw (b1.1 t ht)
        rw [if_neg (show ¬ d4 (some (t, x)) < nI 0 from by show ¬ nI t < nI 0; rw [nI_ltI (by omega) (by omega)]; omega), v28]
        show ∃ r, ex (if nI (orZero (fnd (dhit h c s (some (t, x))) i)) = nI 0 then gd (okI (nI t) 9) (if p' (nI t).toNatClampNeg = nI x then _ else _) else _) = _ ∧ _
        cases hf : fnd (dhit h c s (some (t, x))) i with
        | some u =>
          have hu := (fnd_some hf).1
          rw [if_neg (show ¬ nI (orZero (some u)) = nI 0 from by rw [nI_eq (by show u + 1 < _; omega) (by omega)]; show ¬ u + 1 = 0; omega), exS]
          exact ⟨_, rfl, p', _, rfl, hp', u27, by show v 28 = _; rw [v28, fnd_s, hf], uo _⟩
        | none =>
          rw [if_pos (show nI (orZero none) = nI 0 from rfl)]
          simp (disch := omega) only [ok_nI, gdT, nI_clamp, hp', nI_eq]
          by_cases hq : dN h c s (i + 1) t = x
          · rw [if_pos hq, exS]
            refine ⟨_, rfl, p', _, rfl, hp', u27, ?_, uo2 _ _⟩
            show nI (i + 1) = _
            rw [fnd_s, hf]
            show _ = nI (orZero (if (dN h c s (i + 1) t == x) = true then some i else none))
            rw [if_pos (by simpa using hq)]
            rfl
          · rw [if_neg hq, exS]
            refine ⟨_, rfl, p', _, rfl, hp', u27, ?_, uo _⟩
            show v 28 = _
            rw [v28, fnd_s, hf]
            show _ = nI (orZero (if (dN h c s (i + 1) t == x) = true then some i else none))
            rw [if_neg (by simpa using hq)]) 5000 0 (nI (dr s (i * h 3)), nI (bm (own h (dN h c s i)) (h 3)), nI 0) (Nat.zero_le _) (by
        show _ = (nI (dr s (i * h 3)), nI (bm (own h (dN h c s i)) (h 3) ||| 0), nI 0)
        rw [Nat.or_zero]) (by omega)
    obtain ⟨tr', v', rfl, q⟩ := hres
    rw [er]
    exact ⟨_, rfl, tr', v', rfl, q⟩
  · rintro z ⟨tr, v, rfl, q⟩
    simp (disch := omega) only [fX9_dampWhy_B49, nlit, nI_ltI, exS]
    rw [if_pos (by omega)]
    exact ⟨_, rfl, v, tr, rfl, q⟩
  · unfold upd; rw [if_neg h2, if_neg h1]
  · obtain ⟨e, vM', tr', hres, q⟩ := hres
    exact ⟨vM', tr', e.trans (congrArg some hres), q⟩
theorem MA_of {vM v v' : Nat → Int32} (h1 : MA vM v (nI 0)) (h2 : ∀ j, j ≠ 27 → j ≠ 28 → v' j = v j) : MA vM v' (nI 0) :=
  ⟨by rw [h2 11 (by omega) (by omega)]; exact h1.1, fun k a b d => by rw [h2 k (by omega) (by omega)]; exact h1.2 k a b d⟩
theorem M_damp (hx : MX h c vM r st) {t s k : Nat} (ht : t < h 3) (hs : s ≤ 65536) (hk : k ≤ 60) :
    ∃ vM' tr', fX9_damp vM r st trial (nI t) (nI s) (nI k) = some (dampA h c t s k, vM', tr') ∧ MA vM vM' (nI 0) := by
  obtain ⟨hw, hc, hj, h8, hr, hst, h14⟩ := hx
  have h3 := hw.2.2.2.2.2.1
  obtain ⟨v, ev, hma, hv⟩ := m_good vM
  have v14 : v 14 = nI 1 := by rw [hv 14 (by omega) (by omega)]; exact h14
  obtain ⟨vM', tr', e, htr, q27, q28, qo⟩ := m_dampWhy (vM := v) (trial := trial) hw hc hj h8 hr hst hs hk none (fun _ _ e => by cases e)
  obtain ⟨b1, b2, b3⟩ := dNs hw hc hj h8 s k (by omega)
  refine ⟨vM', tr', ?_, MA_of hma qo⟩
  unfold fX9_damp
  rw [ev, bdS, m_isThing_t hw hr v14 ht, bdS]
  have e : fX9_dampWhy v st trial r (nI 1) (nI s) (nI k) (-nI 1) (nI 0) = some (nI 0, vM', tr') := e
  simp (disch := omega) only [nlit, e, bdS, ok_nI, gdT, nI_clamp, htr, m_ten (okc_lt hw (b1.1 t ht)), ↓reduceIte]
  rfl
theorem M_dampSteps (hx : MX h c vM r st) {s k : Nat} (hs : s ≤ 65536) (hk : k ≤ 60) :
    ∃ vM' tr', fX9_dampSteps vM st trial r (nI s) (nI k) = some (dampStepsA h c s k, vM', tr') ∧ MA vM vM' (nI 0) := by
  obtain ⟨hw, hc, hj, h8, hr, hst, h14⟩ := hx
  obtain ⟨v, ev, hma, hv⟩ := m_good vM
  have v14 : v 14 = nI 1 := by rw [hv 14 (by omega) (by omega)]; exact h14
  obtain ⟨vM', tr', e, htr, q27, q28, qo⟩ := m_dampWhy (vM := v) (trial := trial) hw hc hj h8 hr hst hs hk none (fun _ _ e => by cases e)
  refine ⟨vM', tr', ?_, MA_of hma qo⟩
  unfold fX9_dampSteps
  have e : fX9_dampWhy v st trial r (nI 1) (nI s) (nI k) (-nI 1) (nI 0) = some (nI 0, vM', tr') := e
  rw [ev, bdS, v14]
  simp only [nlit, e, bdS, ↓reduceIte, fX9_dampSteps_J33, q27]
  rfl
theorem M_dampWhen (hx : MX h c vM r st) {t p s k : Nat} (ht : t < h 3) (hp : p < pl h (c t / 9)) (hs : s ≤ 65536) (hk : k ≤ 60) :
    ∃ vM' tr', fX9_dampWhen vM r st trial (nI t) (nI p) (nI s) (nI k) = some (dampWhenA h c t (9 * (c t / 9) + p) s k, vM', tr') ∧ MA vM vM' (nI 0) := by
  obtain ⟨hw, hc, hj, h8, hr, hst, h14⟩ := hx
  have h2 := hw.2.2.2.2.1
  have h3 := hw.2.2.2.2.2.1
  have hg := (hc.1 t ht).1
  have hp9 := (hw.2.2.2.2.2.2.2.2.2.1 (c t / 9) hg).2
  have hct := okc_lt hw (hc.1 t ht)
  obtain ⟨v, ev, hma, hv⟩ := m_good vM
  have v14 : v 14 = nI 1 := by rw [hv 14 (by omega) (by omega)]; exact h14
  obtain ⟨vM', tr', e, htr, q27, q28, qo⟩ := m_dampWhy (vM := v) (trial := trial) hw hc hj h8 hr hst hs hk (some (t, 9 * (c t / 9) + p)) (fun _ _ e => by cases e; exact ⟨ht, by omega⟩)
  refine ⟨vM', tr', ?_, MA_of hma qo⟩
  have e : fX9_dampWhy v st trial r (nI 1) (nI s) (nI k) (nI t) (nI (9 * (c t / 9) + p)) = some (nI 0, vM', tr') := e
  unfold fX9_dampWhen
  rw [ev, bdS, m_isThing_t hw hr v14 ht, bdS, if_neg (by rw [nlit, n10]; exact id)]
  simp (disch := omega) only [nlit, ok_nI, gdT, nI_clamp, hst, pk_div, m_isPlace_t hw hr v14 hg hp, bdS, n10, if_false, pk_mul, nI_add, e, ↓reduceIte, fX9_dampWhen_J78, q28]
  rfl
end DP
