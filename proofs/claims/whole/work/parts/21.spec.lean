/-! MATH 2: what a house is, how a night goes (h: the house's numbers, as the reference lays them; c: the things' places, the held ones (7), the night (8)) -/
def so (h : Nat → Nat) (g : Nat) : Nat := h (8 + 2 * g)
def pl (h : Nat → Nat) (g : Nat) : Nat := h (8 + 2 * g + 1)
/-- the first that fits -/
def fnd (q : Nat → Bool) : Nat → Option Nat
  | 0 => none
  | n + 1 => match fnd q n with
    | some u => some u
    | none => if q n then some n else none
theorem fnd_none {q : Nat → Bool} {n : Nat} (h : fnd q n = none) : ∀ v, v < n → q v = false := by
  induction n with
  | zero => intro v hv; omega
  | succ n ih =>
    rw [fnd] at h
    cases hf : fnd q n with
    | some u => rw [hf] at h; cases h
    | none =>
      rw [hf] at h
      intro v hv
      by_cases hq : q n
      · simp [hq] at h
      · rcases Nat.lt_or_ge v n with h1 | h1
        · exact ih hf v h1
        · obtain rfl : v = n := by omega
          simpa using hq
theorem fnd_some {q : Nat → Bool} {n u : Nat} (h : fnd q n = some u) : u < n ∧ q u = true ∧ ∀ v, v < u → q v = false := by
  induction n with
  | zero => cases h
  | succ n ih =>
    rw [fnd] at h
    cases hf : fnd q n with
    | some u' =>
      rw [hf] at h
      cases h
      obtain ⟨h1, h2, h3⟩ := ih hf
      exact ⟨by omega, h2, h3⟩
    | none =>
      rw [hf] at h
      by_cases hq : q n
      · simp [hq] at h
        subst h
        exact ⟨by omega, hq, fnd_none hf⟩
      · simp [hq] at h
theorem fnd_eq {q : Nat → Bool} {n u : Nat} (h1 : u < n) (h2 : q u = true) (h3 : ∀ v, v < u → q v = false) : fnd q n = some u := by
  cases hf : fnd q n with
  | none => have := fnd_none hf u h1; rw [h2] at this; cases this
  | some w =>
    obtain ⟨g1, g2, g3⟩ := fnd_some hf
    rcases Nat.lt_trichotomy u w with h | h | h
    · have := g3 u h; rw [h2] at this; cases this
    · rw [h]
    · have := h3 w h; rw [g2] at this; cases this
theorem fnd_no {q : Nat → Bool} {n : Nat} (h : ∀ v, v < n → q v = false) : fnd q n = none := by
  cases hf : fnd q n with
  | none => rfl
  | some w => obtain ⟨g1, g2, -⟩ := fnd_some hf; have := h w g1; rw [g2] at this; cases this
/-- the place ahead -/
def ah (h : Nat → Nat) (x : Nat) : Nat := 9 * (x / 9) + (if so h (x / 9) = 2 then (x % 9 + pl h (x / 9) - 1) % pl h (x / 9) else (x % 9 + 1) % pl h (x / 9))
def okc (h : Nat → Nat) (x : Nat) : Prop := x / 9 < h 2 ∧ x % 9 < pl h (x / 9)
/-- bounds of a house -/
def WFh (h : Nat → Nat) : Prop := (∀ k, k < 224 → h k < 1000) ∧ 1 ≤ h 0 ∧ h 0 ≤ 5 ∧ h 1 ≤ 100 ∧ h 2 ≤ 4 ∧ h 3 ≤ 7 ∧ h 5 ≤ 5 ∧ h 6 ≤ 6 ∧ h 7 ≤ 6 ∧ (∀ g, g < h 2 → 2 ≤ pl h g ∧ pl h g ≤ 9) ∧ ∀ t, t < h 3 → h (62 + 3 * t + 2) ≤ 9
def okRow (h c : Nat → Nat) : Prop := (∀ t, t < h 3 → okc h (c t)) ∧ c 7 < 2 ^ h 3 ∧ c 8 < 100000
def own (h c : Nat → Nat) (t : Nat) : Bool := (c 7).testBit t || h (62 + 3 * t) == 2 || (h (62 + 3 * t) == 1 && (c 8 + 1) % 9 != 0) || (h (62 + 3 * t) != 3 && decide (0 < h (16 + ah h (c t))) && decide (h (16 + ah h (c t)) - 1 < h (62 + 3 * t + 2)))
def come (h c : Nat → Nat) (t : Nat) : Bool := so h (c t / 9) != 1 || (c 8 + 1) % h 0 == 0
/-- the thing in front -/
def fr (h c : Nat → Nat) (t : Nat) : Option Nat := fnd (fun u => c u == ah h (c t)) (h 3)
/-- those that stay, and those behind them, k deep -/
def clo (f : Nat → Option Nat) (X : Nat → Bool) : Nat → Nat → Bool
  | 0, t => X t
  | k + 1, t => clo f X k t || (match f t with
    | none => false
    | some u => clo f X k u)
def goSet (h c : Nat → Nat) (X : Nat → Bool) (t : Nat) : Bool := !(clo (fr h c) X 128 t) && come h c t
def nightRow (h c : Nat → Nat) (g : Nat → Bool) : Nat → Nat := fun k => if k < h 3 then (if g k then ah h (c k) else c k) else if k = 8 then c 8 + 1 else c k
def going (h c : Nat → Nat) : Nat → Bool := goSet h c (own h c)
def stepN (h c : Nat → Nat) : Nat → Nat := nightRow h c (going h c)
def nights (h c : Nat → Nat) : Nat → Nat → Nat
  | 0 => c
  | k + 1 => stepN h (nights h c k)
theorem okc_lt {h : Nat → Nat} {x : Nat} (hw : WFh h) (hx : okc h x) : x < 36 := by
  obtain ⟨-, -, -, -, h2, -, -, -, -, hp, -⟩ := hw
  obtain ⟨h3, h4⟩ := hx
  omega
theorem ah_ok {h : Nat → Nat} {x : Nat} (hw : WFh h) (hx : okc h x) : okc h (ah h x) ∧ ah h x / 9 = x / 9 := by
  obtain ⟨-, -, -, -, h2, -, -, -, -, hp, -⟩ := hw
  obtain ⟨h3, h4⟩ := hx
  obtain ⟨p1, p2⟩ := hp _ h3
  have key : ∀ y, y < pl h (x / 9) → okc h (9 * (x / 9) + y) ∧ (9 * (x / 9) + y) / 9 = x / 9 := by
    intro y hy
    have e1 : (9 * (x / 9) + y) / 9 = x / 9 := by omega
    have e2 : (9 * (x / 9) + y) % 9 = y := by omega
    exact ⟨⟨by rw [e1]; exact h3, by rw [e1, e2]; exact hy⟩, e1⟩
  unfold ah
  split
  · exact key _ (Nat.mod_lt _ (by omega))
  · exact key _ (Nat.mod_lt _ (by omega))
theorem clo_mono {f : Nat → Option Nat} {X : Nat → Bool} {t : Nat} : ∀ {j k : Nat}, j ≤ k → clo f X j t = true → clo f X k t = true := by
  intro j k hjk
  induction hjk with
  | refl => exact id
  | step _ ih => intro h; rw [clo, ih h]; rfl
/-- once nothing comes, nothing comes any more -/
theorem clo_stop {f : Nat → Option Nat} {X : Nat → Bool} {n j : Nat} (hf : ∀ t u, t < n → f t = some u → u < n) (h : ∀ t, t < n → clo f X (j + 1) t = clo f X j t) : ∀ k t, j ≤ k → t < n → clo f X k t = clo f X j t := by
  intro k
  induction k with
  | zero => intro t hk ht; obtain rfl : j = 0 := by omega
            rfl
  | succ k ih =>
    intro t hk ht
    rcases Nat.lt_or_ge k j with h1 | h1
    · obtain rfl : j = k + 1 := by omega
      rfl
    · have e := h t ht
      rw [clo] at e
      rw [clo, ih t h1 ht]
      cases hu : f t with
      | none => rw [hu] at e; exact e
      | some u =>
        rw [hu] at e
        show (clo f X j t || clo f X k u) = clo f X j t
        rw [ih u h1 (hf t u ht hu)]
        exact e
