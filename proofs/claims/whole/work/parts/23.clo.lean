/-! MATH 4: sets of things, closed ones, counting -/
def cnt (p : Nat → Bool) : Nat → Nat
  | 0 => 0
  | n + 1 => cnt p n + (if p n then 1 else 0)
theorem cnt_le (p : Nat → Bool) (n : Nat) : cnt p n ≤ n := by
  induction n with
  | zero => exact Nat.le_refl _
  | succ n ih => rw [cnt]; split <;> omega
theorem cnt_mono {p q : Nat → Bool} {n : Nat} (h : ∀ t, t < n → p t = true → q t = true) : cnt p n ≤ cnt q n := by
  induction n with
  | zero => exact Nat.le_refl _
  | succ n ih =>
    have h1 := ih (fun t ht => h t (by omega))
    rw [cnt, cnt]
    by_cases hp : p n = true
    · rw [if_pos hp, if_pos (h n (by omega) hp)]; omega
    · rw [if_neg hp]; split <;> omega
theorem cnt_lt {p q : Nat → Bool} {n : Nat} (h : ∀ t, t < n → p t = true → q t = true) {u : Nat} (hu : u < n) (hp : p u = false) (hq : q u = true) : cnt p n < cnt q n := by
  induction n with
  | zero => omega
  | succ n ih =>
    rw [cnt, cnt]
    rcases Nat.lt_or_ge u n with h1 | h1
    · have h2 := ih (fun t ht => h t (by omega)) h1
      by_cases hp' : p n = true
      · rw [if_pos hp', if_pos (h n (by omega) hp')]; omega
      · rw [if_neg hp']; split <;> omega
    · obtain rfl : u = n := by omega
      have h2 := cnt_mono (fun t (ht : t < u) => h t (by omega))
      rw [hq, hp]
      simp only [if_true]
      have : (if (false = true) then 1 else 0) = 0 := rfl
      omega
theorem cnt_pos {p : Nat → Bool} {n u : Nat} (hu : u < n) (hp : p u = true) : 1 ≤ cnt p n := by
  have := cnt_lt (p := fun _ => false) (q := p) (n := n) (fun t _ h => by cases h) hu rfl hp
  omega
/-- what contains X and is closed contains all that is behind X -/
theorem clo_in {f : Nat → Option Nat} {X A : Nat → Bool} {n : Nat} (hf : ∀ t u, t < n → f t = some u → u < n) (h1 : ∀ t, t < n → X t = true → A t = true) (h2 : ∀ t u, t < n → f t = some u → A u = true → A t = true) : ∀ k t, t < n → clo f X k t = true → A t = true := by
  intro k
  induction k with
  | zero => intro t ht h; exact h1 t ht h
  | succ k ih =>
    intro t ht h
    rw [clo] at h
    cases hu : f t with
    | none => rw [hu] at h; simp only [Bool.or_false] at h; exact ih t ht h
    | some u =>
      rw [hu] at h
      rcases (Bool.or_eq_true _ _).mp h with h | h
      · exact ih t ht h
      · exact h2 t u ht hu (ih u (hf t u ht hu) h)
theorem clo_X {f : Nat → Option Nat} {X : Nat → Bool} {t : Nat} (k : Nat) (h : X t = true) : clo f X k t = true := clo_mono (Nat.zero_le k) h
/-- at a bound that is larger than the number of things, what is behind is closed -/
theorem clo_closed {f : Nat → Option Nat} {X : Nat → Bool} {n : Nat} (hf : ∀ t u, t < n → f t = some u → u < n) {K : Nat} (hK : n < K) : ∀ t u, t < n → f t = some u → clo f X K u = true → clo f X K t = true := by
  -- some step below K brings nothing new
  have hex : ∃ j, j < K ∧ ∀ t, t < n → clo f X (j + 1) t = clo f X j t := by
    have : ∀ j, (∀ i, i < j → ¬ ∀ t, t < n → clo f X (i + 1) t = clo f X i t) → j ≤ cnt (clo f X j) n := by
      intro j
      induction j with
      | zero => intro _; exact Nat.zero_le _
      | succ j ih =>
        intro hj
        have h1 := ih (fun i hi => hj i (by omega))
        have h2 := hj j (by omega)
        have : ∃ u, u < n ∧ clo f X j u = false ∧ clo f X (j + 1) u = true := by
          apply Classical.byContradiction
          intro hno
          apply h2
          intro t ht
          cases e1 : clo f X (j + 1) t with
          | false =>
            cases e2 : clo f X j t with
            | false => rfl
            | true => rw [clo_mono (Nat.le_succ j) e2] at e1; cases e1
          | true =>
            cases e2 : clo f X j t with
            | true => rfl
            | false => exact absurd ⟨t, ht, e2, e1⟩ hno
        obtain ⟨u, hu, e1, e2⟩ := this
        have := cnt_lt (p := clo f X j) (q := clo f X (j + 1)) (n := n) (fun t _ h => clo_mono (Nat.le_succ j) h) hu e1 e2
        omega
    apply Classical.byContradiction
    intro hno
    have h1 := this K (fun i hi hall => hno ⟨i, hi, hall⟩)
    have h2 := cnt_le (clo f X K) n
    omega
  obtain ⟨j, hj, hst⟩ := hex
  have stop := clo_stop hf hst
  intro t u ht hu h
  rw [stop K u (by omega) (hf t u ht hu)] at h
  rw [stop K t (by omega) ht, ← hst t ht, clo, hu]
  show (clo f X j t || clo f X j u) = true
  rw [h, Bool.or_true]
theorem clo_eq {f : Nat → Option Nat} {X A : Nat → Bool} {n : Nat} (hf : ∀ t u, t < n → f t = some u → u < n) {K : Nat} (h1 : ∀ t, t < n → X t = true → A t = true) (h2 : ∀ t u, t < n → f t = some u → A u = true → A t = true) (h3 : ∀ t, t < n → A t = true → clo f X K t = true) : ∀ t, t < n → A t = clo f X K t := by
  intro t ht
  cases e : clo f X K t with
  | true => exact clo_in hf h1 h2 K t ht e
  | false =>
    cases e2 : A t with
    | false => rfl
    | true => rw [h3 t ht e2] at e; cases e
theorem fr_lt {h c : Nat → Nat} {t u : Nat} (hu : fr h c t = some u) : u < h 3 ∧ c u = ah h (c t) := by
  obtain ⟨h1, h2, -⟩ := fnd_some hu
  exact ⟨h1, by simpa using h2⟩
theorem come_fr {h c : Nat → Nat} (hw : WFh h) {t u : Nat} (hc : okc h (c t)) (hu : fr h c t = some u) : come h c u = come h c t := by
  obtain ⟨-, h2⟩ := fr_lt hu
  unfold come
  rw [h2, (ah_ok hw hc).2]
theorem clo_come {h c : Nat → Nat} (hw : WFh h) (hc : ∀ t, t < h 3 → okc h (c t)) {X : Nat → Bool} : ∀ k t, t < h 3 → clo (fr h c) (fun t => X t || !come h c t) k t = (clo (fr h c) X k t || !come h c t) := by
  intro k
  induction k with
  | zero => intro t ht; rfl
  | succ k ih =>
    intro t ht
    rw [clo, clo, ih t ht]
    cases hu : fr h c t with
    | none => simp
    | some u =>
      show ((clo (fr h c) X k t || !come h c t) || clo (fr h c) (fun t => X t || !come h c t) k u) = ((clo (fr h c) X k t || clo (fr h c) X k u) || !come h c t)
      rw [ih u (fr_lt hu).1, come_fr hw (hc t ht) hu]
      cases clo (fr h c) X k t <;> cases clo (fr h c) X k u <;> cases come h c t <;> rfl
