/-! MATH 18: what goes on in a ring doesn't depend on what is held in another, nor on whether a broken thing is held -/
def agr (h c : Nat → Nat) (g : Nat) (d1 d2 : Nat → Nat) : Prop := (∀ t, t < h 3 → d1 t / 9 = c t / 9 ∧ d2 t / 9 = c t / 9) ∧ d1 8 = d2 8 ∧ ∀ t, t < h 3 → c t / 9 = g → d1 t = d2 t ∧ ((d1 7).testBit t = (d2 7).testBit t ∨ h (62 + 3 * t) = 2)
section RG
variable {h c d1 d2 : Nat → Nat} {g : Nat}
theorem fnd_congr {p q : Nat → Bool} {n : Nat} (e : ∀ v, v < n → p v = q v) : fnd p n = fnd q n := by
  induction n with
  | zero => rfl
  | succ n ih => rw [fnd, fnd, ih (fun v hv => e v (by omega)), e n (by omega)]
theorem agr_fr (hw : WFh h) (ha : agr h c g d1 d2) (ho : okRow h d1) {t : Nat} (ht : t < h 3) (hg : c t / 9 = g) : fr h d1 t = fr h d2 t := by
  obtain ⟨a1, a2, a3⟩ := ha
  have et := (a3 t ht hg).1
  unfold fr
  apply fnd_congr
  intro u hu
  have er : ah h (d1 t) / 9 = g := by rw [(ah_ok hw (ho.1 t ht)).2, (a1 t ht).1, hg]
  rw [← et]
  by_cases hug : c u / 9 = g
  · rw [(a3 u hu hug).1]
  · have b1 : ¬ d1 u = ah h (d1 t) := fun q => hug (by rw [← (a1 u hu).1, q, er])
    have b2 : ¬ d2 u = ah h (d1 t) := fun q => hug (by rw [← (a1 u hu).2, q, er])
    rw [show (d1 u == ah h (d1 t)) = false by simpa using b1, show (d2 u == ah h (d1 t)) = false by simpa using b2]
theorem agr_fr_ring (hw : WFh h) (ha : agr h c g d1 d2) (ho : okRow h d1) {t u : Nat} (ht : t < h 3) (hg : c t / 9 = g) (hu : fr h d1 t = some u) : c u / 9 = g := by
  obtain ⟨a1, a2, a3⟩ := ha
  obtain ⟨h1, h2⟩ := fr_lt hu
  rw [← (a1 u h1).1, h2, (ah_ok hw (ho.1 t ht)).2, (a1 t ht).1, hg]
theorem agr_own (ha : agr h c g d1 d2) {t : Nat} (ht : t < h 3) (hg : c t / 9 = g) : own h d1 t = own h d2 t := by
  obtain ⟨a1, a2, a3⟩ := ha
  obtain ⟨e1, e2⟩ := a3 t ht hg
  unfold own
  rw [e1, a2]
  rcases e2 with e2 | e2
  · rw [e2]
  · rw [e2]
    simp
theorem agr_come (ha : agr h c g d1 d2) {t : Nat} (ht : t < h 3) (hg : c t / 9 = g) : come h d1 t = come h d2 t := by
  obtain ⟨a1, a2, a3⟩ := ha
  unfold come
  rw [(a3 t ht hg).1, a2]
theorem agr_clo (hw : WFh h) (ha : agr h c g d1 d2) (ho : okRow h d1) : ∀ k t, t < h 3 → c t / 9 = g → clo (fr h d1) (own h d1) k t = clo (fr h d2) (own h d2) k t := by
  intro k
  induction k with
  | zero => intro t ht hg; exact agr_own ha ht hg
  | succ k ih =>
    intro t ht hg
    rw [clo, clo, ih t ht hg, ← agr_fr hw ha ho ht hg]
    cases hu : fr h d1 t with
    | none => rfl
    | some u =>
      show (_ || clo (fr h d1) (own h d1) k u) = (_ || clo (fr h d2) (own h d2) k u)
      rw [ih u (fr_lt hu).1 (agr_fr_ring hw ha ho ht hg hu)]
theorem agr_going (hw : WFh h) (ha : agr h c g d1 d2) (ho : okRow h d1) {t : Nat} (ht : t < h 3) (hg : c t / 9 = g) : going h d1 t = going h d2 t := by
  unfold going goSet
  rw [agr_clo hw ha ho 128 t ht hg, agr_come ha ht hg]
theorem agr_step (hw : WFh h) (ha : agr h c g d1 d2) (o1 : okRow h d1) (o2 : okRow h d2) : agr h c g (stepN h d1) (stepN h d2) := by
  have h3 := hw.2.2.2.2.2.1
  have ha0 := ha
  obtain ⟨a1, a2, a3⟩ := ha
  refine ⟨fun t ht => ⟨?_, ?_⟩, ?_, fun t ht hg => ⟨?_, ?_⟩⟩
  · show nightRow h d1 _ t / 9 = _
    rw [nr_ring hw o1.1 ht]; exact (a1 t ht).1
  · show nightRow h d2 _ t / 9 = _
    rw [nr_ring hw o2.1 ht]; exact (a1 t ht).2
  · show nightRow h d1 _ 8 = nightRow h d2 _ 8
    rw [nr_8 h3, nr_8 h3, a2]
  · show nightRow h d1 _ t = nightRow h d2 _ t
    rw [nr_in ht, nr_in ht, agr_going hw ha0 o1 ht hg, (a3 t ht hg).1]
  · show ((nightRow h d1 _ 7).testBit t = (nightRow h d2 _ 7).testBit t) ∨ _
    rw [nr_7 h3, nr_7 h3]
    exact (a3 t ht hg).2
theorem agr_nights (hw : WFh h) (ha : agr h c g d1 d2) (o1 : okRow h d1) (o2 : okRow h d2) (j1 : injC h d1) (j2 : injC h d2) (e1 : d1 8 ≤ 1000) (e2 : d2 8 ≤ 1000) : ∀ k, k ≤ 1000 → agr h c g (nights h d1 k) (nights h d2 k) := by
  intro k
  induction k with
  | zero => intro _; exact ha
  | succ k ih => intro hk; exact agr_step hw (ih (by omega)) (nts hw o1 j1 e1 k (by omega)).1 (nts hw o2 j2 e2 k (by omega)).1
/-- things that could go, in a ring: neither held nor broken -/
def freeb (h c : Nat → Nat) (g t : Nat) : Bool := c t / 9 == g && !(c 7).testBit t && h (62 + 3 * t) != 2
theorem agr_held (hn : h 3 ≤ 7) {S1 S2 : Nat} (e : ∀ t, t < h 3 → freeb h c g t = true → S1.testBit t = S2.testBit t) : agr h c g (held c S1) (held c S2) := by
  refine ⟨fun t ht => ⟨by rw [held_in hn ht], by rw [held_in hn ht]⟩, rfl, fun t ht hg => ⟨by rw [held_in hn ht, held_in hn ht], ?_⟩⟩
  have e1 : ∀ S, held c S 7 = c 7 ||| S := fun S => by unfold held; rw [if_pos rfl]
  rw [e1, e1, Nat.testBit_or, Nat.testBit_or]
  by_cases hb : h (62 + 3 * t) = 2
  · exact Or.inr hb
  · left
    cases hh : (c 7).testBit t with
    | true => rfl
    | false =>
      rw [e t ht (by unfold freeb; simp [hg, hh, hb])]
end RG
