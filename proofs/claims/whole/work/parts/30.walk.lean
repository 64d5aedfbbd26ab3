/-! MATH 10: many nights -/
def popc (a : Nat) : Nat := cnt (fun t => a.testBit t) 8
theorem cnt_ext {p q : Nat → Bool} {n : Nat} (h : ∀ t, t < n → p t = q t) : cnt p n = cnt q n := by
  induction n with
  | zero => rfl
  | succ n ih => rw [cnt, cnt, ih (fun t ht => h t (by omega)), h n (by omega)]
theorem cnt_cut (g : Nat → Bool) (n k : Nat) : cnt (fun t => decide (t < n) && g t) (n + k) = cnt g n := by
  induction k with
  | zero => exact cnt_ext fun t ht => by simp [show t < n from ht]
  | succ k ih =>
    rw [← Nat.add_assoc, cnt, ih]
    simp
    intro hlt
    exact absurd hlt (by omega)
theorem popc_bm (g : Nat → Bool) {n : Nat} (hn : n ≤ 8) : popc (bm g n) = cnt g n := by
  unfold popc
  rw [cnt_ext (q := fun t => decide (t < n) && g t) (fun t _ => bm_bit g n t)]
  have := cnt_cut g n (8 - n)
  rwa [show n + (8 - n) = 8 by omega] at this
theorem popc_le (a : Nat) : popc a ≤ 8 := cnt_le _ _
theorem bc_nI : ∀ a, a < 128 → fJ6_bitCount_0f7a4 (nI a) = some (nI (popc a)) := by decide +kernel
theorem m_ones {a : Nat} (ha : a < 2 ^ 31) : fX9_ones (nI a) = some (nI (popc a)) := by
  unfold fX9_ones
  refine lp_for (fun i => (nI (cnt (fun t => a.testBit t) i), nI i)) 8 ?_ ?_ (by omega) rfl
  · intro i hi
    simp (disch := omega) only [fX9_ones_B4, nlit, nI_leI, bit_nI, nI_add]
    rw [if_neg (by omega)]
    rfl
  · simp (disch := omega) only [fX9_ones_B4, nlit, nI_leI, exS]
    rw [if_pos (Nat.le_refl _)]
    rfl
/-- how often things go in k nights -/
def moves (h c : Nat → Nat) : Nat → Nat
  | 0 => 0
  | k + 1 => moves h c k + cnt (going h (nights h c k)) (h 3)
theorem moves_le (h c : Nat → Nat) (hn : h 3 ≤ 7) (k : Nat) : moves h c k ≤ 7 * k := by
  induction k with
  | zero => exact Nat.le_refl _
  | succ k ih => rw [moves]; have := cnt_le (going h (nights h c k)) (h 3); omega
theorem nts {h c : Nat → Nat} (hw : WFh h) (hc : okRow h c) (hj : injC h c) (h8 : c 8 ≤ 1000) : ∀ k, k ≤ 1000 → okRow h (nights h c k) ∧ injC h (nights h c k) ∧ nights h c k 8 = c 8 + k ∧ nights h c k 7 = c 7 := by
  intro k
  have h3 := hw.2.2.2.2.2.1
  induction k with
  | zero => intro _; exact ⟨hc, hj, rfl, rfl⟩
  | succ k ih =>
    intro hk
    obtain ⟨a1, a2, a3, a4⟩ := ih (by omega)
    refine ⟨nr_ok hw a1 (by omega), nr_inj hw a1 a2 _, ?_, ?_⟩
    · show nightRow h _ _ 8 = _
      rw [nr_8 h3, a3]; omega
    · show nightRow h _ _ 7 = _
      rw [nr_7 h3, a4]
theorem nts_ring {h c : Nat → Nat} (hw : WFh h) (hc : okRow h c) (hj : injC h c) (h8 : c 8 ≤ 1000) {t : Nat} (ht : t < h 3) : ∀ k, k ≤ 1000 → nights h c k t / 9 = c t / 9 := by
  intro k
  induction k with
  | zero => intro _; rfl
  | succ k ih =>
    intro hk
    show nightRow h _ _ t / 9 = _
    rw [nr_ring hw (nts hw hc hj h8 k (by omega)).1.1 ht]
    exact ih (by omega)
section WK
variable {h c : Nat → Nat} {vH nx wd sz kd srt vW cl who fro vM r p : Nat → Int32} {x0 : Option Nat}
theorem c_pass0 (hw : WFh h) (hh : HC h vH nx wd sz kd srt x0) (hc : okRow h c) (hj : injC h c) (hwr : WR h c vW cl who x0) :
    ∃ vW' cl' who' fro', fX6_pass vW vH cl nx who fro sz wd kd (nI 0) = some (vW', cl', who', fro') ∧ WR h (stepN h c) vW' cl' who' x0 ∧ vW' 12 = nI (bm (going h c) (h 3)) ∧ vW' 11 = nI (bm (stK h c (fun _ => false)) (h 3)) ∧ vW' 10 = vW 10 := by
  obtain ⟨vW', cl', who', fro', e, q⟩ := c_pass (fro := fro) hw hh hc hj hwr (fun _ => false)
  rw [bm_0 (fun _ _ => rfl)] at e
  have hg : goSet h c (fun t => own h c t || false) = going h c := by
    unfold going
    congr 1
    funext t
    exact Bool.or_false _
  rw [hg] at q
  exact ⟨vW', cl', who', fro', e, q⟩
theorem c_goOn (hw : WFh h) (hh : HC h vH nx wd sz kd srt x0) (hc : okRow h c) (hj : injC h c) (h8 : c 8 ≤ 1000) (hwr : WR h c vW cl who x0) {k : Nat} (hk : k ≤ 1000) :
    ∃ vW' cl' who' fro', fX6_goOn vW vH cl nx who fro sz wd kd (nI k) = some (nI (moves h c k), vW', cl', who', fro') ∧ WR h (nights h c k) vW' cl' who' x0 := by
  have h3 := hw.2.2.2.2.2.1
  unfold fX6_goOn
  refine Exists.elim (lp_inv (f := fX6_goOn_B4 vH nx sz wd kd (nI k)) (fun i s => ∃ cl' fro' who' vW', s = (nI (moves h c i), nI i, cl', fro', who', vW') ∧ WR h (nights h c i) vW' cl' who' x0)
    (fun r => ∃ vW' cl' who' fro', r = (nI (moves h c k), vW', cl', who', fro') ∧ WR h (nights h c k) vW' cl' who' x0) k ?_ ?_ 5000 0 (nI 0, nI 0, cl, fro, who, vW) (Nat.zero_le _) ⟨cl, fro, who, vW, rfl, hwr⟩ (by omega)) (fun r hr => ?_)
  · rintro i s hi ⟨cl', fro', who', vW', rfl, q⟩
    left
    obtain ⟨a1, a2, a3, a4⟩ := nts hw hc hj h8 i (by omega)
    obtain ⟨vW2, cl2, who2, fro2, e, q1, q2, -, -⟩ := c_pass0 (fro := fro') hw hh a1 a2 q
    simp (disch := omega) only [fX6_goOn_B4, nlit, nI_leI]
    rw [if_neg (by omega), e, bdS]
    simp only
    rw [q2, bc_nI _ (bm_7 _ h3), bdS, popc_bm _ (by omega)]
    simp only [nlit, nI_add]
    exact ⟨_, rfl, cl2, fro2, who2, vW2, rfl, q1⟩
  · rintro s ⟨cl', fro', who', vW', rfl, q⟩
    simp (disch := omega) only [fX6_goOn_B4, nlit, nI_leI, exS]
    rw [if_pos (Nat.le_refl _)]
    exact ⟨_, rfl, vW', cl', who', fro', rfl, q⟩
  · obtain ⟨e, vW', cl', who', fro', hr, q⟩ := hr
    exact ⟨vW', cl', who', fro', e.trans (by rw [hr]), q⟩
theorem c_wcell (hn : h 3 ≤ 7) (hwr : WR h c vW cl who x0) {t : Nat} (ht : t < h 3) : fX6_cellOf vW cl (nI t) = some (nI (c t)) := by
  have hk := hwr.1 t ht
  simp (disch := omega) only [fX6_cellOf, fX6_cellOf_J20, nlit, nI_ltI, nI_leI, ok_nI, gdT, nI_clamp, hk]
  rw [if_neg (by omega), if_neg (by omega)]
def ten (x : Nat) : Nat := 10 * (x / 9) + x % 9
theorem c_ten {x : Nat} (hx : x < 36) : fX8_tenfold (nI x) = some (nI (ten x)) := by
  simp (disch := omega) only [fX8_tenfold, fX8_ringOfCell, fX8_placeOfCell, nlit, pk_div, irm_nI, bdS, pk_mul, nI_add]
  rfl
theorem m_ten {x : Nat} (hx : x < 36) : fX9_coded (nI x) = some (nI (ten x)) := by
  simp (disch := omega) only [fX9_coded, nlit, pk_div, irm_nI, pk_mul, nI_add]
  rfl
/-- is there a door between two places -/
def doorb (h : Nat → Nat) (x y : Nat) : Bool := (fnd (fun d => (h (52 + 2 * d) == x && h (52 + 2 * d + 1) == y) || (h (52 + 2 * d) == y && h (52 + 2 * d + 1) == x)) (h 5)).isSome
theorem m_areDoored (hw : WFh h) (hr : ∀ k, k < 224 → r k = nI (h k)) {x y : Nat} (hx : x < 36) (hy : y < 36) : fX9_areDoored vM r (nI x) (nI y) = some (nI (if doorb h x y then 1 else 0)) := by
  obtain ⟨hb, -, -, -, -, -, h5, -⟩ := hw
  have key : ∀ i, i < h 5 → fX9_areDoored_B2 r (nI x) (nI y) (nI i) = if ((h (52 + 2 * i) == x && h (52 + 2 * i + 1) == y) || (h (52 + 2 * i) == y && h (52 + 2 * i + 1) == x)) then some (.inl (nI 1)) else some (.inr (nI (i + 1))) := by
    intro i hi
    have b1 : h (52 + 2 * i) < 1000 := hb _ (by omega)
    have b2 : h (52 + 2 * i + 1) < 1000 := hb _ (by omega)
    simp (disch := omega) only [fX9_areDoored_B2, fX9_areDoored_J44, fX9_areDoored_J76, fX9_areDoored_J78, nlit, ok_nI, gdT, nI_clamp, hr, nI_leI, pk_mul, nI_add, nI_eq, exS]
    rw [if_neg (by omega)]
    by_cases e1 : h (52 + 2 * i) = x <;> by_cases e2 : h (52 + 2 * i + 1) = y <;> by_cases e3 : h (52 + 2 * i) = y <;> by_cases e4 : h (52 + 2 * i + 1) = x <;> simp [e1, e2, e3, e4]
  have hend : fX9_areDoored_B2 r (nI x) (nI y) (nI (h 5)) = some (.inl (nI 0)) := by
    simp (disch := omega) only [fX9_areDoored_B2, nlit, ok_nI, gdT, nI_clamp, hr, nI_leI, exS]
    rw [if_pos (Nat.le_refl _)]
  unfold fX9_areDoored doorb
  cases hf : fnd (fun d => (h (52 + 2 * d) == x && h (52 + 2 * d + 1) == y) || (h (52 + 2 * d) == y && h (52 + 2 * d + 1) == x)) (h 5) with
  | none =>
    have hno := fnd_none hf
    exact lp_for (fun i => nI i) (h 5) (fun i hi => by rw [key i hi, hno i hi]; rfl) hend (by omega) rfl
  | some u =>
    obtain ⟨h1, h2, h3'⟩ := fnd_some hf
    exact lp_for (fun i => nI i) u (fun i hi => by rw [key i (by omega), h3' i hi]; rfl) (by rw [key u h1, h2]; rfl) (by omega) rfl
theorem c_hasDoor {d1 d2 : Nat → Int32} (hw : WFh h) (h4 : vH 4 = nI (h 5)) (hd : ∀ d, d < h 5 → d1 d = nI (h (52 + 2 * d)) ∧ d2 d = nI (h (52 + 2 * d + 1))) {x y : Nat} (hx : x < 36) (hy : y < 36) : fX4_hasDoor vH d1 d2 (nI x) (nI y) = some (nI (if doorb h x y then 1 else 0)) := by
  obtain ⟨hb, -, -, -, -, -, h5, -⟩ := hw
  have key : ∀ i, i < h 5 → fX4_hasDoor_B2 vH d1 d2 (nI x) (nI y) (nI i) = if ((h (52 + 2 * i) == x && h (52 + 2 * i + 1) == y) || (h (52 + 2 * i) == y && h (52 + 2 * i + 1) == x)) then some (.inl (nI 1)) else some (.inr (nI (i + 1))) := by
    intro i hi
    have b1 : h (52 + 2 * i) < 1000 := hb _ (by omega)
    have b2 : h (52 + 2 * i + 1) < 1000 := hb _ (by omega)
    obtain ⟨g1, g2⟩ := hd i hi
    simp (disch := omega) only [fX4_hasDoor_B2, fX4_hasDoor_J39, fX4_hasDoor_J40, fX4_hasDoor_J66, fX4_hasDoor_J67, fX4_hasDoor_J79, nlit, h4, ok_nI, gdT, nI_clamp, g1, g2, nI_leI, nI_add, nI_eq, exS]
    rw [if_neg (by omega), if_neg (by omega)]
    by_cases e1 : h (52 + 2 * i) = x <;> by_cases e2 : h (52 + 2 * i + 1) = y <;> by_cases e3 : h (52 + 2 * i) = y <;> by_cases e4 : h (52 + 2 * i + 1) = x <;> simp [e1, e2, e3, e4]
  have hend : fX4_hasDoor_B2 vH d1 d2 (nI x) (nI y) (nI (h 5)) = some (.inl (nI 0)) := by
    simp (disch := omega) only [fX4_hasDoor_B2, fX4_hasDoor_J87, nlit, h4, nI_leI, exS]
    rw [if_pos (Nat.le_refl _)]
  unfold fX4_hasDoor doorb
  cases hf : fnd (fun d => (h (52 + 2 * d) == x && h (52 + 2 * d + 1) == y) || (h (52 + 2 * d) == y && h (52 + 2 * d + 1) == x)) (h 5) with
  | none =>
    have hno := fnd_none hf
    exact lp_for (fun i => nI i) (h 5) (fun i hi => by rw [key i hi, hno i hi]; rfl) hend (by omega) rfl
  | some u =>
    obtain ⟨h1, h2, h3'⟩ := fnd_some hf
    exact lp_for (fun i => nI i) u (fun i hi => by rw [key i (by omega), h3' i hi]; rfl) (by rw [key u h1, h2]; rfl) (by omega) rfl
end WK
