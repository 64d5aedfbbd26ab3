/-! MATH 8: a night keeps the things apart; the class's night is that night -/
def injC (h c : Nat → Nat) : Prop := ∀ t u, t < h 3 → u < h 3 → c t = c u → t = u
theorem rot_inj {p a b : Nat} (ha : a < p) (hb : b < p) (e : (a + 1) % p = (b + 1) % p) : a = b := by
  rcases Nat.lt_or_ge (a + 1) p with h1 | h1
  · rcases Nat.lt_or_ge (b + 1) p with h2 | h2
    · rw [Nat.mod_eq_of_lt h1, Nat.mod_eq_of_lt h2] at e; omega
    · have : b + 1 = p := by omega
      rw [this, Nat.mod_self, Nat.mod_eq_of_lt h1] at e; omega
  · have h3 : a + 1 = p := by omega
    rcases Nat.lt_or_ge (b + 1) p with h2 | h2
    · rw [h3, Nat.mod_self, Nat.mod_eq_of_lt h2] at e; omega
    · omega
theorem rot_inj2 {p a b : Nat} (ha : a < p) (hb : b < p) (e : (a + p - 1) % p = (b + p - 1) % p) : a = b := by
  have m : ∀ x, x < p → (x + p - 1) % p = if x = 0 then p - 1 else x - 1 := by
    intro x hx
    by_cases h0 : x = 0
    · subst h0
      rw [if_pos rfl, Nat.zero_add, Nat.mod_eq_of_lt (by omega)]
    · rw [if_neg h0, show x + p - 1 = (x - 1) + p by omega, Nat.add_mod_right, Nat.mod_eq_of_lt (by omega)]
  rw [m a ha, m b hb] at e
  split at e <;> split at e <;> omega
theorem ah_inj {h : Nat → Nat} {x y : Nat} (hw : WFh h) (hx : okc h x) (hy : okc h y) (e : ah h x = ah h y) : x = y := by
  have r1 := (ah_ok hw hx).2
  have r2 := (ah_ok hw hy).2
  have hr : x / 9 = y / 9 := by rw [← r1, ← r2, e]
  obtain ⟨-, -, -, -, h2, -, -, -, -, hp, -⟩ := hw
  obtain ⟨p1, p2⟩ := hp _ hx.1
  have e2 := e
  unfold ah at e2
  rw [← hr] at e2
  have hy2 : y % 9 < pl h (x / 9) := by rw [hr]; exact hy.2
  split at e2
  · have := rot_inj2 hx.2 hy2 (by omega)
    omega
  · have := rot_inj hx.2 hy2 (by omega)
    omega
section ST
variable {h c : Nat → Nat}
theorem nr_in {g : Nat → Bool} {t : Nat} (ht : t < h 3) : nightRow h c g t = if g t then ah h (c t) else c t := by
  unfold nightRow; rw [if_pos ht]
theorem nr_8 {g : Nat → Bool} (h3 : h 3 ≤ 7) : nightRow h c g 8 = c 8 + 1 := by
  unfold nightRow; rw [if_neg (by omega), if_pos rfl]
theorem nr_7 {g : Nat → Bool} (h3 : h 3 ≤ 7) : nightRow h c g 7 = c 7 := by
  unfold nightRow; rw [if_neg (by omega), if_neg (by omega)]
theorem nr_ring (hw : WFh h) (hc : ∀ t, t < h 3 → okc h (c t)) {g : Nat → Bool} {t : Nat} (ht : t < h 3) : nightRow h c g t / 9 = c t / 9 := by
  rw [nr_in ht]; split
  · exact (ah_ok hw (hc t ht)).2
  · rfl
theorem nr_ok (hw : WFh h) (hc : okRow h c) (h8 : c 8 + 1 < 100000) {g : Nat → Bool} : okRow h (nightRow h c g) := by
  have h3 := hw.2.2.2.2.2.1
  refine ⟨fun t ht => ?_, by rw [nr_7 h3]; exact hc.2.1, by rw [nr_8 h3]; exact h8⟩
  rw [nr_in ht]; split
  · exact (ah_ok hw (hc.1 t ht)).1
  · exact hc.1 t ht
/-- one who goes to a place that is taken goes behind one who goes -/
theorem go_front (hw : WFh h) (hc : okRow h c) (hj : injC h c) {X : Nat → Bool} {t u : Nat} (ht : t < h 3) (hu : u < h 3) (hg : goSet h c X t = true) (e : ah h (c t) = c u) : goSet h c X u = true := by
  have h3 := hw.2.2.2.2.2.1
  have hfr : fr h c t = some u := fnd_eq hu (by simp [e]) (fun v hv => by
    have : c v ≠ ah h (c t) := fun q => by have := hj v u (by omega) hu (by rw [q, e]); omega
    simpa using this)
  have hcm := come_fr hw (hc.1 t ht) hfr
  unfold goSet at hg ⊢
  rw [hcm]
  cases hx : clo (fr h c) X 128 u with
  | false =>
    cases hy : come h c t with
    | true => rfl
    | false => rw [hy] at hg; simp at hg
  | true =>
    have := clo_closed (f := fr h c) (X := X) (n := h 3) (fun t u _ hu => (fr_lt hu).1) (K := 128) (by omega) t u ht hfr hx
    rw [this] at hg; simp at hg
theorem nr_inj (hw : WFh h) (hc : okRow h c) (hj : injC h c) (X : Nat → Bool) : injC h (nightRow h c (goSet h c X)) := by
  intro t u ht hu e
  rw [nr_in ht, nr_in hu] at e
  cases g1 : goSet h c X t with
  | true =>
    cases g2 : goSet h c X u with
    | true => rw [g1, g2] at e; exact hj t u ht hu (ah_inj hw (hc.1 t ht) (hc.1 u hu) e)
    | false =>
      rw [g1, g2] at e
      have := go_front hw hc hj ht hu g1 e
      rw [g2] at this; cases this
  | false =>
    cases g2 : goSet h c X u with
    | true =>
      rw [g1, g2] at e
      have := go_front hw hc hj hu ht g2 e.symm
      rw [g1] at this; cases this
    | false => rw [g1, g2] at e; exact hj t u ht hu e
end ST
section CQ
variable {h c : Nat → Nat} {vH nx wd sz kd srt vW cl who fro : Nat → Int32} {x0 : Option Nat}
theorem c_seat {x : Nat} (hx : x < 36) (v : Int32) : fX6_seat vW who v (nI x) = some (upd who x v) := by
  simp (disch := omega) only [fX6_seat, fX6_seat_J17, nlit, nI_ltI, nI_leI, ok_nI, gdT, nI_clamp]
  rw [if_neg (by omega), if_neg (by omega)]
theorem c_pass (hw : WFh h) (hh : HC h vH nx wd sz kd srt x0) (hc : okRow h c) (hj : injC h c) (hwr : WR h c vW cl who x0) (X : Nat → Bool) :
    ∃ vW' cl' who' fro', fX6_pass vW vH cl nx who fro sz wd kd (nI (bm X (h 3))) = some (vW', cl', who', fro') ∧ WR h (nightRow h c (goSet h c (fun t => own h c t || X t))) vW' cl' who' x0 ∧ vW' 12 = nI (bm (goSet h c (fun t => own h c t || X t)) (h 3)) ∧ vW' 11 = nI (bm (stK h c X) (h 3)) ∧ vW' 10 = vW 10 := by
  have hw0 := hw
  have hh0 := hh
  have hc0 := hc
  obtain ⟨fro1, hdec⟩ := c_decide (fro := fro) hw hh hc hwr X
  generalize hgd : goSet h c (fun t => own h c t || X t) = g at hdec ⊢
  have hgf : ∀ t u, t < h 3 → u < h 3 → g t = true → ah h (c t) = c u → g u = true := by
    intro t u ht hu; rw [← hgd]; exact go_front hw hc hj ht hu
  have hji : injC h (nightRow h c g) := by rw [← hgd]; exact nr_inj hw hc hj _
  obtain ⟨hc1, hc7, hc8⟩ := hc
  obtain ⟨hb, hE0, hE1, -, h2, h3, -, -, -, -, h9⟩ := hw
  obtain ⟨hv0, hv2, hv5, hnx, hwd, hx0, hk, hsrt⟩ := hh
  obtain ⟨hcl, hwho, w5, w6, w7, w8, w9⟩ := hwr
  have b31 : ∀ q : Nat → Bool, bm q (h 3) < 2 ^ 31 := fun q => Nat.lt_of_lt_of_le (bm_7 q h3) (by decide)
  obtain ⟨vW2, hvW2⟩ : ∃ v : Nat → Int32, v = upd (upd (upd vW 11 (nI (bm (stK h c X) (h 3)))) 12 (nI (bm g (h 3)))) 5 (nI (c 8 + 1)) := ⟨_, rfl⟩
  have v12 : vW2 12 = nI (bm g (h 3)) := by rw [hvW2]; rfl
  have hbit : ∀ i, i < h 3 → (bm g (h 3)).testBit i = g i := fun i hi => by rw [bm_bit]; simp [hi]
  -- the second loop
  have two : ∀ w1 : Nat → Int32, ∃ cl' who', lp (fX6_pass_B64 vH nx) 5000 (0, cl, fro1, w1, vW2) = some (vW2, cl', who', fro1) ∧ (∀ t, t < h 3 → cl' t = nI (if g t then ah h (c t) else c t)) ∧ (∀ t, t < h 3 → g t = true → who' (ah h (c t)) = nI t) ∧ ∀ x, x < 36 → (∀ t, t < h 3 → g t = true → ah h (c t) ≠ x) → who' x = w1 x := by
    intro w1
    refine Exists.elim (lp_inv (f := fX6_pass_B64 vH nx) (fun i s => ∃ cl' who', s = (nI i, cl', fro1, who', vW2) ∧ (∀ t, t < h 3 → cl' t = nI (if t < i ∧ g t = true then ah h (c t) else c t)) ∧ (∀ t, t < i → g t = true → who' (ah h (c t)) = nI t) ∧ ∀ x, x < 36 → (∀ t, t < i → g t = true → ah h (c t) ≠ x) → who' x = w1 x)
      (fun r => ∃ cl' who', r = (vW2, cl', who', fro1) ∧ (∀ t, t < h 3 → cl' t = nI (if g t then ah h (c t) else c t)) ∧ (∀ t, t < h 3 → g t = true → who' (ah h (c t)) = nI t) ∧ ∀ x, x < 36 → (∀ t, t < h 3 → g t = true → ah h (c t) ≠ x) → who' x = w1 x) (h 3) ?_ ?_ 5000 0 (0, cl, fro1, w1, vW2) (Nat.zero_le _) ⟨cl, w1, rfl, fun t ht => by rw [hcl t ht]; simp, fun t ht => by omega, fun x _ _ => rfl⟩ (by omega)) (fun r hr => ?_)
    · rintro i s hi ⟨cl', who', rfl, q1, q2, q3⟩
      left
      have hok := hc1 i hi
      have hx36 := okc_lt hw0 hok
      have ha36 := okc_lt hw0 (ah_ok hw0 hok).1
      have hci : cl' i = nI (c i) := by rw [q1 i hi]; simp
      simp (disch := first | omega | exact b31 _) only [fX6_pass_B64, fX6_pass_J122, nlit, hv5, nI_leI, v12, bit_nI, ok_nI, gdT, nI_clamp, hci, c_nextOf hh0 hx36 hok, bdS, nI_add]
      rw [if_neg (by omega), if_neg (by omega), hbit i hi]
      cases hg : g i with
      | false =>
        simp only [Bool.false_eq_true, if_false, if_true]
        refine ⟨_, rfl, cl', who', rfl, fun t ht => ?_, fun t ht hgt => ?_, fun x hx hno => ?_⟩
        · rw [q1 t ht]
          congr 1
          by_cases hti : t = i
          · subst hti; simp [hg]
          · simp only [show (t < i + 1 ∧ g t = true) = (t < i ∧ g t = true) from by rw [show (t < i + 1) = (t < i) from by apply propext; omega]]
        · rcases Nat.lt_or_ge t i with h4 | h4
          · exact q2 t h4 hgt
          · obtain rfl : t = i := by omega
            rw [hg] at hgt; cases hgt
        · exact q3 x hx (fun t ht => hno t (by omega))
      | true =>
        simp only [if_true, n10, if_false]
        rw [show (upd cl' i (nI (ah h (c i)))) i = nI (ah h (c i)) from by unfold upd; rw [if_pos rfl], c_seat ha36, bdS]
        refine ⟨_, rfl, _, _, rfl, fun t ht => ?_, fun t ht hgt => ?_, fun x hx hno => ?_⟩
        · unfold upd
          by_cases hti : t = i
          · subst hti; simp [hg]
          · rw [if_neg hti, q1 t ht]
            congr 1
            simp only [show (t < i + 1 ∧ g t = true) = (t < i ∧ g t = true) from by rw [show (t < i + 1) = (t < i) from by apply propext; omega]]
        · unfold upd
          by_cases hti : t = i
          · subst hti; rw [if_pos rfl]
          · have hne : ah h (c t) ≠ ah h (c i) := fun q => hti (hj t i (by omega) hi (ah_inj hw0 (hc1 t (by omega)) hok q))
            rw [if_neg hne]
            exact q2 t (by omega) hgt
        · unfold upd
          rw [if_neg (fun q => hno i (by omega) hg q.symm)]
          exact q3 x hx (fun t ht => hno t (by omega))
    · rintro s ⟨cl', who', rfl, q1, q2, q3⟩
      simp (disch := omega) only [fX6_pass_B64, fX6_pass_J128, nlit, hv5, nI_leI, exS]
      rw [if_pos (Nat.le_refl _)]
      refine ⟨_, rfl, cl', who', rfl, fun t ht => ?_, q2, q3⟩
      rw [q1 t ht]
      simp [ht]
    · obtain ⟨e, cl', who', hr, q1, q2, q3⟩ := hr
      exact ⟨cl', who', by rw [e, hr], q1, q2, q3⟩
  -- the first loop
  have one : ∃ (w1 cl' who' : Nat → Int32), lp (fX6_pass_B17 vH cl nx) 5000 (0, fro1, who, vW2) = some (vW2, cl', who', fro1) ∧ (∀ x, x < 36 → (∃ t, t < h 3 ∧ g t = true ∧ c t = x) → w1 x = -1) ∧ (∀ x, x < 36 → (∀ t, t < h 3 → g t = true → c t ≠ x) → w1 x = who x) ∧ (∀ t, t < h 3 → cl' t = nI (if g t then ah h (c t) else c t)) ∧ (∀ t, t < h 3 → g t = true → who' (ah h (c t)) = nI t) ∧ ∀ x, x < 36 → (∀ t, t < h 3 → g t = true → ah h (c t) ≠ x) → who' x = w1 x := by
    refine Exists.elim (lp_inv (f := fX6_pass_B17 vH cl nx) (fun i s => ∃ w1, s = (nI i, fro1, w1, vW2) ∧ (∀ x, x < 36 → (∃ t, t < i ∧ g t = true ∧ c t = x) → w1 x = -1) ∧ (∀ x, x < 36 → (∀ t, t < i → g t = true → c t ≠ x) → w1 x = who x))
      (fun r => ∃ (w1 cl' who' : Nat → Int32), r = (vW2, cl', who', fro1) ∧ (∀ x, x < 36 → (∃ t, t < h 3 ∧ g t = true ∧ c t = x) → w1 x = -1) ∧ (∀ x, x < 36 → (∀ t, t < h 3 → g t = true → c t ≠ x) → w1 x = who x) ∧ (∀ t, t < h 3 → cl' t = nI (if g t then ah h (c t) else c t)) ∧ (∀ t, t < h 3 → g t = true → who' (ah h (c t)) = nI t) ∧ ∀ x, x < 36 → (∀ t, t < h 3 → g t = true → ah h (c t) ≠ x) → who' x = w1 x) (h 3) ?_ ?_ 5000 0 (0, fro1, who, vW2) (Nat.zero_le _) ⟨who, rfl, fun x _ hx => by obtain ⟨t, ht, -⟩ := hx; omega, fun x _ _ => rfl⟩ (by omega)) (fun r hr => ?_)
    · rintro i s hi ⟨w1, rfl, q1, q2⟩
      left
      have hok := hc1 i hi
      have hx36 := okc_lt hw0 hok
      have hci := hcl i hi
      simp (disch := first | omega | exact b31 _) only [fX6_pass_B17, fX6_pass_J56, nlit, hv5, nI_leI, v12, bit_nI, ok_nI, gdT, nI_clamp, hci, c_seat hx36, bdS, nI_add]
      rw [if_neg (by omega), if_neg (by omega), hbit i hi]
      cases hg : g i with
      | false =>
        simp only [Bool.false_eq_true, if_false, if_true]
        refine ⟨_, rfl, w1, rfl, fun x hx hex => ?_, fun x hx hno => q2 x hx (fun t ht => hno t (by omega))⟩
        obtain ⟨t, ht, hgt, hct⟩ := hex
        rcases Nat.lt_or_ge t i with h4 | h4
        · exact q1 x hx ⟨t, h4, hgt, hct⟩
        · obtain rfl : t = i := by omega
          rw [hg] at hgt; cases hgt
      | true =>
        simp only [if_true, n10, if_false]
        refine ⟨_, rfl, _, rfl, fun x hx hex => ?_, fun x hx hno => ?_⟩
        · unfold upd
          obtain ⟨t, ht, hgt, hct⟩ := hex
          by_cases hxi : x = c i
          · rw [if_pos hxi]
          · rw [if_neg hxi]
            rcases Nat.lt_or_ge t i with h4 | h4
            · exact q1 x hx ⟨t, h4, hgt, hct⟩
            · obtain rfl : t = i := by omega
              exact absurd hct.symm hxi
        · unfold upd
          rw [if_neg (fun q => hno i (by omega) hg q.symm)]
          exact q2 x hx (fun t ht => hno t (by omega))
    · rintro s ⟨w1, rfl, q1, q2⟩
      obtain ⟨cl', who', e, p1, p2, p3⟩ := two w1
      simp (disch := omega) only [fX6_pass_B17, fX6_pass_J62, nlit, hv5, nI_leI]
      rw [if_pos (Nat.le_refl _)]
      rw [← nI_0] at e
      rw [e, exS]
      exact ⟨_, rfl, w1, cl', who', rfl, q1, q2, p1, p2, p3⟩
    · obtain ⟨e, w1, cl', who', hr, q⟩ := hr
      exact ⟨w1, cl', who', by rw [e, hr], q⟩
  obtain ⟨w1, cl', who', e, q1, q2, p1, p2, p3⟩ := one
  refine ⟨vW2, cl', who', fro1, ?_, ⟨fun t ht => by rw [nr_in ht]; exact p1 t ht, fun x hx => ?_, ?_, ?_, ?_, ?_, ?_⟩, v12, by rw [hvW2]; rfl, by rw [hvW2]; rfl⟩
  · unfold fX6_pass
    rw [hdec, bdS]
    have : upd (upd (upd vW 11 (nI (bm (stK h c X) (h 3)))) 12 (nI (bm g (h 3)))) 5 ((upd (upd vW 11 (nI (bm (stK h c X) (h 3)))) 12 (nI (bm g (h 3)))) 5 + 1) = vW2 := by
      rw [hvW2]
      congr 1
      show vW 5 + 1 = _
      rw [w5]; exact nI_1 _
    simp only []
    rw [this]
    exact e
  · by_cases h4 : ∃ t, t < h 3 ∧ g t = true ∧ ah h (c t) = x
    · obtain ⟨t, ht, hgt, hat⟩ := h4
      have hf : fnd (fun u => nightRow h c g u == x) (h 3) = some t := fnd_eq ht (by rw [nr_in ht, hgt]; simp [hat]) (fun v hv => by
        have : nightRow h c g v ≠ x := fun q => by have := hji v t (by omega) ht (by rw [q, nr_in ht, hgt]; simp [hat]); omega
        simpa using this)
      rw [hf, ← hat]
      exact p2 t ht hgt
    · have h5 : ∀ t, t < h 3 → g t = true → ah h (c t) ≠ x := fun t ht hgt q => h4 ⟨t, ht, hgt, q⟩
      rw [p3 x hx h5]
      by_cases h6 : ∃ t, t < h 3 ∧ g t = true ∧ c t = x
      · rw [q1 x hx h6]
        obtain ⟨t, ht, hgt, hct⟩ := h6
        have hno : ∀ v, v < h 3 → (nightRow h c g v == x) = false := by
          intro v hv
          have : nightRow h c g v ≠ x := by
            rw [nr_in hv]
            cases hgv : g v with
            | true => exact h5 v hv hgv
            | false =>
              intro q
              have hvt : v = t := hj v t hv ht (by rw [hct]; exact q)
              rw [hvt, hgt] at hgv; cases hgv
          simpa using this
        rw [fnd_no hno]
      · have h7 : ∀ t, t < h 3 → g t = true → c t ≠ x := fun t ht hgt q => h6 ⟨t, ht, hgt, q⟩
        rw [q2 x hx h7, hwho x hx]
        have : fnd (fun u => c u == x) (h 3) = fnd (fun u => nightRow h c g u == x) (h 3) := by
          have hpt : ∀ v, v < h 3 → (c v == x) = (nightRow h c g v == x) := by
            intro v hv
            rw [nr_in hv]
            cases hgv : g v with
            | true =>
              have a1 : ¬ c v = x := h7 v hv hgv
              have a2 : ¬ ah h (c v) = x := h5 v hv hgv
              simp only [if_true]
              rw [show (c v == x) = false by simpa using a1, show (ah h (c v) == x) = false by simpa using a2]
            | false => simp
          cases hq : fnd (fun u => c u == x) (h 3) with
          | none => exact (fnd_no (fun v hv => by rw [← hpt v hv]; exact fnd_none hq v hv)).symm
          | some u =>
            obtain ⟨r1, r2, r3⟩ := fnd_some hq
            exact (fnd_eq r1 (by rw [← hpt u r1]; exact r2) (fun v hv => by rw [← hpt v (by omega)]; exact r3 v hv)).symm
        rw [this]
  · rw [nr_8 h3, hvW2]; rfl
  · rw [nr_7 h3, hvW2]; exact w6
  · rw [hvW2]; exact w7
  · rw [hvW2]
    show vW 8 = _
    rw [w8]
    congr 1
    apply bm_ext
    intro t ht
    rw [nr_ring hw0 hc1 ht]
  · rw [hvW2]; exact w9
end CQ
