/-! MATH 9: the start of a walk -/
theorem c_fill {n0 : Nat} {p0 : Nat → Int32} (x : Int32) (hn : n0 < 5000) : ∃ p', fJ7_fill_53178 n0 p0 x = some p' ∧ ∀ j, j < n0 → p' j = x := by
  unfold fJ7_fill_53178
  refine lp_inv (f := fJ7_fill_53178_B5 n0 x) (fun i s => ∃ p', s = (nI i, p') ∧ ∀ j, j < i → p' j = x) (fun p' => ∀ j, j < n0 → p' j = x) n0 ?_ ?_ 5000 0 (0, p0) (Nat.zero_le _) ⟨p0, rfl, fun j hj => by omega⟩ (by omega)
  · rintro i s hi ⟨p', rfl, hp⟩
    left
    simp (disch := omega) only [fJ7_fill_53178_B5, nlit, nI_leI, ok_nI, gdT, nI_clamp, nI_add]
    rw [if_neg (by omega)]
    refine ⟨_, rfl, _, rfl, fun j hj => ?_⟩
    unfold upd
    by_cases hji : j = i
    · rw [if_pos hji]
    · rw [if_neg hji]; exact hp j (by omega)
  · rintro s ⟨p', rfl, hp⟩
    simp (disch := omega) only [fJ7_fill_53178_B5, nlit, nI_leI, exS]
    rw [if_pos (Nat.le_refl _)]
    exact ⟨_, rfl, hp⟩
/-- the diary's row: the things' places, the held ones, the night -/
def DR (h c : Nat → Nat) (now : Nat → Int32) : Prop := (∀ t, t < h 3 → now t = nI (c t)) ∧ now 7 = nI (c 7) ∧ now 8 = nI (c 8)
/-- as it is, with more held -/
def held (c : Nat → Nat) (m : Nat) : Nat → Nat := fun k => if k = 7 then c 7 ||| m else c k
section CS
variable {h c : Nat → Nat} {vH nx wd sz kd srt vW cl who vD now : Nat → Int32} {x0 : Option Nat}
theorem c_sortOf (hw : WFh h) (hh : HC h vH nx wd sz kd srt x0) {g : Nat} (hg : g < h 2) : fX4_sortOf vH srt (nI g) = some (nI (so h g)) := by
  obtain ⟨-, -, -, -, h2, -⟩ := hw
  obtain ⟨-, hv2, -, -, -, -, -, hs⟩ := hh
  simp (disch := omega) only [fX4_sortOf, fX4_sortOf_J18, fX4_hasRing, fX4_hasRing_J21, fX4_hasRing_J22, nlit, hv2, nI_ltI, nI_leI, isB_1, gdT]
  rw [if_neg (by omega), if_neg (by omega), if_neg (by omega), bdS]
  simp (disch := omega) only [nI_eq, Nat.one_ne_zero, if_false, ok_nI, gdT, nI_clamp, hs g hg]
theorem c_kindOf (hw : WFh h) (hh : HC h vH nx wd sz kd srt x0) {t : Nat} (ht : t < h 3) : fX4_kindOf vH kd (nI t) = some (nI (h (62 + 3 * t))) := by
  obtain ⟨-, -, -, -, -, h3, -⟩ := hw
  have hk := (hh.2.2.2.2.2.2.1 t ht).2
  simp (disch := omega) only [fX4_kindOf, fX4_kindOf_J20, nlit, nI_ltI, nI_leI, ok_nI, gdT, nI_clamp, hk]
  rw [if_neg (by omega), if_neg (by omega)]
theorem c_dcell (hw : WFh h) (hd : DR h c now) {t : Nat} (ht : t < h 3) : fX1_cellOf vD now (nI t) = some (nI (c t)) := by
  obtain ⟨-, -, -, -, -, h3, -⟩ := hw
  have hk := hd.1 t ht
  simp (disch := omega) only [fX1_cellOf, fX1_cellOf_J20, nlit, nI_ltI, nI_leI, ok_nI, gdT, nI_clamp, hk]
  rw [if_neg (by omega), if_neg (by omega)]
theorem held_okRow {m : Nat} (hc : okRow h c) (hn : h 3 ≤ 7) (hm : m < 2 ^ h 3) : okRow h (held c m) := by
  refine ⟨fun t ht => ?_, ?_, ?_⟩
  · unfold held; rw [if_neg (by omega)]; exact hc.1 t ht
  · unfold held; rw [if_pos rfl]; exact Nat.or_lt_two_pow hc.2.1 hm
  · unfold held; rw [if_neg (by omega)]; exact hc.2.2
theorem held_inj {m : Nat} (hn : h 3 ≤ 7) (hj : injC h c) : injC h (held c m) := by
  intro t u ht hu e
  unfold held at e
  rw [if_neg (by omega), if_neg (by omega)] at e
  exact hj t u ht hu e
theorem held_in {m t : Nat} (hn : h 3 ≤ 7) (ht : t < h 3) : held c m t = c t := by
  unfold held; rw [if_neg (by omega)]
theorem c_start (hw : WFh h) (hh : HC h vH nx wd sz kd srt none) (hc : okRow h c) (hj : injC h c) (hd : DR h c now) {m : Nat} (hm : m < 2 ^ h 3) :
    ∃ vW' who' cl', fX6_start vW vD now who vH kd cl srt (nI m) = some (vW', who', cl') ∧ WR h (held c m) vW' cl' who' none ∧ vW' 10 = vW 10 := by
  have hw0 := hw
  have hh0 := hh
  obtain ⟨hc1, hc7, hc8⟩ := hc
  obtain ⟨hb, hE0, hE1, -, h2, h3, -, -, -, -, h9⟩ := hw
  obtain ⟨hv0, hv2, hv5, hnx, hwd, hx0, hk, hsrt⟩ := hh
  obtain ⟨hd1, hd7, hd8⟩ := hd
  have h7 : c 7 ||| m < 2 ^ h 3 := Nat.or_lt_two_pow hc7 hm
  have p7 : 2 ^ h 3 ≤ 128 := Nat.pow_le_pow_right (n := 2) (by omega) h3
  obtain ⟨w0, hw1, hw2⟩ := c_fill (n0 := 36) (p0 := who) (-1) (by omega)
  unfold fX6_start
  simp (disch := omega) only [fX1_nightNow, fX1_heldBits, nlit, ok_nI, gdT, nI_clamp, hd7, hd8, bdS, nI_or]
  rw [show (-nI 1 : Int32) = -1 from rfl, hw1, bdS]
  refine Exists.elim (lp_inv (f := fX6_start_B49 vD now vH kd srt) (fun i s => ∃ cl' who' vW', s = (nI i, cl', who', vW') ∧ (∀ t, t < i → cl' t = nI (c t)) ∧ (∀ x, x < 36 → who' x = match fnd (fun u => c u == x) i with | some u => nI u | none => -1) ∧ vW' 5 = nI (c 8) ∧ vW' 6 = nI ((c 7 ||| m) ||| bm (fun t => h (62 + 3 * t) == 2) i) ∧ vW' 7 = nI (bm (fun t => h (62 + 3 * t) == 1) i) ∧ vW' 8 = nI (bm (fun t => so h (c t / 9) == 1) i) ∧ vW' 9 = -1 ∧ vW' 10 = vW 10)
    (fun r => ∃ vW' who' cl', r = (vW', who', cl') ∧ WR h (held c m) vW' cl' who' none ∧ vW' 10 = vW 10) (h 3) ?_ ?_ 5000 0 (nI 0, cl, w0, upd (upd (upd (upd (upd vW 5 (nI (c 8))) 6 (nI (c 7 ||| m))) 7 (nI 0)) 8 (nI 0)) 9 (-1)) (Nat.zero_le _) ⟨cl, w0, upd (upd (upd (upd (upd vW 5 (nI (c 8))) 6 (nI (c 7 ||| m))) 7 (nI 0)) 8 (nI 0)) 9 (-1), rfl, fun t ht => by omega, fun x hx => hw2 x hx, rfl, ?_, rfl, rfl, rfl, rfl⟩ (by omega)) (fun r hr => ?_)
  · rintro i s hi ⟨cl', who', vW', rfl, q1, q2, q5, q6, q7, q8, q9, q10⟩
    left
    have hok := hc1 i hi
    have hx36 := okc_lt hw0 hok
    have hki : h (62 + 3 * i) < 1000 := hb _ (by omega)
    have hsi : so h (c i / 9) < 1000 := hb _ (by have := hok.1; omega)
    simp (disch := omega) only [fX6_start_B49, nlit, hv5, nI_leI, c_dcell hw0 ⟨hd1, hd7, hd8⟩ hi, bdS, c_kindOf hw0 hh0 hi, ok_nI, gdT, nI_clamp, c_seat hx36, nI_eq, isl_1]
    rw [if_neg (by omega), if_neg (by omega)]
    have k2 : (if h (62 + 3 * i) = 2 then fX6_start_J123 vH srt (nI i) vW' (nI (c i)) (nI (h (62 + 3 * i))) (nI (2 ^ i)) (upd cl' i (nI (c i))) (upd who' (c i) (nI i)) else fX6_start_J123 vH srt (nI i) vW' (nI (c i)) (nI (h (62 + 3 * i))) (nI 0) (upd cl' i (nI (c i))) (upd who' (c i) (nI i))) = fX6_start_J123 vH srt (nI i) vW' (nI (c i)) (nI (h (62 + 3 * i))) (nI (if h (62 + 3 * i) == 2 then 2 ^ i else 0)) (upd cl' i (nI (c i))) (upd who' (c i) (nI i)) := by
      by_cases e2 : h (62 + 3 * i) = 2
      · simp [e2]
      · simp [e2]
    rw [k2]
    unfold fX6_start_J123
    simp (disch := omega) only [nlit, nI_eq, isl_1, q6, nI_or]
    have k1 : ∀ v : Nat → Int32, (if h (62 + 3 * i) = 1 then fX6_start_J146 vH srt (nI i) vW' (nI (c i)) (nI (2 ^ i)) (upd cl' i (nI (c i))) (upd who' (c i) (nI i)) v else fX6_start_J146 vH srt (nI i) vW' (nI (c i)) (nI 0) (upd cl' i (nI (c i))) (upd who' (c i) (nI i)) v) = fX6_start_J146 vH srt (nI i) vW' (nI (c i)) (nI (if h (62 + 3 * i) == 1 then 2 ^ i else 0)) (upd cl' i (nI (c i))) (upd who' (c i) (nI i)) v := by
      intro v
      by_cases e2 : h (62 + 3 * i) = 1
      · simp [e2]
      · simp [e2]
    rw [k1]
    unfold fX6_start_J146 fX6_start_J179
    rw [c_ring (by omega), bdS, c_sortOf hw0 hh0 hok.1, bdS]
    simp (disch := omega) only [nlit, nI_eq, isl_1, nI_add, q7, nI_or]
    have k3 : ∀ (v : Nat → Int32) (a : Nat), (if so h (c i / 9) = 1 then (some (.inr (nI (i + 1), upd cl' i (nI (c i)), upd who' (c i) (nI i), upd v 8 (nI a ||| nI (2 ^ i)))) : Option (((Nat → Int32) × (Nat → Int32) × (Nat → Int32)) ⊕ (Int32 × (Nat → Int32) × (Nat → Int32) × (Nat → Int32)))) else some (.inr (nI (i + 1), upd cl' i (nI (c i)), upd who' (c i) (nI i), upd v 8 (nI a ||| nI 0)))) = some (.inr (nI (i + 1), upd cl' i (nI (c i)), upd who' (c i) (nI i), upd v 8 (nI (a ||| if so h (c i / 9) == 1 then 2 ^ i else 0)))) := by
      intro v a
      by_cases e2 : so h (c i / 9) = 1
      · simp [e2, nI_or]
      · simp [e2, nI_or]
    have e8 : ∀ v : Nat → Int32, ∀ a : Int32, (upd v 6 a) 8 = v 8 := fun _ _ => rfl
    rw [e8, q8, k3]
    refine ⟨_, rfl, _, _, _, rfl, fun t ht => ?_, fun x hx => ?_, q5, ?_, rfl, rfl, q9, q10⟩
    · unfold upd
      by_cases hti : t = i
      · subst hti; rw [if_pos rfl]
      · rw [if_neg hti]; exact q1 t (by omega)
    · unfold upd
      by_cases hxi : x = c i
      · rw [if_pos hxi]
        have : fnd (fun u => c u == x) (i + 1) = some i := fnd_eq (by omega) (by simp [hxi]) (fun v hv => by
          have : c v ≠ x := fun q => by have := hj v i (by omega) hi (by rw [q, hxi]); omega
          simpa using this)
        rw [this]
      · rw [if_neg hxi, q2 x hx]
        have : fnd (fun u => c u == x) (i + 1) = fnd (fun u => c u == x) i := by
          rw [fnd]
          have hne : (c i == x) = false := by simpa using fun q : c i = x => hxi q.symm
          cases fnd (fun u => c u == x) i with
          | none => simp only [hne]; rfl
          | some u => rfl
        rw [this]
        try rfl
    · show nI _ = _
      rw [Nat.or_assoc]
      rfl
  · rintro s ⟨cl', who', vW', rfl, q1, q2, q5, q6, q7, q8, q9, q10⟩
    simp (disch := omega) only [fX6_start_B49, fX6_start_J189, nlit, hv5, nI_leI, exS]
    rw [if_pos (Nat.le_refl _)]
    refine ⟨_, rfl, vW', who', cl', rfl, ⟨fun t ht => by rw [held_in h3 ht]; exact q1 t ht, fun x hx => ?_, by unfold held; rw [if_neg (by omega)]; exact q5, ?_, q7, ?_, q9⟩, q10⟩
    · rw [q2 x hx]
      have : fnd (fun u => c u == x) (h 3) = fnd (fun u => held c m u == x) (h 3) := by
        have hpt : ∀ v, v < h 3 → (c v == x) = (held c m v == x) := fun v hv => by rw [held_in h3 hv]
        cases hq : fnd (fun u => c u == x) (h 3) with
        | none => exact (fnd_no (fun v hv => by rw [← hpt v hv]; exact fnd_none hq v hv)).symm
        | some u =>
          obtain ⟨r1, r2, r3⟩ := fnd_some hq
          exact (fnd_eq r1 (by rw [← hpt u r1]; exact r2) (fun v hv => by rw [← hpt v (by omega)]; exact r3 v hv)).symm
      rw [this]
      try rfl
    · rw [q6]
      congr 1
      have : held c m 7 = c 7 ||| m := by unfold held; rw [if_pos rfl]
      rw [this]
      conv => lhs; rw [bm_of h7]
      rw [bm_or]
    · rw [q8]
      congr 1
      exact bm_ext fun t ht => by rw [held_in h3 ht]
  · show nI (c 7 ||| m) = _
    simp [bm]
  · obtain ⟨e, vW', who', cl', hr, q⟩ := hr
    exact ⟨vW', who', cl', by rw [e, hr], q⟩
end CS
