/-! MATH 17: worstHeld, toWiden -/
/-- the first with the fewest moves among the first i things held each alone: (who, how many) -/
def whS (h c : Nat → Nat) (k : Nat) : Nat → Option (Nat × Nat)
  | 0 => none
  | i + 1 => match whS h c k i with
    | none => some (i, moves h (held c (2 ^ i)) k)
    | some (b, m) => if moves h (held c (2 ^ i)) k < m then some (i, moves h (held c (2 ^ i)) k) else some (b, m)
def worstA (h c : Nat → Nat) (k : Nat) : Int32 := orNone ((whS h c k (h 3)).map (·.1))
/-- a house in which one place is widened -/
def hz (h : Nat → Nat) (x : Nat) : Nat → Nat := fun k => if k = 16 + x then 0 else h k
/-- the best place to widen among the first i: its answer, how many moves -/
def twS (h c : Nat → Nat) : Nat → Int32 × Nat
  | 0 => (-2, moves h c 60)
  | i + 1 => if h (16 + i) = 0 then twS h c i else if (twS h c i).2 < moves (hz h i) c 60 then (nI (ten i), moves (hz h i) c 60) else twS h c i
theorem twS_le (h c : Nat → Nat) (hn : h 3 ≤ 7) : ∀ i, i ≤ 36 → (twS h c i).2 ≤ 420 := by
  intro i
  induction i with
  | zero => intro _; exact moves_le h c hn 60
  | succ i ih =>
    intro hi
    rw [twS]
    split
    · exact ih (by omega)
    · split
      · have : hz h i 3 ≤ 7 := by unfold hz; rw [if_neg (by omega)]; exact hn
        exact moves_le (hz h i) c this 60
      · exact ih (by omega)
theorem whS_le (h c : Nat → Nat) (hn : h 3 ≤ 7) (k : Nat) : ∀ i b m, whS h c k i = some (b, m) → b < i ∧ m ≤ 7 * k := by
  intro i
  induction i with
  | zero => intro b m e; cases e
  | succ i ih =>
    intro b m e
    have hm := moves_le h (held c (2 ^ i)) hn k
    rw [whS] at e
    cases hq : whS h c k i with
    | none => rw [hq] at e; cases e; exact ⟨by omega, hm⟩
    | some bm =>
      obtain ⟨b', m'⟩ := bm
      rw [hq] at e
      have := ih b' m' hq
      simp only at e
      split at e
      · cases e; exact ⟨by omega, hm⟩
      · cases e; exact ⟨by omega, this.2⟩
section HZ
variable {h c : Nat → Nat} {x : Nat}
theorem hz_lo {k : Nat} (hk : k < 16) : hz h x k = h k := by unfold hz; rw [if_neg (by omega)]
theorem hz_hi {k : Nat} (hx : x < 36) (hk : 52 ≤ k) : hz h x k = h k := by unfold hz; rw [if_neg (by omega)]
theorem hz_so {g : Nat} (hg : g < 4) : so (hz h x) g = so h g := hz_lo (by omega)
theorem hz_pl {g : Nat} (hg : g < 4) : pl (hz h x) g = pl h g := hz_lo (by omega)
theorem hz_ah {y : Nat} (hy : y < 36) : ah (hz h x) y = ah h y := by
  unfold ah
  rw [hz_so (by omega), hz_pl (by omega)]
theorem hz_okc {y : Nat} (hy : y < 36) : okc (hz h x) y ↔ okc h y := by
  unfold okc
  rw [hz_pl (by omega), hz_lo (by omega)]
theorem hz_wf (hw : WFh h) (hx : x < 36) : WFh (hz h x) := by
  obtain ⟨hb, h0, h0', h1, h2, h3, h5, h6, h7, hp, h9⟩ := hw
  refine ⟨fun k hk => ?_, by rw [hz_lo (by omega)]; exact h0, by rw [hz_lo (by omega)]; exact h0', by rw [hz_lo (by omega)]; exact h1, by rw [hz_lo (by omega)]; exact h2, by rw [hz_lo (by omega)]; exact h3, by rw [hz_lo (by omega)]; exact h5, by rw [hz_lo (by omega)]; exact h6, by rw [hz_lo (by omega)]; exact h7, fun g hg => ?_, fun t ht => ?_⟩
  · unfold hz; split
    · omega
    · exact hb k hk
  · rw [hz_lo (by omega)] at hg
    rw [hz_pl (by omega)]
    exact hp g hg
  · rw [hz_lo (by omega)] at ht
    rw [hz_hi hx (by omega)]
    exact h9 t ht
theorem hz_row (hw : WFh h) (hc : okRow h c) : okRow (hz h x) c := by
  refine ⟨fun t ht => ?_, by rw [hz_lo (by omega)]; exact hc.2.1, hc.2.2⟩
  rw [hz_lo (by omega)] at ht
  exact (hz_okc (okc_lt hw (hc.1 t ht))).mpr (hc.1 t ht)
theorem hz_inj (hj : injC h c) : injC (hz h x) c := by
  intro t u ht hu
  rw [hz_lo (by omega)] at ht hu
  exact hj t u ht hu
end HZ
section QH
variable {h c : Nat → Nat} {vH nx wd sz kd srt plc d1 d2 vD now vN vW cl who fro vM r st trial : Nat → Int32} {aH aW : Nat} {x0 : Option Nat}
theorem hz_HC (hw : WFh h) (hh : HC h vH nx wd sz kd srt none) {x : Nat} (hx : x < 36) : HC (hz h x) vH nx wd sz kd srt (some x) := by
  obtain ⟨a0, a2, a3, a4, a5, a6, a7, a8⟩ := hh
  have h2 := hw.2.2.2.2.1
  refine ⟨by rw [hz_lo (by omega)]; exact a0, by rw [hz_lo (by omega)]; exact a2, by rw [hz_lo (by omega)]; exact a3, fun y hy hok => ?_, fun y hy hne => ?_, fun y e => ?_, fun t ht => ?_, fun g hg => ?_⟩
  · rw [hz_ah hy]; exact a4 y hy ((hz_okc hy).mp hok)
  · have hyx : y ≠ x := fun q => hne (by rw [q])
    have : hz h x (16 + y) = h (16 + y) := by unfold hz; rw [if_neg (by omega)]
    rw [this]
    exact a5 y hy (by simp)
  · cases e
    exact ⟨hx, by unfold hz; rw [if_pos rfl]⟩
  · rw [hz_lo (by omega)] at ht
    rw [hz_hi hx (by omega), hz_hi hx (by omega)]
    exact a7 t ht
  · rw [hz_lo (by omega)] at hg
    rw [hz_so (by omega)]
    exact a8 g hg
theorem hz_WR (hw : WFh h) (hc : okRow h c) (hwr : WR h c vW cl who none) {x : Nat} (hx : x < 36) : WR (hz h x) c (upd vW 9 (nI x)) cl who (some x) := by
  obtain ⟨a1, a2, a5, a6, a7, a8, a9⟩ := hwr
  have e3 : hz h x 3 = h 3 := hz_lo (by omega)
  have h2 := hw.2.2.2.2.1
  refine ⟨by rw [e3]; exact a1, by rw [e3]; exact a2, a5, ?_, ?_, ?_, rfl⟩
  · show vW 6 = _
    rw [a6, e3]
    congr 1
    exact bm_ext fun t ht => by rw [hz_hi hx (by omega)]
  · show vW 7 = _
    rw [a7, e3]
    congr 1
    exact bm_ext fun t ht => by rw [hz_hi hx (by omega)]
  · show vW 8 = _
    rw [a8, e3]
    congr 1
    exact bm_ext fun t ht => by
      have := (hc.1 t ht).1
      rw [hz_so (by omega)]
theorem m_goneBy (hw : WFh h) (hc : okRow h c) (hj : injC h c) (h8 : c 8 ≤ 1000) (hr : ∀ k, k < 224 → r k = nI (h k)) (hst : ∀ k, k < 9 → st k = nI (c k)) {m k : Nat} (hm : m < 2 ^ h 3) (hk : k ≤ 200) : ∃ tr', fX9_goneBy vM st trial r (nI m) (nI k) = some (nI (moves h (held c m) k), tr') := by
  have h3 := hw.2.2.2.2.2.1
  have b31 : ∀ q : Nat → Bool, bm q (h 3) < 2 ^ 31 := fun q => Nat.lt_of_lt_of_le (bm_7 q h3) (by decide)
  obtain ⟨t0, e0, ht0⟩ := m_begin (vM := vM) (trial := trial) hst
  have hc2 := held_okRow hc h3 hm
  have hj2 := held_inj (m := m) h3 hj
  have h82 : held c m 8 ≤ 1000 := by unfold held; rw [if_neg (by omega)]; exact h8
  unfold fX9_goneBy
  rw [e0, bdS]
  simp (disch := omega) only [nlit, ok_nI, gdT, nI_clamp, ht0, nI_or]
  refine Exists.elim (lp_inv (f := fX9_goneBy_B20 vM r (nI k)) (fun i s => ∃ p, s = (nI (moves h (held c m) i), nI i, p) ∧ ∀ j, j < 9 → p j = nI (nights h (held c m) i j)) (fun res => ∃ p, res = (nI (moves h (held c m) k), p)) k ?_ ?_ 5000 0 (nI 0, nI 0, upd t0 7 (nI (c 7 ||| m))) (Nat.zero_le _) ⟨_, rfl, fun j hj => ?_⟩ (by omega)) (fun res hres => ?_)
  · rintro i s hi ⟨p, rfl, hp⟩
    left
    obtain ⟨a1, a2, a3, a4⟩ := nts hw hc2 hj2 h82 i (by omega)
    obtain ⟨p', e, hp'⟩ := m_nightOf (vM := vM) hw hr hp a1
    simp (disch := omega) only [fX9_goneBy_B20, nlit, nI_leI, e, bdS, m_ones (b31 _)]
    rw [if_neg (by omega), popc_bm _ (by omega)]
    simp only [nI_add]
    exact ⟨_, rfl, p', rfl, hp'⟩
  · rintro s ⟨p, rfl, hp⟩
    simp (disch := omega) only [fX9_goneBy_B20, nlit, nI_leI, exS]
    rw [if_pos (Nat.le_refl _)]
    exact ⟨_, rfl, p, rfl⟩
  · show (if j = 7 then nI (c 7 ||| m) else t0 j) = nI (held c m j)
    unfold held
    by_cases e7 : j = 7
    · rw [if_pos e7, if_pos e7]
    · rw [if_neg e7, if_neg e7]; exact ht0 j hj
  · obtain ⟨e, p, hres⟩ := hres
    exact ⟨p, e.trans (congrArg some hres)⟩
theorem C_worstHeld (hx : CX h c vH nx wd sz kd srt plc d1 d2 now) {k : Nat} (hk : k ≤ 60) :
    ∃ vW' who' cl' fro' aW', fX8_worstHeld aH aW vN vH vW vD now who kd cl srt nx fro sz wd (nI k) = some (worstA h c k, upd vN 6 (nI 0), vW', who', cl', fro', aW') := by
  obtain ⟨hw, hh, hc, hj, h8, hd, h1, v4, hpl, hdr⟩ := hx
  have h3 := hw.2.2.2.2.2.1
  unfold fX8_worstHeld
  rw [c_stands_t hw.2.2.2.2.1 h1 hh.2.1, bdS, if_neg (by rw [nlit, n10]; exact id)]
  simp (disch := omega) only [nlit, nI_ltI, nI_leI]
  rw [if_neg (by omega), if_pos hk]
  refine Exists.elim (lp_inv (f := fX8_worstHeld_B40 aH vN vH vD now kd srt nx sz wd (nI k)) (fun i s => ∃ cl' fro' who' aW' vW', s = (nI (((whS h c k i).map (·.2)).getD 0), orNone ((whS h c k i).map (·.1)), nI i, cl', fro', who', aW', vW')) (fun res => ∃ vW' who' cl' fro' aW', res = (worstA h c k, upd vN 6 (nI 0), vW', who', cl', fro', aW')) (h 3) ?_ ?_ 5000 0 (nI 0, -nI 2, nI 0, cl, fro, who, aW, vW) (Nat.zero_le _) ⟨cl, fro, who, aW, vW, rfl⟩ (by omega)) (fun res hr => ?_)
  · rintro i s hi ⟨cl', fro', who', aW', vW', rfl⟩
    left
    have p7 : 2 ^ i < 2 ^ h 3 := Nat.pow_lt_pow_right (by omega) hi
    obtain ⟨vW1, who1, cl1, e1, w1, -⟩ := c_start (vW := vW') (vD := vD) (who := who') (cl := cl') hw hh hc hj hd p7
    have h82 : held c (2 ^ i) 8 ≤ 1000 := by unfold held; rw [if_neg (by omega)]; exact h8
    obtain ⟨vW2, cl2, who2, fro2, e2, w2⟩ := c_goOn (fro := fro') hw hh (held_okRow hc h3 p7) (held_inj h3 hj) h82 w1 (k := k) (by omega)
    have hm := moves_le h (held c (2 ^ i)) h3 k
    simp (disch := omega) only [fX8_worstHeld_B40, fX8_worstHeld_J93, fX8_worstHeld_J99, nlit, hh.2.2.1, nI_leI, isl_1, e1, bdS, e2, nI_add]
    rw [if_neg (by omega)]
    cases hq : whS h c k i with
    | none =>
      rw [if_pos (show orNone ((none : Option (Nat × Nat)).map (·.1)) = -nI 2 from rfl)]
      exact ⟨_, rfl, cl2, fro2, who2, aH, vW2, by rw [whS, hq]; rfl⟩
    | some bm =>
      obtain ⟨b, m⟩ := bm
      have hle := whS_le h c h3 k i b m hq
      rw [if_neg (show ¬ orNone ((some (b, m)).map (·.1)) = -nI 2 from nI_neg2 (a := b) (by omega))]
      show ∃ s', (if nI m ≤ nI _ then _ else _) = _ ∧ _
      simp (disch := omega) only [nI_leI]
      by_cases hlt : moves h (held c (2 ^ i)) k < m
      · rw [if_neg (by omega)]
        exact ⟨_, rfl, cl2, fro2, who2, aH, vW2, by rw [whS, hq]; simp only; rw [if_pos hlt]; rfl⟩
      · rw [if_pos (by omega)]
        exact ⟨_, rfl, cl2, fro2, who2, aH, vW2, by rw [whS, hq]; simp only; rw [if_neg hlt]⟩
  · rintro s ⟨cl', fro', who', aW', vW', rfl⟩
    simp (disch := omega) only [fX8_worstHeld_B40, fX8_answer, nlit, hh.2.2.1, nI_leI, bdS, exS]
    rw [if_pos (Nat.le_refl _)]
    exact ⟨_, rfl, vW', who', cl', fro', aW', rfl⟩
  · obtain ⟨e, vW', who', cl', fro', aW', hr⟩ := hr
    exact ⟨vW', who', cl', fro', aW', e.trans (congrArg some hr)⟩
theorem M_worstHeld (hx : MX h c vM r st) {k : Nat} (hk : k ≤ 60) : ∃ vM' tr', fX9_worstHeld vM r st trial (nI k) = some (worstA h c k, vM', tr') ∧ MA vM vM' (nI 0) := by
  obtain ⟨hw, hc, hj, h8, hr, hst, h14⟩ := hx
  have h3 := hw.2.2.2.2.2.1
  obtain ⟨v, ev, hma, hv⟩ := m_good vM
  have v14 : v 14 = nI 1 := by rw [hv 14 (by omega) (by omega)]; exact h14
  unfold fX9_worstHeld
  rw [ev, bdS, v14]
  simp only [nlit]
  rw [m_why_0 (by omega) rfl hk, bdS]
  simp only [↓reduceIte]
  refine Exists.elim (lp_inv (f := fX9_worstHeld_B37 r st (nI k)) (fun i s => ∃ p, s = (orNone ((whS h c k i).map (·.1)), nI (((whS h c k i).map (·.2)).getD 1000000), nI i, p, v)) (fun res => ∃ p, res = (worstA h c k, v, p)) (h 3) ?_ ?_ 5000 0 (-nI 2, nI 1000000, nI 0, trial, v) (Nat.zero_le _) ⟨trial, rfl⟩ (by omega)) (fun res hres => ?_)
  · rintro i s hi ⟨p, rfl⟩
    left
    have p7 : 2 ^ i < 2 ^ h 3 := Nat.pow_lt_pow_right (by omega) hi
    obtain ⟨tr', e⟩ := m_goneBy (vM := v) (trial := p) hw hc hj h8 hr hst p7 (k := k) (by omega)
    have hm := moves_le h (held c (2 ^ i)) h3 k
    simp (disch := omega) only [fX9_worstHeld_B37, fX9_worstHeld_J76, nlit, ok_nI, gdT, nI_clamp, hr, nI_leI, isl_1, e, bdS, nI_add]
    rw [if_neg (by omega)]
    cases hq : whS h c k i with
    | none =>
      show ∃ s', (if nI _ < nI 1000000 then _ else _) = _ ∧ _
      simp (disch := omega) only [nI_ltI]
      rw [if_pos (by omega)]
      exact ⟨_, rfl, tr', by rw [whS, hq]; rfl⟩
    | some bm =>
      obtain ⟨b, m⟩ := bm
      have hle := whS_le h c h3 k i b m hq
      show ∃ s', (if nI _ < nI m then _ else _) = _ ∧ _
      simp (disch := omega) only [nI_ltI]
      by_cases hlt : moves h (held c (2 ^ i)) k < m
      · rw [if_pos hlt]
        exact ⟨_, rfl, tr', by rw [whS, hq]; simp only; rw [if_pos hlt]; rfl⟩
      · rw [if_neg hlt]
        exact ⟨_, rfl, tr', by rw [whS, hq]; simp only; rw [if_neg hlt]⟩
  · rintro s ⟨p, rfl⟩
    simp (disch := omega) only [fX9_worstHeld_B37, nlit, ok_nI, gdT, nI_clamp, hr, nI_leI, exS]
    rw [if_pos (Nat.le_refl _)]
    exact ⟨_, rfl, p, rfl⟩
  · obtain ⟨e, p, hres⟩ := hres
    exact ⟨v, p, e.trans (congrArg some hres), hma⟩
theorem C_toWiden (hx : CX h c vH nx wd sz kd srt plc d1 d2 now) (h10w : ∀ x, x < 36 → h (16 + x) ≤ 10) :
    ∃ vW' who' cl' fro', fX8_toWiden aH aW vN vH vW vD now who kd cl srt nx fro sz wd = some ((twS h c 36).1, upd vN 6 (nI 0), vW', who', cl', fro', aH) := by
  obtain ⟨vW1, who1, cl1, e1, w1, -⟩ := c_start0 (vW := vW) (vD := vD) (who := who) (cl := cl) hx
  have hx0 := hx
  obtain ⟨hw, hh, hc, hj, h8, hd, h1, v4, hpl, hdr⟩ := hx
  have h3 := hw.2.2.2.2.2.1
  obtain ⟨vW2, cl2, who2, fro2, e2, w2⟩ := c_goOn (fro := fro) hw hh hc hj h8 w1 (k := 60) (by omega)
  unfold fX8_toWiden
  rw [c_stands_t hw.2.2.2.2.1 h1 hh.2.1, bdS, if_neg (by rw [nlit, n10]; exact id)]
  simp only [nlit]
  rw [e1, bdS]
  simp only
  rw [e2, bdS]
  simp only
  refine Exists.elim (lp_inv (f := fX8_toWiden_B47 aH vN vH vD now kd srt nx sz wd) (fun i s => ∃ cl' fro' who' vW', s = (nI (twS h c i).2, (twS h c i).1, nI i, cl', fro', who', vW')) (fun res => ∃ vW' who' cl' fro', res = ((twS h c 36).1, upd vN 6 (nI 0), vW', who', cl', fro', aH)) 36 ?_ ?_ 5000 0 (nI (moves h c 60), -nI 2, nI 0, cl2, fro2, who2, vW2) (Nat.zero_le _) ⟨cl2, fro2, who2, vW2, rfl⟩ (by omega)) (fun res hr => ?_)
  · rintro i s hi ⟨cl', fro', who', vW', rfl⟩
    left
    have hb : h (16 + i) < 1000 := hw.1 _ (by omega)
    have hwi := hh.2.2.2.2.1 i hi (by simp)
    have ewo : fX4_widthOf vH wd (nI i) = some (if h (16 + i) = 0 then nI 10 else nI (h (16 + i) - 1)) := by
      simp (disch := omega) only [fX4_widthOf, fX4_widthOf_J21, nlit, nI_ltI, nI_leI, ok_nI, gdT, nI_clamp, hwi]
      rw [if_neg (by omega), if_neg (by omega)]
    simp (disch := omega) only [fX8_toWiden_B47, fX8_toWiden_J115, fX6_widen, nlit, nI_leI, ewo, bdS, nI_add]
    rw [if_neg (by omega)]
    by_cases hz0 : h (16 + i) = 0
    · rw [if_pos hz0, if_pos rfl]
      exact ⟨_, rfl, cl', fro', who', vW', by rw [twS, if_pos hz0]⟩
    · have h10 : h (16 + i) ≤ 10 := h10w i hi
      rw [if_neg hz0, if_neg (by rw [nI_eq (by omega) (by omega)]; omega)]
      obtain ⟨vW3, who3, cl3, e3, w3, -⟩ := c_start0 (vW := vW') (vD := vD) (who := who') (cl := cl') hx0
      rw [e3, bdS]
      simp only
      obtain ⟨vW4, cl4, who4, fro4, e4, w4⟩ := c_goOn (fro := fro') (hz_wf hw hi) (hz_HC hw hh hi) (hz_row hw hc) (hz_inj hj) h8 (hz_WR hw hc w3 hi) (k := 60) (by omega)
      rw [e4, bdS]
      simp only
      have hm := moves_le (hz h i) c (by rw [hz_lo (by omega)]; exact h3) 60
      have ht2 := twS_le h c h3 i (by omega)
      simp (disch := omega) only [nI_leI, c_ten hi, bdS]
      by_cases hlt : (twS h c i).2 < moves (hz h i) c 60
      · rw [if_neg (by omega)]
        exact ⟨_, rfl, cl4, fro4, who4, vW4, by rw [twS, if_neg hz0, if_pos hlt]⟩
      · rw [if_pos (by omega)]
        exact ⟨_, rfl, cl4, fro4, who4, vW4, by rw [twS, if_neg hz0, if_neg hlt]⟩
  · rintro s ⟨cl', fro', who', vW', rfl⟩
    simp (disch := omega) only [fX8_toWiden_B47, fX8_answer, nlit, nI_leI, bdS, exS]
    rw [if_pos (Nat.le_refl _)]
    exact ⟨_, rfl, vW', who', cl', fro', rfl⟩
  · obtain ⟨e, vW', who', cl', fro', hr⟩ := hr
    exact ⟨vW', who', cl', fro', e.trans (congrArg some hr)⟩
theorem M_toWiden (hx : MX h c vM r st) : ∃ vM' tr' r', fX9_toWiden vM st trial r = some ((twS h c 36).1, vM', tr', r') ∧ MA vM vM' (nI 0) ∧ ∀ k, k < 224 → r' k = nI (h k) := by
  obtain ⟨hw, hc, hj, h8, hr, hst, h14⟩ := hx
  have h3 := hw.2.2.2.2.2.1
  obtain ⟨v, ev, hma, hv⟩ := m_good vM
  have v14 : v 14 = nI 1 := by rw [hv 14 (by omega) (by omega)]; exact h14
  obtain ⟨t1, e1⟩ := m_goneBy (vM := v) (trial := trial) hw hc hj h8 hr hst (m := 0) (Nat.two_pow_pos _) (k := 60) (by omega)
  rw [held0] at e1
  unfold fX9_toWiden
  rw [ev, bdS, if_neg (by rw [v14, nlit, n10]; exact id)]
  simp only [nlit]
  rw [e1, bdS]
  simp only
  refine Exists.elim (lp_inv (f := fX9_toWiden_B30 st) (fun i s => ∃ r' p, s = ((twS h c i).1, nI (twS h c i).2, nI i, r', p, v) ∧ ∀ k, k < 224 → r' k = nI (h k)) (fun res => ∃ p r', res = ((twS h c 36).1, v, p, r') ∧ ∀ k, k < 224 → r' k = nI (h k)) 36 ?_ ?_ 5000 0 (-nI 2, nI (moves h c 60), nI 0, r, t1, v) (Nat.zero_le _) ⟨r, t1, rfl, hr⟩ (by omega)) (fun res hres => ?_)
  · rintro i s hi ⟨r', p, rfl, hr'⟩
    left
    have hb : h (16 + i) < 1000 := hw.1 _ (by omega)
    simp (disch := omega) only [fX9_toWiden_B30, fX9_toWiden_J102, nlit, nI_leI, nI_add, ok_nI, gdT, nI_clamp, hr', nI_eq]
    rw [if_neg (by omega)]
    by_cases hz0 : h (16 + i) = 0
    · rw [if_pos hz0]
      exact ⟨_, rfl, r', p, by rw [twS, if_pos hz0], hr'⟩
    · rw [if_neg hz0]
      have hrz : ∀ k, k < 224 → upd r' (16 + i) (nI 0) k = nI (hz h i k) := by
        intro k hk
        unfold upd hz
        by_cases e : k = 16 + i
        · rw [if_pos e, if_pos e]
        · rw [if_neg e, if_neg e]; exact hr' k hk
      obtain ⟨t2, e2⟩ := m_goneBy (vM := v) (trial := p) (hz_wf hw hi) (hz_row hw hc) (hz_inj hj) h8 hrz hst (m := 0) (Nat.two_pow_pos _) (k := 60) (by omega)
      rw [held0] at e2
      rw [e2, bdS]
      simp only
      have hm := moves_le (hz h i) c (by rw [hz_lo (by omega)]; exact h3) 60
      have ht2 := twS_le h c h3 i (by omega)
      have hback : ∀ k, k < 224 → upd (upd r' (16 + i) (nI 0)) (16 + i) (nI (h (16 + i))) k = nI (h k) := by
        intro k hk
        unfold upd
        by_cases e : k = 16 + i
        · rw [if_pos e, e]
        · rw [if_neg e, if_neg e]; exact hr' k hk
      simp (disch := omega) only [nI_ltI, m_ten hi, bdS]
      by_cases hlt : (twS h c i).2 < moves (hz h i) c 60
      · rw [if_pos hlt]
        exact ⟨_, rfl, _, t2, by rw [twS, if_neg hz0, if_pos hlt], hback⟩
      · rw [if_neg hlt]
        exact ⟨_, rfl, _, t2, by rw [twS, if_neg hz0, if_neg hlt], hback⟩
  · rintro s ⟨r', p, rfl, hr'⟩
    simp (disch := omega) only [fX9_toWiden_B30, nlit, nI_leI, exS]
    rw [if_pos (Nat.le_refl _)]
    exact ⟨_, rfl, p, r', rfl, hr'⟩
  · obtain ⟨e, p, r', hres, hr'⟩ := hres
    exact ⟨v, p, r', e.trans (congrArg some hres), hma, hr'⟩
end QH
