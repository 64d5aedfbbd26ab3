/-! MATH 25: wants: what is paid -/
def wt (h : Nat → Nat) (w : Nat) : Nat := h (83 + 4 * w)
def wc (h : Nat → Nat) (w : Nat) : Nat := h (83 + 4 * w + 1)
def wn (h : Nat → Nat) (w : Nat) : Nat := h (83 + 4 * w + 2)
def wp (h : Nat → Nat) (w : Nat) : Nat := h (83 + 4 * w + 3)
def WFw (h : Nat → Nat) : Prop := ∀ w, w < h 6 → wt h w < h 3 ∧ okc h (wc h w) ∧ wn h w ≤ 60 ∧ wp h w ≤ 99
/-- the class's wants -/
def CW (h : Nat → Nat) (vU ut uc un uw : Nat → Int32) : Prop := vU 0 = nI (h 6) ∧ ∀ w, w < h 6 → ut w = nI (wt h w) ∧ uc w = nI (wc h w) ∧ un w = nI (wn h w) ∧ uw w = nI (wp h w)
/-- a want is kept within n nights, if those of S are held -/
def kb (h c : Nat → Nat) (n S w : Nat) : Bool := decide (c 8 < wn h w) && decide (wn h w ≤ c 8 + n) && nights h (held c S) (wn h w - c 8) (wt h w) == wc h w
def wsum (h : Nat → Nat) (p : Nat → Bool) : Nat → Nat
  | 0 => 0
  | w + 1 => wsum h p w + if p w then wp h w else 0
theorem wsum_le (h : Nat → Nat) (p : Nat → Bool) (n : Nat) (hb : ∀ w, w < n → wp h w ≤ 99) : wsum h p n ≤ 99 * n := by
  induction n with
  | zero => exact Nat.le_refl _
  | succ n ih =>
    rw [wsum]
    have := ih (fun w hw => hb w (by omega))
    have := hb n (by omega)
    split <;> omega
theorem wsum_ext {h : Nat → Nat} {p q : Nat → Bool} {n : Nat} (e : ∀ w, w < n → p w = q w) : wsum h p n = wsum h q n := by
  induction n with
  | zero => rfl
  | succ n ih => rw [wsum, wsum, ih (fun w hw => e w (by omega)), e n (by omega)]
theorem wsum_mono {h : Nat → Nat} {p q : Nat → Bool} {n : Nat} (e : ∀ w, w < n → p w = true → q w = true) : wsum h p n ≤ wsum h q n := by
  induction n with
  | zero => exact Nat.le_refl _
  | succ n ih =>
    rw [wsum, wsum]
    have := ih (fun w hw => e w (by omega))
    cases hp : p n with
    | false => simp only [Bool.false_eq_true, if_false]; omega
    | true => rw [e n (by omega) hp]; simp only [if_true]; omega
def reach (h c : Nat → Nat) (n w : Nat) : Bool := decide (c 8 < wn h w) && decide (wn h w ≤ c 8 + n) && (c (wt h w) / 9 == wc h w / 9)
def mx (h : Nat → Nat) (X : Nat → Bool) : Nat → Nat
  | 0 => 0
  | w + 1 => if X w then (if mx h X w < wn h w then wn h w else mx h X w) else mx h X w
theorem mx_le {h : Nat → Nat} {X : Nat → Bool} {n : Nat} (hb : ∀ w, w < n → wn h w ≤ 60) : mx h X n ≤ 60 := by
  induction n with
  | zero => exact Nat.zero_le _
  | succ n ih =>
    rw [mx]
    have := ih (fun w hw => hb w (by omega))
    have := hb n (by omega)
    split
    · split <;> omega
    · omega
theorem mx_ge {h : Nat → Nat} {X : Nat → Bool} {n : Nat} : ∀ w, w < n → X w = true → wn h w ≤ mx h X n := by
  induction n with
  | zero => intro w hw; omega
  | succ n ih =>
    intro w hw hX
    rw [mx]
    rcases Nat.lt_or_ge w n with q | q
    · have := ih w q hX
      split
      · split <;> omega
      · omega
    · obtain rfl : w = n := by omega
      rw [if_pos hX]
      split <;> omega
section WA
variable {h c : Nat → Nat} {vH nx wd sz kd srt plc d1 d2 vD now vN vW cl who fro vG vU ut uc un uw vM r st trial : Nat → Int32} {aH aW : Nat} {x0 : Option Nat}
theorem kb_ring (hw : WFh h) (hww : WFw h) (hc : okRow h c) (hj : injC h c) (h8 : c 8 ≤ 1000) {n S w : Nat} (hw6 : w < h 6) (hS : S < 2 ^ h 3) (hk : kb h c n S w = true) : reach h c n w = true := by
  have h3 := hw.2.2.2.2.2.1
  obtain ⟨a1, a2, a3, a4⟩ := hww w hw6
  have hk' : (c 8 < wn h w ∧ wn h w ≤ c 8 + n) ∧ nights h (held c S) (wn h w - c 8) (wt h w) = wc h w := by simpa [kb] using hk
  obtain ⟨⟨k1, k2⟩, k3⟩ := hk'
  have e8 : held c S 8 ≤ 1000 := by unfold held; rw [if_neg (by omega)]; exact h8
  have := nts_ring hw (held_okRow hc h3 hS) (held_inj h3 hj) e8 a1 (wn h w - c 8) (by omega)
  rw [k3, held_in h3 a1] at this
  simp [reach, k1, k2, this]
theorem c_withinReach (hw : WFh h) (hww : WFw h) (hcw : CW h vU ut uc un uw) (hc : okRow h c) (h8 : c 8 ≤ 1000) (hd : DR h c now) {n : Nat} (hn : n ≤ 60) : fX7_withinReach vU un vD now ut uc (nI n) = some (nI (bm (reach h c n) (h 6))) := by
  have h3 := hw.2.2.2.2.2.1
  have h6 := hw.2.2.2.2.2.2.2.1
  obtain ⟨u0, uu⟩ := hcw
  unfold fX7_withinReach
  simp only [nlit]
  refine lp_for (fun i => (nI (bm (reach h c n) i), nI i)) (h 6) ?_ ?_ (by omega) rfl
  · intro i hi
    obtain ⟨a1, a2, a3, a4⟩ := hww i hi
    obtain ⟨b1, b2, b3, b4⟩ := uu i hi
    have c36 := okc_lt hw a2
    have t36 := okc_lt hw (hc.1 _ a1)
    have e : bm (reach h c n) (i + 1) = bm (reach h c n) i ||| (if reach h c n i then 2 ^ i else 0) := rfl
    have er : reach h c n i = (decide (c 8 < wn h i) && decide (wn h i ≤ c 8 + n) && (c (wt h i) / 9 == wc h i / 9)) := rfl
    have en : fX1_nightNow vD now = some (nI (c 8)) := by
      simp (disch := omega) only [fX1_nightNow, nlit, ok_nI, gdT, nI_clamp, hd.2.2]
    simp (disch := omega) only [fX7_withinReach_B5, fX7_withinReach_J55, fX7_withinReach_J56, fX7_withinReach_J97, u0, nlit, nI_leI, nI_ltI, ok_nI, gdT, nI_clamp, b1, b2, b3, en, bdS, nI_add, c_dcell hw hd a1, c_ring, nI_eq, isl_1, nI_or, n10, if_false, if_true]
    rw [if_neg (by omega), if_neg (by omega), e, er]
    by_cases k1 : c 8 < wn h i
    · rw [if_neg (by omega)]
      by_cases k2 : wn h i ≤ c 8 + n
      · rw [if_neg (by omega)]
        by_cases k3 : c (wt h i) / 9 = wc h i / 9
        · rw [if_pos k3]; simp [k1, k2, k3]
        · rw [if_neg k3]; simp [k3]
      · rw [if_pos (by omega)]; simp [k2]
    · rw [if_pos (by omega)]; simp [k1]
  · simp (disch := omega) only [fX7_withinReach_B5, fX7_withinReach_J103, u0, nI_leI, exS]
    rw [if_pos (Nat.le_refl _)]
theorem c_ofRing (hw : WFh h) (hww : WFw h) (hcw : CW h vU ut uc un uw) (X : Nat → Bool) {g : Nat} (hg : g < 4) : fX7_ofRing vU uc (nI (bm X (h 6))) (nI g) = some (nI (bm (fun w => X w && wc h w / 9 == g) (h 6))) := by
  have h6 := hw.2.2.2.2.2.2.2.1
  obtain ⟨u0, uu⟩ := hcw
  have hb : bm X (h 6) < 2 ^ 31 := Nat.lt_of_lt_of_le (bm_lt _ _) (Nat.pow_le_pow_right (by omega) (by omega))
  unfold fX7_ofRing
  simp only [nlit]
  refine lp_for (fun i => (nI (bm (fun w => X w && wc h w / 9 == g) i), nI i)) (h 6) ?_ ?_ (by omega) rfl
  · intro i hi
    obtain ⟨a1, a2, a3, a4⟩ := hww i hi
    obtain ⟨b1, b2, b3, b4⟩ := uu i hi
    have c36 := okc_lt hw a2
    have e : bm (fun w => X w && wc h w / 9 == g) (i + 1) = bm (fun w => X w && wc h w / 9 == g) i ||| (if (X i && wc h i / 9 == g) = true then 2 ^ i else 0) := rfl
    simp (disch := omega) only [fX7_ofRing_B5, fX7_ofRing_J51, u0, nlit, nI_leI, bit_nI hb, bm_bit, hi, decide_true, Bool.true_and, ok_nI, gdT, nI_clamp, b2, c_ring, bdS, nI_eq, isl_1, nI_or, nI_add]
    rw [if_neg (by omega), if_neg (by omega), e]
    cases X i with
    | false => simp
    | true =>
      by_cases q : wc h i / 9 = g
      · simp [q, n10]
      · simp [q, n10]
  · simp (disch := omega) only [fX7_ofRing_B5, fX7_ofRing_J57, u0, nI_leI, exS]
    rw [if_pos (Nat.le_refl _)]
theorem c_worthOf (hw : WFh h) (hww : WFw h) (hcw : CW h vU ut uc un uw) (X : Nat → Bool) : fX7_worthOf vU uw (nI (bm X (h 6))) = some (nI (wsum h X (h 6))) := by
  have h6 := hw.2.2.2.2.2.2.2.1
  obtain ⟨u0, uu⟩ := hcw
  have hb : bm X (h 6) < 2 ^ 31 := Nat.lt_of_lt_of_le (bm_lt _ _) (Nat.pow_le_pow_right (by omega) (by omega))
  unfold fX7_worthOf
  simp only [nlit]
  refine lp_for (fun i => (nI (wsum h X i), nI i)) (h 6) ?_ ?_ (by omega) rfl
  · intro i hi
    obtain ⟨b1, b2, b3, b4⟩ := uu i hi
    simp (disch := omega) only [fX7_worthOf_B4, fX7_worthOf_J35, u0, nlit, nI_leI, bit_nI hb, bm_bit, hi, decide_true, Bool.true_and, ok_nI, gdT, nI_clamp, b4, nI_add]
    rw [if_neg (by omega), if_neg (by omega), wsum]
    cases X i with
    | false => simp
    | true => simp [n10]
  · simp (disch := omega) only [fX7_worthOf_B4, fX7_worthOf_J41, u0, nI_leI, exS]
    rw [if_pos (Nat.le_refl _)]
theorem c_lastNight (hw : WFh h) (hww : WFw h) (hcw : CW h vU ut uc un uw) (X : Nat → Bool) : fX7_lastNightOf vU un (nI (bm X (h 6))) = some (nI (mx h X (h 6))) := by
  have h6 := hw.2.2.2.2.2.2.2.1
  obtain ⟨u0, uu⟩ := hcw
  have hb : bm X (h 6) < 2 ^ 31 := Nat.lt_of_lt_of_le (bm_lt _ _) (Nat.pow_le_pow_right (by omega) (by omega))
  unfold fX7_lastNightOf
  simp only [nlit]
  refine lp_for (fun i => (nI (mx h X i), nI i)) (h 6) ?_ ?_ (by omega) rfl
  · intro i hi
    obtain ⟨b1, b2, b3, b4⟩ := uu i hi
    obtain ⟨a1, a2, a3, a4⟩ := hww i hi
    have hm : mx h X i ≤ 60 := mx_le (fun w hw => (hww w (by omega)).2.2.1)
    simp (disch := omega) only [fX7_lastNightOf_B4, fX7_lastNightOf_J37, u0, nlit, nI_leI, nI_ltI, bit_nI hb, bm_bit, hi, decide_true, Bool.true_and, ok_nI, gdT, nI_clamp, b3, nI_add]
    rw [if_neg (by omega), if_neg (by omega), mx]
    cases X i with
    | false => simp
    | true =>
      simp only [if_true, n10, if_false]
      by_cases q : mx h X i < wn h i
      · rw [if_pos q, if_pos q]
      · rw [if_neg q, if_neg q]
  · simp (disch := omega) only [fX7_lastNightOf_B4, fX7_lastNightOf_J43, u0, nI_leI, exS]
    rw [if_pos (Nat.le_refl _)]
/-- wants of this night -/
def pn (h c : Nat → Nat) (w : Nat) : Bool := wn h w == c 8 && c (wt h w) == wc h w
theorem c_paidBy (hw : WFh h) (hww : WFw h) (hcw : CW h vU ut uc un uw) (hc : okRow h c) (hwr : WR h c vW cl who x0) : fX7_paidBy vU un vW ut cl uc = some (nI (bm (pn h c) (h 6))) := by
  have h3 := hw.2.2.2.2.2.1
  have h6 := hw.2.2.2.2.2.2.2.1
  have h8 := hc.2.2
  obtain ⟨u0, uu⟩ := hcw
  unfold fX7_paidBy
  simp only [nlit]
  refine lp_for (fun i => (nI (bm (pn h c) i), nI i)) (h 6) ?_ ?_ (by omega) rfl
  · intro i hi
    obtain ⟨b1, b2, b3, b4⟩ := uu i hi
    obtain ⟨a1, a2, a3, a4⟩ := hww i hi
    have c36 := okc_lt hw a2
    have t36 := okc_lt hw (hc.1 _ a1)
    have e : bm (pn h c) (i + 1) = bm (pn h c) i ||| (if (wn h i == c 8 && c (wt h i) == wc h i) = true then 2 ^ i else 0) := rfl
    simp (disch := omega) only [fX7_paidBy_B4, fX7_paidBy_J56, fX6_nightNow, u0, nlit, nI_leI, ok_nI, gdT, nI_clamp, b1, b2, b3, hwr.2.2.1, bdS, nI_eq, c_wcell h3 hwr a1, isl_1, nI_or, nI_add]
    rw [if_neg (by omega), if_neg (by omega), e]
    by_cases q1 : wn h i = c 8
    · rw [if_pos q1]
      by_cases q2 : c (wt h i) = wc h i
      · rw [if_pos q2]; simp [q1, q2]
      · rw [if_neg q2]; simp [q2]
    · rw [if_neg q1]; simp [q1]
  · simp (disch := omega) only [fX7_paidBy_B4, fX7_paidBy_J62, u0, nI_leI, exS]
    rw [if_pos (Nat.le_refl _)]
theorem kb_s {n S : Nat} (hn : h 3 ≤ 7) (e8 : nights h (held c S) (n + 1) 8 = c 8 + (n + 1)) (w : Nat) : kb h c (n + 1) S w = (kb h c n S w || pn h (nights h (held c S) (n + 1)) w) := by
  unfold kb pn
  rw [e8]
  by_cases q : wn h w = c 8 + (n + 1)
  · have q1 : ¬ wn h w ≤ c 8 + n := by omega
    have q2 : wn h w ≤ c 8 + (n + 1) := by omega
    have q3 : c 8 < wn h w := by omega
    have q4 : wn h w - c 8 = n + 1 := by omega
    simp [q, q4]
  · have q2 : (wn h w ≤ c 8 + (n + 1)) ↔ (wn h w ≤ c 8 + n) := by omega
    simp [q, q2]
theorem kb_0 (S w : Nat) : kb h c 0 S w = false := by
  unfold kb
  by_cases q : c 8 < wn h w
  · have : ¬ wn h w ≤ c 8 := by omega
    simp [this]
  · simp [q]
/-- what a run pays of the wants X, all within reach -/
theorem c_paidOf (hw : WFh h) (hww : WFw h) (hcw : CW h vU ut uc un uw) (hh : HC h vH nx wd sz kd srt none) (hc : okRow h c) (hj : injC h c) (h8 : c 8 ≤ 1000) (hd : DR h c now) {n S : Nat} (hn : n ≤ 60) (hS : S < 2 ^ h 3) (X : Nat → Bool) (hX : ∀ w, w < h 6 → X w = true → reach h c n w = true) :
    ∃ vW' who' cl' fro', fX3_paidOf vH vU un vG vW vD now who kd cl srt nx fro sz wd ut uc (nI (bm X (h 6))) (nI S) = some (nI (bm (fun w => X w && kb h c n S w) (h 6)), vW', who', cl', fro') := by
  have h3 := hw.2.2.2.2.2.1
  have h6 := hw.2.2.2.2.2.2.2.1
  have e8 : held c S 8 ≤ 1000 := by unfold held; rw [if_neg (by omega)]; exact h8
  have e8' : held c S 8 = c 8 := by unfold held; rw [if_neg (by omega)]
  have o2 := held_okRow hc h3 hS
  have j2 := held_inj (m := S) h3 hj
  obtain ⟨vW1, who1, cl1, e1, w1, -⟩ := c_start (vW := vW) (vD := vD) (who := who) (cl := cl) hw hh hc hj hd hS
  have hmx : mx h X (h 6) ≤ 60 := mx_le (fun w hw => (hww w (by omega)).2.2.1)
  unfold fX3_paidOf
  rw [c_lastNight hw hww hcw X, bdS, e1, bdS]
  simp only [nlit]
  generalize hL : (if mx h X (h 6) - c 8 ≤ 60 then mx h X (h 6) - c 8 else 60) = L
  have hL1 : L ≤ 60 := by rw [← hL]; split <;> omega
  refine Exists.elim (lp_inv (f := fX3_paidOf_B27 vH vU un kd nx sz wd ut uc (nI (bm X (h 6)))) (fun i s => ∃ cl' fro' who' vW', s = (nI (mx h X (h 6)), nI (bm (kb h c i S) (h 6)), nI i, cl', fro', who', vW') ∧ WR h (nights h (held c S) i) vW' cl' who' none) (fun res => ∃ vW' who' cl' fro', res = (nI (bm (kb h c L S) (h 6)) &&& nI (bm X (h 6)), vW', who', cl', fro')) L ?_ ?_ 5000 0 (nI (mx h X (h 6)), nI 0, nI 0, cl1, fro, who1, vW1) (Nat.zero_le _) ⟨cl1, fro, who1, vW1, by rw [bm_0 (fun w _ => kb_0 S w)], w1⟩ (by omega)) (fun res hr => ?_)
  · rintro i s hi ⟨cl', fro', who', vW', rfl, q⟩
    left
    obtain ⟨a1, a2, a3, a4⟩ := nts hw o2 j2 e8 i (by omega)
    obtain ⟨b1, b2, b3, b4⟩ := nts hw o2 j2 e8 (i + 1) (by omega)
    obtain ⟨vW2, cl2, who2, fro2, e, q1, q2, -, -⟩ := c_pass0 (fro := fro') hw hh a1 a2 q
    have q1 : WR h (nights h (held c S) (i + 1)) vW2 cl2 who2 none := q1
    have hlt : ¬ mx h X (h 6) ≤ nights h (held c S) i 8 := by
      rw [a3, e8']
      split at hL <;> omega
    simp (disch := omega) only [fX3_paidOf_B27, fX6_nightNow, nlit, nI_leI, q.2.2.1, bdS, e, c_paidBy hw hww hcw b1 q1, nI_or, bm_or, nI_add]
    rw [if_neg (by omega), if_neg hlt]
    refine ⟨_, rfl, cl2, fro2, who2, vW2, ?_, q1⟩
    rw [bm_ext (fun w _ => kb_s (c := c) (S := S) h3 (by rw [b3, e8']) w)]
  · rintro s ⟨cl', fro', who', vW', rfl, q⟩
    obtain ⟨a1, a2, a3, a4⟩ := nts hw o2 j2 e8 L (by omega)
    simp (disch := omega) only [fX3_paidOf_B27, fX3_paidOf_J76, fX6_nightNow, nlit, nI_leI, q.2.2.1, bdS, exS]
    by_cases h60 : 60 ≤ L
    · rw [if_pos h60]
      exact ⟨_, rfl, vW', who', cl', fro', rfl⟩
    · rw [if_neg h60, if_pos (by rw [a3, e8']; split at hL <;> omega)]
      exact ⟨_, rfl, vW', who', cl', fro', rfl⟩
  · obtain ⟨e, vW', who', cl', fro', hr⟩ := hr
    refine ⟨vW', who', cl', fro', e.trans (congrArg some ?_)⟩
    rw [hr, nI_and]
    congr 2
    apply Nat.eq_of_testBit_eq
    intro w
    rw [Nat.testBit_and, bm_bit, bm_bit, bm_bit]
    by_cases hw6 : w < h 6
    · simp only [hw6, decide_true, Bool.true_and]
      cases hXw : X w with
      | false => simp
      | true =>
        simp only [Bool.and_true, Bool.true_and]
        have hr := hX w hw6 hXw
        have hge := mx_ge (h := h) (X := X) w hw6 hXw
        have hr' : (c 8 < wn h w ∧ wn h w ≤ c 8 + n) ∧ c (wt h w) / 9 = wc h w / 9 := by simpa [reach] using hr
        unfold kb
        have k2 : wn h w ≤ c 8 + L := by split at hL <;> omega
        simp [k2, hr'.1.2]
    · simp [hw6]
theorem c_paidWithin (hw : WFh h) (hww : WFw h) (hcw : CW h vU ut uc un uw) (hh : HC h vH nx wd sz kd srt none) (hc : okRow h c) (hj : injC h c) (h8 : c 8 ≤ 1000) (hd : DR h c now) {n S : Nat} (hn : n ≤ 60) (hS : S < 2 ^ h 3) :
    ∃ vW' who' cl' fro', fX3_paidWithin vH vU un vD now ut uc vG vW who kd cl srt nx fro sz wd (nI S) (nI n) = some (nI (bm (kb h c n S) (h 6)), vW', who', cl', fro') := by
  obtain ⟨vW', who', cl', fro', e⟩ := c_paidOf (vG := vG) (vW := vW) (vD := vD) (who := who) (cl := cl) (fro := fro) hw hww hcw hh hc hj h8 hd hn hS (reach h c n) (fun w _ e => e)
  refine ⟨vW', who', cl', fro', ?_⟩
  unfold fX3_paidWithin
  rw [c_withinReach hw hww hcw hc h8 hd hn, bdS, e, bdS]
  show some _ = some _
  congr 2
  rw [bm_ext (fun w hw6 => ?_)]
  cases hk : kb h c n S w with
  | false => rw [Bool.and_false]
  | true => rw [kb_ring hw hww hc hj h8 hw6 hS hk]; rfl
theorem m_keptBy (hw : WFh h) (hww : WFw h) (hc : okRow h c) (hj : injC h c) (h8 : c 8 ≤ 1000) (hr : ∀ k, k < 224 → r k = nI (h k)) (hst : ∀ k, k < 9 → st k = nI (c k)) {n S : Nat} (hn : n ≤ 60) (hS : S < 2 ^ h 3) :
    ∃ tr', fX9_keptBy vM st trial r (nI S) (nI n) = some (nI (bm (kb h c n S) (h 6)), tr') := by
  have h3 := hw.2.2.2.2.2.1
  have h6 := hw.2.2.2.2.2.2.2.1
  obtain ⟨t0, e0, ht0⟩ := m_begin (vM := vM) (trial := trial) hst
  obtain ⟨o2, j2, e8⟩ := m_heldRun hw hc hj h8 (k := n) hS
  have e8' : held c S 8 = c 8 := by unfold held; rw [if_neg (by omega)]
  unfold fX9_keptBy
  rw [e0, bdS]
  simp (disch := omega) only [nlit, ok_nI, gdT, nI_clamp, ht0, nI_or]
  refine Exists.elim (lp_inv (f := fX9_keptBy_B20 vM r (nI n)) (fun i s => ∃ p, s = (nI (bm (kb h c i S) (h 6)), nI i, p) ∧ ∀ j, j < 9 → p j = nI (nights h (held c S) i j)) (fun res => ∃ p, res = (nI (bm (kb h c n S) (h 6)), p)) n ?_ ?_ 5000 0 (nI 0, nI 0, upd t0 7 (nI (c 7 ||| S))) (Nat.zero_le _) ⟨_, by rw [bm_0 (fun w _ => kb_0 S w)], m_heldRow ht0 S⟩ (by omega)) (fun res hres => ?_)
  · rintro i s hi ⟨p, rfl, hp⟩
    left
    obtain ⟨a1, a2, a3, a4⟩ := nts hw o2 j2 e8 i (by omega)
    obtain ⟨b1, b2, b3, b4⟩ := nts hw o2 j2 e8 (i + 1) (by omega)
    obtain ⟨p', e, hp'⟩ := m_nightOf (vM := vM) hw hr hp a1
    have hp' : ∀ j, j < 9 → p' j = nI (nights h (held c S) (i + 1) j) := hp'
    simp (disch := omega) only [fX9_keptBy_B20, nlit, nI_leI, e, bdS]
    rw [if_neg (by omega)]
    have lpe : lp (fX9_keptBy_B38 r (nI i)) 5000 (nI (bm (kb h c i S) (h 6)), nI 0, p') = some (.inr (nI (bm (kb h c (i + 1) S) (h 6)), nI (i + 1), p')) := by
      refine lp_for (fun w => (nI (bm (kb h c i S) (h 6) ||| bm (pn h (nights h (held c S) (i + 1))) w), nI w, p')) (h 6) ?_ ?_ (by omega) ?_
      · intro w hw6
        obtain ⟨a1, a2, a3, a4⟩ := hww w hw6
        have c36 := okc_lt hw a2
        have t36 := okc_lt hw (b1.1 _ a1)
        have n8 := b1.2.2
        have et : h (83 + 4 * w) = wt h w := rfl
        have ec : h (83 + 4 * w + 1) = wc h w := rfl
        have en : h (83 + 4 * w + 2) = wn h w := rfl
        have e : bm (pn h (nights h (held c S) (i + 1))) (w + 1) = bm (pn h (nights h (held c S) (i + 1))) w ||| (if (wn h w == nights h (held c S) (i + 1) 8 && nights h (held c S) (i + 1) (wt h w) == wc h w) = true then 2 ^ w else 0) := rfl
        simp (disch := omega) only [fX9_keptBy_B38, fX9_keptBy_J117, fX9_keptBy_J116, nlit, pk_mul, nI_add, ok_nI, gdT, nI_clamp, hr, nI_leI, hp', et, ec, en, nI_eq, isl_1, nI_or]
        rw [if_neg (by omega), e]
        by_cases q1 : wn h w = nights h (held c S) (i + 1) 8
        · rw [if_pos q1]
          by_cases q2 : nights h (held c S) (i + 1) (wt h w) = wc h w
          · rw [if_pos q2]; simp [q1, q2, Nat.or_assoc]
          · rw [if_neg q2]; simp [q2]
        · rw [if_neg q1]; simp [q1]
      · simp (disch := omega) only [fX9_keptBy_B38, nlit, ok_nI, gdT, nI_clamp, hr, nI_leI, exS, nI_add]
        rw [if_pos (Nat.le_refl _), bm_or, bm_ext (fun w _ => kb_s (c := c) (S := S) (n := i) h3 (by rw [b3, e8']) w)]
      · show _ = (nI (bm (kb h c i S) (h 6) ||| 0), nI 0, p')
        rw [Nat.or_zero]
    rw [lpe]
    exact ⟨_, rfl, p', rfl, hp'⟩
  · rintro s ⟨p, rfl, hp⟩
    simp (disch := omega) only [fX9_keptBy_B20, nlit, nI_leI, exS]
    rw [if_pos (Nat.le_refl _)]
    exact ⟨_, rfl, p, rfl⟩
  · obtain ⟨e, p, hres⟩ := hres
    exact ⟨p, e.trans (congrArg some hres)⟩
theorem m_payOf (hw : WFh h) (hr : ∀ k, k < 224 → r k = nI (h k)) (X : Nat → Bool) : fX9_payOf vM r (nI (bm X (h 6))) = some (nI (wsum h X (h 6))) := by
  have h6 := hw.2.2.2.2.2.2.2.1
  have hb : bm X (h 6) < 2 ^ 31 := Nat.lt_of_lt_of_le (bm_lt _ _) (Nat.pow_le_pow_right (by omega) (by omega))
  unfold fX9_payOf
  simp only [nlit]
  refine lp_for (fun i => (nI (wsum h X i), nI i)) (h 6) ?_ ?_ (by omega) rfl
  · intro i hi
    have ep : h (83 + 4 * i + 3) = wp h i := rfl
    simp (disch := omega) only [fX9_payOf_B4, fX9_payOf_J41, nlit, ok_nI, gdT, nI_clamp, hr, nI_leI, m_hasBit hb, bm_bit, hi, decide_true, Bool.true_and, bdS, pk_mul, nI_add, ep]
    rw [if_neg (by omega), wsum]
    cases X i with
    | false => simp
    | true => simp [n10]
  · simp (disch := omega) only [fX9_payOf_B4, nlit, ok_nI, gdT, nI_clamp, hr, nI_leI, exS]
    rw [if_pos (Nat.le_refl _)]
theorem c_whyNoWants_t (h2 : h 2 ≤ 4) (h1 : 1 ≤ h 2) (v2 : vH 2 = nI (h 2)) {n : Nat} (hn : n ≤ 60) : fX8_whyNoWants vN vH (nI n) = some (nI 0) := by
  unfold fX8_whyNoWants fX8_whyNoWants_J27
  rw [c_stands_t h2 h1 v2, bdS, if_neg (by rw [nlit, n10]; exact id)]
  simp (disch := omega) only [nlit, nI_ltI, nI_leI]
  rw [if_neg (by omega), if_pos hn]
theorem C_pays (hx : CX h c vH nx wd sz kd srt plc d1 d2 now) (hww : WFw h) (hcw : CW h vU ut uc un uw) {n : Nat} (hn : n ≤ 60) :
    ∃ vW' who' cl' fro', fX8_pays aH aW vN vH vU un vD now ut uc vG vW who kd cl srt nx fro sz wd uw (nI n) = some (nI (wsum h (kb h c n 0) (h 6)), upd vN 6 (nI 0), vW', who', cl', fro', aH) := by
  obtain ⟨hw, hh, hc, hj, h8, hd, h1, v4, hpl, hdr⟩ := hx
  obtain ⟨vW', who', cl', fro', e⟩ := c_paidWithin (vG := vG) (vW := vW) (vD := vD) (who := who) (cl := cl) (fro := fro) hw hww hcw hh hc hj h8 hd hn (S := 0) (Nat.two_pow_pos _)
  refine ⟨vW', who', cl', fro', ?_⟩
  unfold fX8_pays
  rw [c_whyNoWants_t hw.2.2.2.2.1 h1 hh.2.1 hn, bdS]
  simp only [nlit, ↓reduceIte]
  rw [e, bdS]
  simp only
  rw [c_worthOf hw hww hcw, bdS]
  rfl
theorem M_pays (hx : MX h c vM r st) (hww : WFw h) {n : Nat} (hn : n ≤ 60) : ∃ vM' tr', fX9_pays vM st trial r (nI n) = some (nI (wsum h (kb h c n 0) (h 6)), vM', tr') ∧ MA vM vM' (nI 0) := by
  obtain ⟨hw, hc, hj, h8, hr, hst, h14⟩ := hx
  obtain ⟨v, ev, hma, hv⟩ := m_good vM
  have v14 : v 14 = nI 1 := by rw [hv 14 (by omega) (by omega)]; exact h14
  obtain ⟨tr', e⟩ := m_keptBy (vM := v) (trial := trial) hw hww hc hj h8 hr hst hn (S := 0) (Nat.two_pow_pos _)
  refine ⟨v, tr', ?_, hma⟩
  unfold fX9_pays
  rw [ev, bdS, v14]
  simp only [nlit]
  rw [m_why_0 (by omega) rfl hn, bdS]
  simp only [↓reduceIte]
  rw [e, bdS]
  simp only
  rw [m_payOf hw hr, bdS]
  rfl
theorem C_kept (hx : CX h c vH nx wd sz kd srt plc d1 d2 now) (hww : WFw h) (hcw : CW h vU ut uc un uw) :
    ∃ vW' who' cl' fro', fX8_kept aH aW vN vH vU un vD now ut uc vG vW who kd cl srt nx fro sz wd = some (nI (bm (kb h c 60 0) (h 6)), upd vN 6 (nI 0), vW', who', cl', fro', aH) := by
  obtain ⟨hw, hh, hc, hj, h8, hd, h1, v4, hpl, hdr⟩ := hx
  obtain ⟨vW', who', cl', fro', e⟩ := c_paidWithin (vG := vG) (vW := vW) (vD := vD) (who := who) (cl := cl) (fro := fro) hw hww hcw hh hc hj h8 hd (Nat.le_refl 60) (S := 0) (Nat.two_pow_pos _)
  refine ⟨vW', who', cl', fro', ?_⟩
  unfold fX8_kept
  rw [c_stands_t hw.2.2.2.2.1 h1 hh.2.1, bdS, if_neg (by rw [nlit, n10]; exact id)]
  simp only [nlit]
  rw [e, bdS]
  rfl
theorem M_kept (hx : MX h c vM r st) (hww : WFw h) : ∃ vM' tr', fX9_kept vM st trial r = some (nI (bm (kb h c 60 0) (h 6)), vM', tr') ∧ MA vM vM' (nI 0) := by
  obtain ⟨hw, hc, hj, h8, hr, hst, h14⟩ := hx
  obtain ⟨v, ev, hma, hv⟩ := m_good vM
  have v14 : v 14 = nI 1 := by rw [hv 14 (by omega) (by omega)]; exact h14
  obtain ⟨tr', e⟩ := m_keptBy (vM := v) (trial := trial) hw hww hc hj h8 hr hst (Nat.le_refl 60) (S := 0) (Nat.two_pow_pos _)
  refine ⟨v, tr', ?_, hma⟩
  unfold fX9_kept
  rw [ev, bdS, if_neg (by rw [v14, nlit, n10]; exact id)]
  simp only [nlit]
  rw [e, bdS]
  rfl
end WA
