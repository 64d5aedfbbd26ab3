/-! led on both sides -/
theorem lpR {σ ρ : Type} {f : σ → Option (ρ ⊕ σ)} {n : Nat} {s s' : σ} (h : f s = some (.inr s')) : lp f (n + 1) s = lp f n s' := by rw [lp, h]
theorem lpL {σ ρ : Type} {f : σ → Option (ρ ⊕ σ)} {n : Nat} {s : σ} {r : ρ} (h : f s = some (.inl r)) : lp f (n + 1) s = some r := by rw [lp, h]
def ledV (zr : Option Int32) : Int32 := match zr with
  | some t => t
  | none => 0
section LDM
variable {vN vR tc vH vU mn mp mf plc ut uc un uw fc kd sz d1 d2 wd srt nxt vD now vB rn vM tm rr st und kp : Nat → Int32} {past ims : Nat → Nat → Int32} {h c : Nat → Nat}
theorem led_m1 {b : Nat} (hb : b + 1 < 2 ^ 31) : nI (b + 1) + (-1) = nI b := by
  rw [show nI (b + 1) = nI b + 1 from (nI_add b 1).symm, Int32.add_assoc, show (1 : Int32) + (-1) = 0 from rfl, Int32.add_zero]
theorem led_c (hs : RSt h c vH vU mn mp mf plc ut uc un uw fc kd sz d1 d2 wd srt nxt vD now past ims vB rn vM rr st und kp) {a t : Nat} (ha : a < 2 ^ 31) (ht : t < h 3) : fX8_led_B4 vH vD now (nI a, nI t) = if (c 7).testBit t then (if a = 0 then some (.inl (some (nI t))) else some (.inr (nI (a - 1), nI (t + 1)))) else some (.inr (nI a, nI (t + 1))) := by
  have h3 := hs.1.1.2.2.2.2.1
  have h5 : vH 5 = nI (h 3) := (RS_CX hs).2.1.2.2.1
  have hh := c_isHeld (vD := vD) h3 hs.2.2.2.2.1.1 hs.2.2.2.2.2.1 ht
  unfold fX8_led_B4
  show (if vH 5 ≤ nI t then _ else _) = _
  rw [h5, if_neg (show ¬ nI (h 3) ≤ nI t by rw [nI_leI (by omega) (by omega)]; omega), if_neg (show ¬ nI a < 0 from nI_pos ha), hh, bdS]
  unfold fX8_led_J39
  rw [show nI t + 1 = nI (t + 1) from nI_add t 1]
  cases hb : (c 7).testBit t with
  | false =>
    rw [if_pos (show nI (if false = true then 1 else 0) = 0 by decide), if_neg (by decide)]
  | true =>
    rw [if_neg (show ¬ nI (if true = true then 1 else 0) = 0 by decide), if_pos rfl]
    cases a with
    | zero => rfl
    | succ a =>
      rw [if_neg (show ¬ nI (a + 1) = 0 by rw [show (0 : Int32) = nI 0 from rfl, nI_eq (by omega) (by omega)]; omega), if_neg (by omega)]
      rw [led_m1 ha]
      rfl
theorem led_m (hs : RSt h c vH vU mn mp mf plc ut uc un uw fc kd sz d1 d2 wd srt nxt vD now past ims vB rn vM rr st und kp) {n t : Nat} (hn : n < 2 ^ 31) (ht : t < h 3) (x : Int32) : fX9_led_B4 vM rr st x (nI n, nI t) = if (c 7).testBit t then (if nI n = x then some (.inl (nI t, upd vM 0 0)) else some (.inr (nI n + 1, nI (t + 1)))) else some (.inr (nI n, nI (t + 1))) := by
  have h3 := hs.1.1.2.2.2.2.1
  have c7 := c7_lt hs
  have h14 : vM 14 = nI 1 := (RS_MX hs).2.2.2.2.2.2
  have hr3 : rr (3 : Int32).toNatClampNeg = nI (h 3) := (RS_MX hs).2.2.2.2.1 3 (by omega)
  have hbit : fX9_hasBit (st (7 : Int32).toNatClampNeg) (nI t) = some (nI (if (c 7).testBit t then 1 else 0)) := by
    rw [show st (7 : Int32).toNatClampNeg = nI (c 7) from hs.2.2.2.2.2.2.2.1 7 (by omega)]
    exact m_hasBit (by omega) (by omega)
  unfold fX9_led_B4
  show (if vM 14 = 0 then _ else _) = _
  rw [h14, if_neg (show ¬ nI 1 = 0 by decide), show okI (3 : Int32) 224 = true from rfl, gdT, hr3, if_neg (show ¬ nI (h 3) ≤ nI t by rw [nI_leI (by omega) (by omega)]; omega), show okI (7 : Int32) 9 = true from rfl, gdT, hbit, bdS]
  unfold fX9_led_J53
  rw [show nI t + 1 = nI (t + 1) from nI_add t 1]
  cases hb : (c 7).testBit t with
  | false =>
    rw [if_pos (show nI (if false = true then 1 else 0) = 0 by decide), if_neg (by decide)]
  | true =>
    rw [if_neg (show ¬ nI (if true = true then 1 else 0) = 0 by decide), if_pos rfl]
    rfl
theorem led_ce (hs : RSt h c vH vU mn mp mf plc ut uc un uw fc kd sz d1 d2 wd srt nxt vD now past ims vB rn vM rr st und kp) (y : Int32) : fX8_led_B4 vH vD now (y, nI (h 3)) = some (.inl none) := by
  have h5 : vH 5 = nI (h 3) := (RS_CX hs).2.1.2.2.1
  unfold fX8_led_B4
  show (if vH 5 ≤ nI (h 3) then _ else _) = _
  rw [h5, if_pos (Int32.le_refl _)]
  rfl
theorem led_me (hs : RSt h c vH vU mn mp mf plc ut uc un uw fc kd sz d1 d2 wd srt nxt vD now past ims vB rn vM rr st und kp) (y x : Int32) : fX9_led_B4 vM rr st x (y, nI (h 3)) = some (.inl (0, upd vM 0 1)) := by
  have h14 : vM 14 = nI 1 := (RS_MX hs).2.2.2.2.2.2
  have hr3 : rr (3 : Int32).toNatClampNeg = nI (h 3) := (RS_MX hs).2.2.2.2.1 3 (by omega)
  unfold fX9_led_B4
  show (if vM 14 = 0 then _ else _) = _
  rw [h14, if_neg (show ¬ nI 1 = 0 by decide), show okI (3 : Int32) 224 = true from rfl, gdT, hr3, if_pos (Int32.le_refl _)]
  rfl
theorem led_lock (hs : RSt h c vH vU mn mp mf plc ut uc un uw fc kd sz d1 d2 wd srt nxt vD now past ims vB rn vM rr st und kp) : ∀ (d t n a F : Nat), t + d = h 3 → n + a < 2 ^ 31 → n ≤ t → d < F → ∃ zr, lp (fX8_led_B4 vH vD now) F (nI a, nI t) = some zr ∧ lp (fX9_led_B4 vM rr st (nI (n + a))) F (nI n, nI t) = some (ledV zr, upd vM 0 (ledK zr)) := by
  have h3 : h 3 ≤ 7 := hs.1.1.2.2.2.2.1
  intro d
  induction d with
  | zero =>
    intro t n a F h0 h1 h2 hF
    obtain ⟨F, rfl⟩ : ∃ G, F = G + 1 := ⟨F - 1, by omega⟩
    rw [show t = h 3 by omega]
    exact ⟨none, lpL (led_ce hs _), lpL (led_me hs _ _)⟩
  | succ d ih =>
    intro t n a F h0 h1 h2 hF
    obtain ⟨F, rfl⟩ : ∃ G, F = G + 1 := ⟨F - 1, by omega⟩
    have e1 := led_c hs (a := a) (t := t) (by omega) (by omega)
    have e2 := led_m hs (n := n) (t := t) (by omega) (by omega) (nI (n + a))
    cases hb : (c 7).testBit t with
    | false =>
      rw [hb] at e1 e2
      rw [lpR e1, lpR e2]
      exact ih (t + 1) n a F (by omega) h1 (by omega) (by omega)
    | true =>
      rw [hb] at e1 e2
      by_cases ha : a = 0
      · subst ha
        exact ⟨some (nI t), lpL e1, lpL (by rw [e2, if_pos rfl, if_pos (show nI n = nI (n + 0) from rfl)]; rfl)⟩
      · have e1' : fX8_led_B4 vH vD now (nI a, nI t) = some (.inr (nI (a - 1), nI (t + 1))) := by rw [e1, if_pos rfl, if_neg ha]
        have e2' : fX9_led_B4 vM rr st (nI (n + a)) (nI n, nI t) = some (.inr (nI (n + 1), nI (t + 1))) := by
          rw [e2, if_pos rfl, if_neg (show ¬ nI n = nI (n + a) by rw [nI_eq (by omega) (by omega)]; omega), show nI n + 1 = nI (n + 1) from nI_add n 1]
        rw [lpR e1', lpR e2', show n + a = n + 1 + (a - 1) by omega]
        exact ih (t + 1) (n + 1) (a - 1) F (by omega) (by omega) (by omega) (by omega)
theorem led_neg (hs : RSt h c vH vU mn mp mf plc ut uc un uw fc kd sz d1 d2 wd srt nxt vD now past ims vB rn vM rr st und kp) {x : Int32} (hx : ∀ n, n < 2 ^ 31 → ¬ nI n = x) : ∀ (d t n F : Nat), t + d = h 3 → n ≤ t → d < F → lp (fX9_led_B4 vM rr st x) F (nI n, nI t) = some (0, upd vM 0 1) := by
  have h3 : h 3 ≤ 7 := hs.1.1.2.2.2.2.1
  intro d
  induction d with
  | zero =>
    intro t n F h0 h2 hF
    obtain ⟨F, rfl⟩ : ∃ G, F = G + 1 := ⟨F - 1, by omega⟩
    rw [show t = h 3 by omega]
    exact lpL (led_me hs _ _)
  | succ d ih =>
    intro t n F h0 h2 hF
    obtain ⟨F, rfl⟩ : ∃ G, F = G + 1 := ⟨F - 1, by omega⟩
    have e2 := led_m hs (n := n) (t := t) (by omega) (by omega) x
    cases hb : (c 7).testBit t with
    | false =>
      rw [hb] at e2
      rw [lpR e2]
      exact ih (t + 1) n F (by omega) (by omega) (by omega)
    | true =>
      rw [hb, if_pos rfl, if_neg (hx n (by omega)), show nI n + 1 = nI (n + 1) from nI_add n 1] at e2
      rw [lpR e2]
      exact ih (t + 1) (n + 1) F (by omega) (by omega) (by omega)
theorem R_led (hr : RLn vN vR tc vH vU mn mp mf plc ut uc un uw fc kd sz d1 d2 wd srt nxt vD now past ims vB rn vM tm rr st und kp) (x : Int32) : ∃ zr, fX8_led vN vH vD now x = some zr ∧ fX9_led vM rr st x = some (ledV zr, upd vM 0 (ledK zr)) := by
  obtain ⟨-, -, q⟩ := hr
  unfold fX8_led fX9_led
  rcases q with ⟨n1, n2, n3, n4, -⟩ | ⟨h, c, hs⟩
  · refine ⟨none, lpL ?_, lpL ?_⟩
    · unfold fX8_led_B4
      show (if vH 5 ≤ 0 then _ else _) = _
      rw [n4 5 (by omega), if_pos (show nI 0 ≤ 0 from Int32.le_refl _)]
      rfl
    · unfold fX9_led_B4
      show (if vM 14 = 0 then _ else _) = _
      rw [n1, if_pos (show nI 0 = 0 from rfl)]
      rfl
  · have h3 : h 3 ≤ 7 := hs.1.1.2.2.2.2.1
    by_cases hx : ∃ k, k < 2 ^ 31 ∧ x = nI k
    · obtain ⟨k, hk, rfl⟩ := hx
      have := led_lock hs (h 3) 0 0 k 5000 (by omega) (by omega) (by omega) (by omega)
      rw [Nat.zero_add] at this
      exact this
    · have hneg : x < 0 := by
        rcases i32_or x (2 ^ 31 - 1) (by decide) with ⟨k, hk, e⟩ | hl | hg
        · exact absurd ⟨k, by omega, e⟩ hx
        · exact hl
        · exact absurd ⟨2 ^ 31 - 1, by decide, Int32.le_antisymm (show x ≤ nI (2 ^ 31 - 1) from (show Int32.maxValue = nI (2 ^ 31 - 1) by decide) ▸ Int32.le_maxValue x) hg⟩ hx
      refine ⟨none, lpL ?_, led_neg hs (fun n hn e => hx ⟨n, hn, e.symm⟩) (h 3) 0 0 5000 (by omega) (by omega) (by omega)⟩
      unfold fX8_led_B4
      show (if vH 5 ≤ 0 then _ else _) = _
      by_cases h5 : vH 5 ≤ 0
      · rw [if_pos h5]; rfl
      · rw [if_neg h5, if_pos hneg]; rfl
end LDM
