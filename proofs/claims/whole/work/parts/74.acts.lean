/-! MATH 54: acts, on both sides (written by gen/g74.py) -/
section RQ4
variable {vN vR tc vH vU mn mp mf plc ut uc un uw fc kd sz d1 d2 wd srt nxt vD now vB rn vM tm rr st und kp : Nat → Int32} {past ims : Nat → Nat → Int32} {h c : Nat → Nat}
theorem RL_act {c' : Nat → Nat} {vD' now' vM' st' und' kp' : Nat → Int32} {past' ims' : Nat → Nat → Int32} (hr : RLn vN vR tc vH vU mn mp mf plc ut uc un uw fc kd sz d1 d2 wd srt nxt vD now past ims vB rn vM tm rr st und kp) {tr : Int32} (h4 : tr ≠ nI 4) (m11 : vM' 11 = tr) (m9 : vM' 9 = vM 9) (m2 : vM' 2 = vM 2) (hs : RSt h c' vH vU mn mp mf plc ut uc un uw fc kd sz d1 d2 wd srt nxt vD' now' past' ims' vB rn vM' rr st' und' kp') : RLn (upd vN 6 tr) vR tc vH vU mn mp mf plc ut uc un uw fc kd sz d1 d2 wd srt nxt vD' now' past' ims' vB rn vM' tm rr st' und' kp' := by
  obtain ⟨⟨r6, r7, r8⟩, ⟨nT, tb, t1, t2, t3, t4⟩, q⟩ := hr
  refine ⟨⟨m11.symm, ?_, fun e => ?_⟩, ⟨nT, tb, t1, t2, by rw [m2]; exact t3, t4⟩, Or.inr ⟨h, c', hs⟩⟩
  · show vN 7 = vM' 9
    rw [m9]
    exact r7
  · rw [m11] at e
    exact absurd e h4
theorem RS_c {c' : Nat → Nat} {vD' now' vM' st' und' kp' : Nat → Int32} {past' ims' : Nat → Nat → Int32} (hs : RSt h c vH vU mn mp mf plc ut uc un uw fc kd sz d1 d2 wd srt nxt vD now past ims vB rn vM rr st und kp) (hG : GR h c') (hD : DR h c' now') (hst : ∀ k, k < 9 → st' k = nI (c' k)) (h14 : vM' 14 = nI 1) (hU : UNr h vD' past' vM' und') (hI : IMr h vD' ims' vM' kp') : RSt h c' vH vU mn mp mf plc ut uc un uw fc kd sz d1 d2 wd srt nxt vD' now' past' ims' vB rn vM' rr st' und' kp' := by
  obtain ⟨hP, h0, h2, hH, -, -, hrr, -, hB, -, -, -⟩ := hs
  exact ⟨hP, h0, h2, hH, hG, hD, hrr, hst, hB, h14, hU, hI⟩
theorem IM_k {vD' vM' kp : Nat → Int32} {ims : Nat → Nat → Int32} (e5 : vD' 5 = vD 5) (e21 : vM' 21 = vM 21) (hI : IMr h vD ims vM kp) : IMr h vD' ims vM' kp := by
  obtain ⟨K, cs, i1, i2, i3, i4⟩ := hI
  exact ⟨K, cs, i1, by rw [e5]; exact i2, by rw [e21]; exact i3, i4⟩
/-- an act comes: how it is now is kept -/
theorem keep_note {v : Nat → Int32} (h37 : h 3 ≤ 7) (hG : GR h c) (hD : DR h c now) (hst : ∀ k, k < 9 → st k = nI (c k)) (hU : UNr h vD past vM und) (e20 : v 20 = vM 20) : ∃ vD' past' v' und', fX1_keep vD past now = some (vD', past') ∧ fX9_note v und st = some (v', und') ∧ (∀ k, k ≠ 3 → k ≠ 4 → vD' k = vD k) ∧ (∀ k, k ≠ 20 → v' k = v k) ∧ UNr h vD' past' v' und' := by
  obtain ⟨K, p, cs, hK, hp, d3, d4, m20, hq⟩ := hU
  -- the class
  have hc : fX1_keep vD past now = some (upd (upd vD 4 (nI ((p + 1) % 16))) 3 (nI (if K < 16 then K + 1 else 16)), va_up past p (va_cpy now (past p) 0 0 9)) := by
    unfold fX1_keep
    rw [d4, if_neg (show ¬ nI p < 0 from nI_pos (by omega)), if_pos (show nI p < 16 from (show nI p < nI 16 by rw [nI_ltI (by omega) (by omega)]; exact hp))]
    have J63 : ∀ (t : Nat) (P : Nat → Nat → Int32), fX1_keep_J63 (nI t) P vD = some (upd (upd vD 4 (nI t)) 3 (nI (if K < 16 then K + 1 else 16)), P) := by
      intro t P
      unfold fX1_keep_J63 fX1_keep_J87
      rw [d3]
      by_cases q : K < 16
      · rw [if_pos q, if_neg (show ¬ (16 : Int32) ≤ nI K from (show ¬ nI 16 ≤ nI K by rw [nI_leI (by omega) (by omega)]; omega)), show nI K + 1 = nI (K + 1) from nI_add K 1]
      · rw [if_neg q, if_pos (show (16 : Int32) ≤ nI K from (show nI 16 ≤ nI K by rw [nI_leI (by omega) (by omega)]; omega))]
        rfl
    unfold fX1_keep_J21
    rw [d4, ok_nI hp (by omega), gdT, nI_clamp (by omega), show nI p + 1 = nI (p + 1) from nI_add p 1]
    by_cases q : p = 15
    · rw [if_pos (show (16 : Int32) ≤ nI (p + 1) from (show nI 16 ≤ nI (p + 1) by rw [nI_leI (by omega) (by omega)]; omega))]
      rw [show (p + 1) % 16 = 0 by omega]
      exact J63 0 _
    · rw [if_neg (show ¬ (16 : Int32) ≤ nI (p + 1) from (show ¬ nI 16 ≤ nI (p + 1) by rw [nI_leI (by omega) (by omega)]; omega))]
      rw [show (p + 1) % 16 = p + 1 by omega]
      exact J63 (p + 1) _
  -- the reference
  have hm : ∃ und', fX9_note v und st = some (upd (if K < 16 then v else upd v 20 (nI 15)) 20 (nI (if K < 16 then K + 1 else 16)), und') ∧ ∀ k, (∀ i, i < 9 → k = 9 * (if K < 16 then K else 15) + i → und' k = st i) ∧ (k < 9 * (if K < 16 then K else 15) → und' k = if K < 16 then und k else und (k + 9)) := by
    have J49 : ∀ (K' : Nat) (u w : Nat → Int32), K' ≤ 15 → w 20 = nI K' → ∃ und', fX9_note_J49 st u w = some (upd w 20 (nI (K' + 1)), und') ∧ ∀ k, (∀ i, i < 9 → k = 9 * K' + i → und' k = st i) ∧ (k < 9 * K' → und' k = u k) := by
      intro K' u w hK' hw
      obtain ⟨p', e, hp'⟩ := m_copy (n0 := 9) (n2 := 144) (a := 0) (b := 9 * K') (k := 9) (p0 := st) (p2 := u) (by omega) (by omega) (by omega) (by omega)
      refine ⟨p', ?_, fun k => ⟨fun i hi ek => ?_, fun hk => ?_⟩⟩
      · unfold fX9_note_J49
        rw [hw, show (9 : Int32) * nI K' = nI (9 * K') from pk_mul 9 K', show fX9_copy 9 st 144 u 0 (nI (9 * K')) 9 = some p' from e, bdS, show nI K' + 1 = nI (K' + 1) from nI_add K' 1]
      · rw [hp' k, if_pos (by omega)]
        congr 1
        omega
      · rw [hp' k, if_neg (by omega)]
    unfold fX9_note
    rw [e20, m20]
    by_cases q : K < 16
    · obtain ⟨u', e, hu⟩ := J49 K und v (by omega) (by rw [e20, m20])
      refine ⟨u', ?_, fun k => ?_⟩
      · rw [if_neg (show ¬ nI K = 16 from (show ¬ nI K = nI 16 by rw [nI_eq (by omega) (by omega)]; omega)), if_pos q, if_pos q, e]
      · rw [if_pos q, if_pos q]
        exact hu k
    · obtain rfl : K = 16 := by omega
      rw [if_pos (show nI 16 = 16 from rfl)]
      refine Exists.elim (lp_inv (f := fX9_note_B11 v st) (fun i s => ∃ u, s = (nI i, u) ∧ ∀ k, u k = if k < i then und (k + 9) else und k) (fun res => ∃ und', res = (upd (upd v 20 (nI 15)) 20 (nI 16), und') ∧ ∀ k, (∀ i, i < 9 → k = 9 * 15 + i → und' k = st i) ∧ (k < 9 * 15 → und' k = und (k + 9))) 135 ?_ ?_ 5000 0 (nI 0, und) (Nat.zero_le _) ⟨und, rfl, fun k => by rw [if_neg (by omega)]⟩ (by omega)) (fun res hr => ?_)
      · rintro i s hi ⟨u, rfl, hu⟩
        left
        simp (disch := omega) only [fX9_note_B11, nlq, nI_leI, nI_add, ok_nI, gdT, nI_clamp]
        rw [if_neg (by omega)]
        refine ⟨_, rfl, _, rfl, fun k => ?_⟩
        unfold upd
        by_cases e : k = i
        · rw [if_pos e, hu (i + 9), if_neg (by omega), if_pos (by omega), e]
        · rw [if_neg e, hu k]
          by_cases q1 : k < i
          · rw [if_pos q1, if_pos (by omega)]
          · rw [if_neg q1, if_neg (by omega)]
      · rintro s ⟨u, rfl, hu⟩
        obtain ⟨u', e, hu'⟩ := J49 15 u (upd v 20 (nI 15)) (by omega) rfl
        refine ⟨_, ?_, u', rfl, fun k => ⟨(hu' k).1, fun hk => ?_⟩⟩
        · unfold fX9_note_B11
          simp only
          rw [if_pos (show (135 : Int32) ≤ nI 135 by decide), e20, m20, show nI 16 - 1 = nI 15 from rfl, e]
          rfl
        · rw [(hu' k).2 hk, hu k, if_pos (by omega)]
      · obtain ⟨e, u', hr, q⟩ := hr
        exact ⟨u', e.trans (congrArg some hr), q⟩
  obtain ⟨und', em, hu⟩ := hm
  refine ⟨_, _, _, und', hc, em, fun k q1 q2 => ?_, fun k q1 => ?_, ?_⟩
  · unfold upd
    rw [if_neg q1, if_neg q2]
  · by_cases q : K < 16
    · rw [if_pos q]
      unfold upd
      rw [if_neg q1]
    · rw [if_neg q]
      unfold upd
      rw [if_neg q1, if_neg q1]
  · have hK' : (if K < 16 then K + 1 else 16) ≤ 16 := by split <;> omega
    refine ⟨if K < 16 then K + 1 else 16, (p + 1) % 16, fun i => match i with | 0 => c | i + 1 => cs i, hK', by omega, rfl, rfl, rfl, fun i hi => ?_⟩
    have hE : (if K < 16 then K else 15) = (if K < 16 then K + 1 else 16) - 1 := by split <;> rfl
    cases i with
    | zero =>
      refine ⟨hG, ?_, fun k hk => ?_⟩
      · show DR h c (va_up past p _ (((p + 1) % 16 + 15 - 0) % 16))
        rw [show ((p + 1) % 16 + 15 - 0) % 16 = p by omega, va_up_self]
        have hcp : ∀ k, k < 9 → va_cpy now (past p) 0 0 9 k = now k := fun k hk => by
          unfold va_cpy
          rw [if_pos (by omega)]
          congr 1
          omega
        have h3 := hG.1.2.1
        obtain ⟨q1, q2, q3⟩ := hD
        refine ⟨fun t ht => ?_, by rw [hcp 7 (by omega)]; exact q2, by rw [hcp 8 (by omega)]; exact q3⟩
        rw [hcp t (by omega)]
        exact q1 t ht
      · rw [(hu _).1 k hk (by rw [hE]; omega)]
        exact hst k hk
    | succ i =>
      have hi2 : i < K := by split at hi <;> omega
      obtain ⟨g1, g2, g3⟩ := hq i hi2
      refine ⟨g1, ?_, fun k hk => ?_⟩
      · show DR h (cs i) (va_up past p _ (((p + 1) % 16 + 15 - (i + 1)) % 16))
        have hi15 : i + 1 ≤ 15 := by split at hi <;> omega
        rw [show ((p + 1) % 16 + 15 - (i + 1)) % 16 = (p + 15 - i) % 16 by omega, va_up_ne past _ (by omega)]
        exact g2
      · rw [(hu _).2 (by rw [hE]; split at hi <;> (split <;> omega))]
        by_cases q : K < 16
        · rw [if_pos q, if_pos q, show K + 1 - 1 - (i + 1) = K - 1 - i by omega]
          exact g3 k hk
        · rw [if_neg q, if_neg q, show 9 * (16 - 1 - (i + 1)) + k + 9 = 9 * (K - 1 - i) + k by rw [if_neg q] at hi; omega]
          exact g3 k hk
theorem c7_lt (hs : RSt h c vH vU mn mp mf plc ut uc un uw fc kd sz d1 d2 wd srt nxt vD now past ims vB rn vM rr st und kp) : c 7 < 128 := Nat.lt_of_lt_of_le hs.2.2.2.2.1.1.2.1 (Nat.pow_le_pow_right (n := 2) (by omega) hs.1.1.2.2.2.2.1)
/-- a thing is held, or let go -/
theorem turn_ok (hs : RSt h c vH vU mn mp mf plc ut uc un uw fc kd sz d1 d2 wd srt nxt vD now past ims vB rn vM rr st und kp) {t : Nat} (ht : t < h 3) : ∃ vD' past' v' und' now', fX1_keep vD past now = some (vD', past') ∧ fX1_turnHeld vD' now (nI t) = some now' ∧ fX9_note (upd (upd vM 0 0) 11 0) und st = some (v', und') ∧ v' 11 = nI 0 ∧ v' 9 = vM 9 ∧ v' 2 = vM 2 ∧ RSt h (fun k => if k = 7 then c 7 ^^^ 2 ^ t else c k) vH vU mn mp mf plc ut uc un uw fc kd sz d1 d2 wd srt nxt vD' now' past' ims vB rn v' rr (upd st 7 (nI (c 7 ^^^ 2 ^ t))) und' kp := by
  have h3 := hs.1.1.2.2.2.2.1
  have c7 := c7_lt hs
  obtain ⟨vD', past', v', und', e1, e2, d1, d2, hU⟩ := keep_note (v := upd (upd vM 0 0) 11 0) h3 hs.2.2.2.2.1 hs.2.2.2.2.2.1 hs.2.2.2.2.2.2.2.1 hs.2.2.2.2.2.2.2.2.2.2.1 rfl
  have t128 : 2 ^ t < 128 := by have := Nat.pow_lt_pow_right (a := 2) (by omega) (show t < 7 by omega); omega
  have n7 : now 7 = nI (c 7) := hs.2.2.2.2.2.1.2.1
  have s7 : st 7 = nI (c 7) := hs.2.2.2.2.2.2.2.1 7 (by omega)
  have ex : nI (c 7) ^^^ isl 1 (nI t) = nI (c 7 ^^^ 2 ^ t) := by
    rw [show isl 1 (nI t) = nI (2 ^ t) from isl_1 (by omega), nI_xor]
  refine ⟨vD', past', v', und', upd now 7 (nI (c 7 ^^^ 2 ^ t)), e1, ?_, e2, ?_, ?_, ?_, ?_⟩
  · show some (upd now 7 (now 7 ^^^ isl 1 (nI t))) = _
    rw [n7, ex]
  · rw [d2 11 (by omega)]; rfl
  · rw [d2 9 (by omega)]; rfl
  · rw [d2 2 (by omega)]; rfl
  · have hG := hs.2.2.2.2.1
    refine RS_c hs ⟨⟨fun u hu => ?_, ?_, ?_⟩, fun a b ha hb e => ?_, ?_⟩ ⟨fun u hu => ?_, rfl, ?_⟩ (fun k hk => ?_) ?_ hU (IM_k (d1 5 (by omega) (by omega)) (by rw [d2 21 (by omega)]; rfl) hs.2.2.2.2.2.2.2.2.2.2.2)
    · show okc h (if u = 7 then _ else c u)
      rw [if_neg (by omega)]
      exact hG.1.1 u hu
    · show (if 7 = 7 then c 7 ^^^ 2 ^ t else _) < 2 ^ h 3
      rw [if_pos rfl]
      exact Nat.xor_lt_two_pow hG.1.2.1 (Nat.pow_lt_pow_right (by omega) ht)
    · show (if 8 = 7 then _ else c 8) < 100000
      rw [if_neg (by omega)]
      exact hG.1.2.2
    · have e : (if a = 7 then c 7 ^^^ 2 ^ t else c a) = (if b = 7 then c 7 ^^^ 2 ^ t else c b) := e
      rw [if_neg (by omega), if_neg (by omega)] at e
      exact hG.2.1 a b ha hb e
    · show (if 8 = 7 then _ else c 8) ≤ 999
      rw [if_neg (by omega)]
      exact hG.2.2
    · show upd now 7 _ u = nI (if u = 7 then _ else c u)
      rw [if_neg (by omega), upd_ne (by omega)]
      exact hs.2.2.2.2.2.1.1 u hu
    · show upd now 7 _ 8 = nI (if 8 = 7 then _ else c 8)
      rw [if_neg (by omega), upd_ne (by omega)]
      exact hs.2.2.2.2.2.1.2.2
    · show upd st 7 _ k = nI (if k = 7 then _ else c k)
      by_cases q : k = 7
      · rw [q, upd_eq, if_pos rfl]
      · rw [upd_ne q, if_neg q]
        exact hs.2.2.2.2.2.2.2.1 k hk
    · rw [d2 14 (by omega)]
      exact hs.2.2.2.2.2.2.2.2.2.1
theorem R_hold (hr : RLn vN vR tc vH vU mn mp mf plc ut uc un uw fc kd sz d1 d2 wd srt nxt vD now past ims vB rn vM tm rr st und kp) (x : Int32) : ∃ r vN' vM' vD' now' past' st' und', fX8_hold vN vH vD now past x = some (r, vN', vD', now', past') ∧ fX9_hold vM rr st und x = some (r, vM', st', und') ∧ RLn vN' vR tc vH vU mn mp mf plc ut uc un uw fc kd sz d1 d2 wd srt nxt vD' now' past' ims vB rn vM' tm rr st' und' kp := by
  rcases aT hr x with ⟨h, c, hs, t, ht, rfl⟩ | ⟨q1, q2⟩
  · have h3 := hs.1.1.2.2.2.2.1
    have c7 := c7_lt hs
    have hh := c_isHeld (vD := vD) h3 hs.2.2.2.2.1.1 hs.2.2.2.2.2.1 ht
    have hbit : fX9_hasBit (st (7 : Int32).toNatClampNeg) (nI t) = some (nI (if (c 7).testBit t then 1 else 0)) := by
      rw [show st (7 : Int32).toNatClampNeg = nI (c 7) from hs.2.2.2.2.2.2.2.1 7 (by omega)]
      exact m_hasBit (by omega) (by omega)
    have s7 : st (7 : Int32).toNatClampNeg ^^^ isl 1 (nI t) = nI (c 7 ^^^ 2 ^ t) := by
      rw [show st (7 : Int32).toNatClampNeg = nI (c 7) from hs.2.2.2.2.2.2.2.1 7 (by omega), show isl 1 (nI t) = nI (2 ^ t) from isl_1 (by omega), nI_xor]
    obtain ⟨vD', past', v', und', now', e1, e2, e3, m11, m9, m2, hs'⟩ := turn_ok hs ht
    cases hb : (c 7).testBit t with
    | true =>
      rw [hb] at hh hbit
      refine ⟨nI 0, upd vN 6 5, upd (upd (upd vM 0 0) 11 0) 11 5, vD, now, past, st, und, ?_, ?_, RL_q hr (tr := nI 5) (by decide) (MA_no vM 5)⟩
      · unfold fX8_hold
        rw [cT1 hs ht, bdS, if_neg nz1, hh, bdS, if_neg (show ¬ nI (if true = true then 1 else 0) = 0 by decide)]
        rfl
      · unfold fX9_hold fX9_turnsTo
        rw [m_gd, bdS, mT1 hs ht, bdS, if_neg nz1, show okI (7 : Int32) 9 = true from rfl, gdT, hbit, bdS, if_pos (show nI (if true = true then 1 else 0) = 1 from rfl)]
        rfl
    | false =>
      rw [hb] at hh hbit
      refine ⟨nI 1, upd vN 6 0, v', vD', now', past', upd st 7 (nI (c 7 ^^^ 2 ^ t)), und', ?_, ?_, RL_act hr (tr := nI 0) (by decide) m11 m9 m2 hs'⟩
      · unfold fX8_hold
        rw [cT1 hs ht, bdS, if_neg nz1, hh, bdS, if_pos (show nI (if false = true then 1 else 0) = 0 from rfl), e1, bdS]
        simp only
        rw [e2]
        rfl
      · unfold fX9_hold fX9_turnsTo
        rw [m_gd, bdS, mT1 hs ht, bdS, if_neg nz1, show okI (7 : Int32) 9 = true from rfl, gdT, hbit, bdS, if_neg (show ¬ nI (if false = true then 1 else 0) = 1 by decide), e3, bdS]
        simp only
        rw [gdT, gdT, s7]
        rfl
  · skip
    refine ⟨nI 0, upd vN 6 1, upd (upd (upd vM 0 0) 11 0) 11 1, vD, now, past, st, und, ?_, ?_, RL_q hr (tr := nI 1) (by decide) (MA_no vM 1)⟩
    · unfold fX8_hold
      rw [q1, bdS, if_pos z0]
      rfl
    · unfold fX9_hold fX9_turnsTo
      rw [m_gd, bdS, q2, bdS, if_pos z0]
      rfl
theorem R_let (hr : RLn vN vR tc vH vU mn mp mf plc ut uc un uw fc kd sz d1 d2 wd srt nxt vD now past ims vB rn vM tm rr st und kp) (x : Int32) : ∃ r vN' vM' vD' now' past' st' und', fX8_let vN vH vD now past x = some (r, vN', vD', now', past') ∧ fX9_let vM rr st und x = some (r, vM', st', und') ∧ RLn vN' vR tc vH vU mn mp mf plc ut uc un uw fc kd sz d1 d2 wd srt nxt vD' now' past' ims vB rn vM' tm rr st' und' kp := by
  rcases aT hr x with ⟨h, c, hs, t, ht, rfl⟩ | ⟨q1, q2⟩
  · have h3 := hs.1.1.2.2.2.2.1
    have c7 := c7_lt hs
    have hh := c_isHeld (vD := vD) h3 hs.2.2.2.2.1.1 hs.2.2.2.2.2.1 ht
    have hbit : fX9_hasBit (st (7 : Int32).toNatClampNeg) (nI t) = some (nI (if (c 7).testBit t then 1 else 0)) := by
      rw [show st (7 : Int32).toNatClampNeg = nI (c 7) from hs.2.2.2.2.2.2.2.1 7 (by omega)]
      exact m_hasBit (by omega) (by omega)
    have s7 : st (7 : Int32).toNatClampNeg ^^^ isl 1 (nI t) = nI (c 7 ^^^ 2 ^ t) := by
      rw [show st (7 : Int32).toNatClampNeg = nI (c 7) from hs.2.2.2.2.2.2.2.1 7 (by omega), show isl 1 (nI t) = nI (2 ^ t) from isl_1 (by omega), nI_xor]
    obtain ⟨vD', past', v', und', now', e1, e2, e3, m11, m9, m2, hs'⟩ := turn_ok hs ht
    cases hb : (c 7).testBit t with
    | true =>
      rw [hb] at hh hbit
      refine ⟨nI 1, upd vN 6 0, v', vD', now', past', upd st 7 (nI (c 7 ^^^ 2 ^ t)), und', ?_, ?_, RL_act hr (tr := nI 0) (by decide) m11 m9 m2 hs'⟩
      · unfold fX8_let
        rw [cT1 hs ht, bdS, if_neg nz1, hh, bdS, if_neg (show ¬ nI (if true = true then 1 else 0) = 0 by decide), e1, bdS]
        simp only
        rw [e2]
        rfl
      · unfold fX9_let fX9_turnsTo
        rw [m_gd, bdS, mT1 hs ht, bdS, if_neg nz1, show okI (7 : Int32) 9 = true from rfl, gdT, hbit, bdS, if_neg (show ¬ nI (if true = true then 1 else 0) = 0 by decide), e3, bdS]
        simp only
        rw [gdT, gdT, s7]
        rfl
    | false =>
      rw [hb] at hh hbit
      refine ⟨nI 0, upd vN 6 5, upd (upd (upd vM 0 0) 11 0) 11 5, vD, now, past, st, und, ?_, ?_, RL_q hr (tr := nI 5) (by decide) (MA_no vM 5)⟩
      · unfold fX8_let
        rw [cT1 hs ht, bdS, if_neg nz1, hh, bdS, if_pos (show nI (if false = true then 1 else 0) = 0 from rfl)]
        rfl
      · unfold fX9_let fX9_turnsTo
        rw [m_gd, bdS, mT1 hs ht, bdS, if_neg nz1, show okI (7 : Int32) 9 = true from rfl, gdT, hbit, bdS, if_pos (show nI (if false = true then 1 else 0) = 0 from rfl)]
        rfl
  · skip
    refine ⟨nI 0, upd vN 6 1, upd (upd (upd vM 0 0) 11 0) 11 1, vD, now, past, st, und, ?_, ?_, RL_q hr (tr := nI 1) (by decide) (MA_no vM 1)⟩
    · unfold fX8_let
      rw [q1, bdS, if_pos z0]
      rfl
    · unfold fX9_let fX9_turnsTo
      rw [m_gd, bdS, q2, bdS, if_pos z0]
      rfl
theorem R_put (hr : RLn vN vR tc vH vU mn mp mf plc ut uc un uw fc kd sz d1 d2 wd srt nxt vD now past ims vB rn vM tm rr st und kp) (x y z : Int32) : ∃ r vN' vM' vD' now' past' st' und', fX8_put vN vH plc vD now past x y z = some (r, vN', vD', now', past') ∧ fX9_put vM rr st und x y z = some (r, vM', st', und') ∧ RLn vN' vR tc vH vU mn mp mf plc ut uc un uw fc kd sz d1 d2 wd srt nxt vD' now' past' ims vB rn vM' tm rr st' und' kp := by
  have refc : ∀ w : Int32, fX8_isDone vN w = some (if w = 0 then nI 1 else nI 0, upd vN 6 w) := by
    intro w
    unfold fX8_isDone fX8_isDone_J14
    by_cases q : w = 0
    · rw [if_pos q, if_pos q]
      rfl
    · rw [if_neg q, if_neg q]
      rfl
  rcases aT hr x with ⟨h, c, hs, t, ht, rfl⟩ | ⟨q1, q2⟩
  · rcases aP hs y z with ⟨g, y, hg, hy, rfl, rfl⟩ | ⟨q1, q2⟩
    · have h3 := hs.1.1.2.2.2.2.1
      have h2 := hs.1.1.2.2.2.1
      have y9 := (hs.1.2.1 g hg).2.2
      have c7 := c7_lt hs
      have hX : 9 * g + y < 36 := by omega
      have hh := c_isHeld (vD := vD) h3 hs.2.2.2.2.1.1 hs.2.2.2.2.2.1 ht
      have hbit : fX9_hasBit (st (7 : Int32).toNatClampNeg) (nI t) = some (nI (if (c 7).testBit t then 1 else 0)) := by
        rw [show st (7 : Int32).toNatClampNeg = nI (c 7) from hs.2.2.2.2.2.2.2.1 7 (by omega)]
        exact m_hasBit (by omega) (by omega)
      have e9 : (9 : Int32) * nI g + nI y = nI (9 * g + y) := by rw [show (9 : Int32) = nI 9 from rfl, pk_mul, nI_add]
      have hct : fX1_thingAt vD now (nI (9 * g + y)) (vH 5) = _ := c_dthing (RS_wf hs) hs.2.2.2.1.1.2.2.2.2.2.1 hs.2.2.2.2.1.1 hs.2.2.2.2.2.1 hX
      have hmt := m_thingAt (vM := upd (upd vM 0 0) 11 0) hs.2.2.2.2.2.2.1 h3 hs.2.2.2.2.2.2.2.1 (fun t ht => okc_lt (RS_wf hs) (hs.2.2.2.2.1.1.1 t ht)) hX
      have bad : ((c 7).testBit t = true ∨ ∃ u, fnd (fun u => c u == 9 * g + y) (h 3) = some u) → ∃ r vN' vM' vD' now' past' st' und', fX8_put vN vH plc vD now past (nI t) (nI g) (nI y) = some (r, vN', vD', now', past') ∧ fX9_put vM rr st und (nI t) (nI g) (nI y) = some (r, vM', st', und') ∧ RLn vN' vR tc vH vU mn mp mf plc ut uc un uw fc kd sz d1 d2 wd srt nxt vD' now' past' ims vB rn vM' tm rr st' und' kp := by
        intro hbad
        refine ⟨nI 0, upd vN 6 5, upd (upd (upd vM 0 0) 11 0) 11 5, vD, now, past, st, und, ?_, ?_, RL_q hr (tr := nI 5) (by decide) (MA_no vM 5)⟩
        · unfold fX8_put
          rw [cT1 hs ht, bdS, if_neg nz1, cP1 hs hg hy, bdS, if_neg nz1, c_cellAt, bdS, hh, bdS]
          cases hb : (c 7).testBit t with
          | true => rw [if_neg (show ¬ nI (if true = true then 1 else 0) = 0 by decide)]; rfl
          | false =>
            rcases hbad with hbad | ⟨u, hu⟩
            · rw [hb] at hbad; cases hbad
            · have u1 := (fnd_some hu).1
              rw [hu] at hct
              rw [if_pos (show nI (if false = true then 1 else 0) = 0 from rfl), show fX1_thingAt vD now (nI (9 * g + y)) (vH 5) = some (nI u) from hct, bdS, if_neg (show ¬ nI u < 0 from nI_pos (by omega))]
              rfl
        · unfold fX9_put
          rw [m_gd, bdS, mT1 hs ht, bdS, if_neg nz1, mP1 hs hg hy, bdS, if_neg nz1, show okI (7 : Int32) 9 = true from rfl, gdT, hbit, bdS]
          cases hb : (c 7).testBit t with
          | true => rw [if_neg (show ¬ nI (if true = true then 1 else 0) = 0 by decide)]; rfl
          | false =>
            rcases hbad with hbad | ⟨u, hu⟩
            · rw [hb] at hbad; cases hbad
            · have u1 := (fnd_some hu).1
              rw [hu] at hmt
              rw [if_pos (show nI (if false = true then 1 else 0) = 0 from rfl), e9, show fX9_thingAt (upd (upd vM 0 0) 11 0) rr 9 st (nI (9 * g + y)) = some (nI u) from hmt, bdS, if_neg (show ¬ nI u < 0 from nI_pos (by omega))]
              rfl
      cases hb : (c 7).testBit t with
      | true => exact bad (Or.inl hb)
      | false =>
        cases hf : fnd (fun u => c u == 9 * g + y) (h 3) with
        | some u => exact bad (Or.inr ⟨u, hf⟩)
        | none =>
          obtain ⟨vD', past', v', und', e1, e2, d1, d2, hU⟩ := keep_note (v := upd (upd vM 0 0) 11 0) h3 hs.2.2.2.2.1 hs.2.2.2.2.2.1 hs.2.2.2.2.2.2.2.1 hs.2.2.2.2.2.2.2.2.2.2.1 rfl
          have hno := fnd_none hf
          have hno : ∀ u, u < h 3 → c u ≠ 9 * g + y := fun u hu => by simpa using hno u hu
          have hG := hs.2.2.2.2.1
          rw [hf] at hct hmt
          rw [hb] at hh hbit
          refine ⟨nI 1, upd vN 6 0, v', vD', upd now t (nI (9 * g + y)), past', upd st t (nI (9 * g + y)), und', ?_, ?_, RL_act (c' := fun k => if k = t then 9 * g + y else c k) hr (tr := nI 0) (by decide) (by rw [d2 11 (by omega)]; rfl) (by rw [d2 9 (by omega)]; rfl) (by rw [d2 2 (by omega)]; rfl) (RS_c hs ⟨⟨fun u hu => ?_, ?_, ?_⟩, fun a b ha hb e => ?_, ?_⟩ ⟨fun u hu => ?_, ?_, ?_⟩ (fun k hk => ?_) ?_ hU (IM_k (d1 5 (by omega) (by omega)) (by rw [d2 21 (by omega)]; rfl) hs.2.2.2.2.2.2.2.2.2.2.2))⟩
          · unfold fX8_put
            rw [cT1 hs ht, bdS, if_neg nz1, cP1 hs hg hy, bdS, if_neg nz1, c_cellAt, bdS, hh, bdS, if_pos (show nI (if false = true then 1 else 0) = 0 from rfl), show fX1_thingAt vD now (nI (9 * g + y)) (vH 5) = some (-1) from hct, bdS, if_pos (show (-1 : Int32) < 0 by decide), e1, bdS]
            simp only
            unfold fX1_move fX1_move_J17
            rw [if_neg (show ¬ nI t < 0 from nI_pos (by omega)), if_neg (show ¬ (7 : Int32) ≤ nI t from (show ¬ nI 7 ≤ nI t by rw [nI_leI (by omega) (by omega)]; omega)), ok_nI (by omega) (by omega), gdT, bdS, nI_clamp (by omega)]
            rfl
          · unfold fX9_put
            rw [m_gd, bdS, mT1 hs ht, bdS, if_neg nz1, mP1 hs hg hy, bdS, if_neg nz1, show okI (7 : Int32) 9 = true from rfl, gdT, hbit, bdS, if_pos (show nI (if false = true then 1 else 0) = 0 from rfl), e9, show fX9_thingAt (upd (upd vM 0 0) 11 0) rr 9 st (nI (9 * g + y)) = some (-2) from hmt, bdS, if_pos (show (-2 : Int32) < 0 by decide), e2, bdS]
            simp only
            rw [ok_nI (show t < 9 by omega) (by omega), gdT, nI_clamp (by omega)]
            rfl
          · show okc h (if u = t then _ else c u)
            by_cases q : u = t
            · rw [if_pos q]
              exact ⟨by rw [show (9 * g + y) / 9 = g by omega]; exact hg, by rw [show (9 * g + y) / 9 = g by omega, show (9 * g + y) % 9 = y by omega]; exact hy⟩
            · rw [if_neg q]
              exact hG.1.1 u hu
          · show (if 7 = t then _ else c 7) < 2 ^ h 3
            rw [if_neg (by omega)]
            exact hG.1.2.1
          · show (if 8 = t then _ else c 8) < 100000
            rw [if_neg (by omega)]
            exact hG.1.2.2
          · have e : (if a = t then 9 * g + y else c a) = (if b = t then 9 * g + y else c b) := e
            by_cases q1 : a = t
            · by_cases q2 : b = t
              · omega
              · rw [if_pos q1, if_neg q2] at e
                exact absurd e.symm (hno b hb)
            · by_cases q2 : b = t
              · rw [if_neg q1, if_pos q2] at e
                exact absurd e (hno a ha)
              · rw [if_neg q1, if_neg q2] at e
                exact hG.2.1 a b ha hb e
          · show (if 8 = t then _ else c 8) ≤ 999
            rw [if_neg (by omega)]
            exact hG.2.2
          · show upd now t _ u = nI (if u = t then _ else c u)
            by_cases q : u = t
            · rw [q, upd_eq, if_pos rfl]
            · rw [upd_ne q, if_neg q]
              exact hs.2.2.2.2.2.1.1 u hu
          · show upd now t _ 7 = nI (if 7 = t then _ else c 7)
            rw [upd_ne (by omega), if_neg (by omega)]
            exact hs.2.2.2.2.2.1.2.1
          · show upd now t _ 8 = nI (if 8 = t then _ else c 8)
            rw [upd_ne (by omega), if_neg (by omega)]
            exact hs.2.2.2.2.2.1.2.2
          · show upd st t _ k = nI (if k = t then _ else c k)
            by_cases q : k = t
            · rw [q, upd_eq, if_pos rfl]
            · rw [upd_ne q, if_neg q]
              exact hs.2.2.2.2.2.2.2.1 k hk
          · rw [d2 14 (by omega)]
            exact hs.2.2.2.2.2.2.2.2.2.1
    · refine ⟨nI 0, upd vN 6 1, upd (upd (upd vM 0 0) 11 0) 11 1, vD, now, past, st, und, ?_, ?_, RL_q hr (tr := nI 1) (by decide) (MA_no vM 1)⟩
      · unfold fX8_put
        rw [cT1 hs ht, bdS, if_neg nz1, q1, bdS, if_pos z0]
        rfl
      · unfold fX9_put
        rw [m_gd, bdS, mT1 hs ht, bdS, if_neg nz1, q2, bdS, if_pos z0]
        rfl
  · refine ⟨nI 0, upd vN 6 1, upd (upd (upd vM 0 0) 11 0) 11 1, vD, now, past, st, und, ?_, ?_, RL_q hr (tr := nI 1) (by decide) (MA_no vM 1)⟩
    · unfold fX8_put
      rw [q1, bdS, if_pos z0]
      rfl
    · unfold fX9_put
      rw [m_gd, bdS, q2, bdS, if_pos z0]
      rfl
end RQ4
