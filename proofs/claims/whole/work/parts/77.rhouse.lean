/-! MATH 57: house(n), on both sides (written by gen/g77.py) -/
section RQ7
variable {vN vR tc vH vU mn mp mf plc ut uc un uw fc kd sz d1 d2 wd srt nxt vD now vB rn vM tm rr st und kp : Nat → Int32} {past ims : Nat → Nat → Int32} {h c : Nat → Nat}
theorem c_begin (fc vH : Nat → Int32) : ∃ now', fX1_begin vD now vH fc = some (upd (upd vD 3 0) 5 0, now') ∧ (∀ t, t < 7 → now' t = fc t) ∧ now' 7 = nI 0 ∧ now' 8 = nI 0 := by
  obtain ⟨p0, e0, h0⟩ := c_fill (n0 := 9) (p0 := now) 0 (by omega)
  unfold fX1_begin
  rw [e0, bdS]
  refine Exists.elim (lp_inv (f := fX1_begin_B10 vD vH fc) (fun i s => ∃ nw, s = (nI i, nw) ∧ (∀ t, t < i → nw t = fc t) ∧ nw 7 = nI 0 ∧ nw 8 = nI 0) (fun res => ∃ now', res = (upd (upd vD 3 0) 5 0, now') ∧ (∀ t, t < 7 → now' t = fc t) ∧ now' 7 = nI 0 ∧ now' 8 = nI 0) 7 ?_ ?_ 5000 0 (nI 0, p0) (Nat.zero_le _) ⟨p0, rfl, fun t ht => by omega, h0 7 (by omega), h0 8 (by omega)⟩ (by omega)) (fun res hr => ?_)
  · rintro i s hi ⟨nw, rfl, q1, q2, q3⟩
    left
    have hf : fX4_firstCellOf vH fc (nI i) = some (fc i) := by
      unfold fX4_firstCellOf fX4_firstCellOf_J20
      rw [if_neg (show ¬ nI i < 0 from nI_pos (by omega)), if_neg (show ¬ (7 : Int32) ≤ nI i from (show ¬ nI 7 ≤ nI i by rw [nI_leI (by omega) (by omega)]; omega)), ok_nI hi (by omega), gdT, nI_clamp (by omega)]
    refine ⟨(nI (i + 1), upd nw i (fc i)), ?_, _, rfl, fun t ht => ?_, ?_, ?_⟩
    · unfold fX1_begin_B10
      simp only
      rw [if_neg (show ¬ (7 : Int32) ≤ nI i from (show ¬ nI 7 ≤ nI i by rw [nI_leI (by omega) (by omega)]; omega)), hf, bdS, ok_nI (by omega) (by omega), gdT, nI_clamp (by omega), show nI i + 1 = nI (i + 1) from nI_add i 1]
    · by_cases e : t = i
      · rw [e, upd_eq]
      · rw [upd_ne e]
        exact q1 t (by omega)
    · rw [upd_ne (by omega)]
      exact q2
    · rw [upd_ne (by omega)]
      exact q3
  · rintro s ⟨nw, rfl, q1, q2, q3⟩
    refine ⟨(upd (upd vD 3 0) 5 0, nw), ?_, nw, rfl, q1, q2, q3⟩
    unfold fX1_begin_B10
    simp only
    rw [if_pos (show (7 : Int32) ≤ nI 7 by decide)]
    rfl
  · obtain ⟨e, nw, hr, q⟩ := hr
    exact ⟨nw, e.trans (congrArg some hr), q⟩
set_option maxHeartbeats 1600000 in
theorem R_house (hr : RLn vN vR tc vH vU mn mp mf plc ut uc un uw fc kd sz d1 d2 wd srt nxt vD now past ims vB rn vM tm rr st und kp) (aH aH0 : Nat) (j : Int64) (vH0 : Nat → Int32) (vU0 : Nat → Int32) (nxt0 : Nat → Int32) (wd0 : Nat → Int32) (mn0 : Nat → Int32) (mp0 : Nat → Int32) (mf0 : Nat → Int32) (tN0 : Nat → Int64) (rN0 : Nat → Int64) (plc0 : Nat → Int32) (ut0 : Nat → Int32) (uc0 : Nat → Int32) (un0 : Nat → Int32) (uw0 : Nat → Int32) (fc0 : Nat → Int32) (kd0 : Nat → Int32) (sz0 : Nat → Int32) (d10 : Nat → Int32) (d20 : Nat → Int32) (srt0 : Nat → Int32) (lt fr : Nat → Int32) (x : Int32) : ∃ r vN' j' vR' vH' vU' nxt' wd' mn' mp' mf' tN' rN' plc' ut' uc' un' uw' fc' kd' sz' d1' d2' srt' vD' now' vB' rn' aX aY vM' lt' fr' rr' st', fX8_house aH aH0 vN j vR vH0 vU0 nxt0 wd0 tc mn0 mp0 mf0 tN0 rN0 plc0 ut0 uc0 un0 uw0 fc0 kd0 sz0 d10 d20 srt0 vD now vB rn x = some (r, vN', j', vR', vH', vU', nxt', wd', mn', mp', mf', tN', rN', plc', ut', uc', un', uw', fc', kd', sz', d1', d2', srt', vD', now', vB', rn', aX, aY) ∧ fX9_house vM tm lt fr rr st x = some (r, vM', lt', fr', rr', st') ∧ ((aX = aH ∧ aY = aH0 ∧ RLn vN' vR' tc vH vU mn mp mf plc ut uc un uw fc kd sz d1 d2 wd srt nxt vD' now' past ims vB' rn' vM' tm rr' st' und kp) ∨ (aX = aH0 ∧ aY = aH ∧ RLn vN' vR' tc vH' vU' mn' mp' mf' plc' ut' uc' un' uw' fc' kd' sz' d1' d2' wd' srt' nxt' vD' now' past ims vB' rn' vM' tm rr' st' und kp)) := by
  obtain ⟨⟨r6, r7, r8⟩, ⟨nT, tb, t1, t2, t3, t4⟩, q⟩ := id hr
  rcases i_or x nT (by omega) with ⟨n, hn, rfl⟩ | hx
  · have ht : TPR tb n tc tm := ⟨by omega, fun p hp => t4.2 p (by omega)⟩
    have c1 : ¬ nI n < 0 := nI_pos (by omega)
    have c2 : nI n ≤ nI nT := by rw [nI_leI (by omega) (by omega)]; exact hn
    rcases j_read (vM := vM) (lt := lt) (fr := fr) (j := j) (vR := vR) (vH := vH0) (vU := vU0) (nxt := nxt0) (wd := wd0) (mn := mn0) (mp := mp0) (mf := mf0) (tN := tN0) (rN := rN0) (plc := plc0) (ut := ut0) (uc := uc0) (un := un0) (uw := uw0) (fc := fc0) (kd := kd0) (sz := sz0) (d1 := d10) (d2 := d20) (srt := srt0) ht rr st t3 t1 hn with ⟨e, v, lt', fr', eM, v9, v10, v11, v2, v0, vo, d1', d2', fc', kd', mf', mn', mp', nxt', plc', sz', srt', wd', rN', tN', uc', un', ut', uw', j', vH', vR', vU', eC, hcf, k1⟩ | ⟨v, lt', fr', r2, st2, S, lt2, d1', d2', fc', kd', mf', mn', mp', nxt', plc', sz', srt', wd', rN', tN', uc', un', ut', uw', j', vH', vR', vU', eM, v9, v11, v2, v0, v14, v20, v21, eC, w12, w1, hs2, hs0, ⟨vM2, hS⟩, q4, q5, q6⟩
    · refine ⟨-1, upd (upd (upd vN 7 (nI e.1)) 8 (nI e.2)) 6 4, j', vR', vH', vU', nxt', wd', mn', mp', mf', tN', rN', plc', ut', uc', un', uw', fc', kd', sz', d1', d2', srt', vD, now, vB, rn, aH, aH0, v, lt', fr', rr, st, ?_, eM, Or.inl ⟨rfl, rfl, ⟨v11.symm, v9.symm, fun _ => v10.symm⟩, ⟨0, tb, by omega, k1, v2, by omega, fun p hp => absurd hp (Nat.not_lt_zero p)⟩, ?_⟩⟩
      · unfold fX8_house
        rw [if_neg c1, show fX5_count j vR = some (vR 1) from rfl, bdS, t2, if_pos c2, eC, bdS]
        simp only
        rw [show fX5_faultFound j' vR' = some (vR' 12) from rfl, bdS, show fX5_faultStart j' vR' = some (vR' 8) from rfl, bdS, if_pos z0, hcf.1, hcf.2]
        rfl
      · rcases q with hn | ⟨h, c, hs⟩
        · exact Or.inl ⟨by rw [vo 14 (by omega)]; exact hn.1, by rw [vo 20 (by omega)]; exact hn.2.1, by rw [vo 21 (by omega)]; exact hn.2.2.1, hn.2.2.2⟩
        · exact Or.inr ⟨h, c, RS_m hs (vo 14 (by omega)) (vo 20 (by omega)) (vo 21 (by omega))⟩
    · obtain ⟨-, hcs, -, hP, -, hH⟩ := hS
      have hw := PI_WFh hP hs0
      have h3 := hP.1.2.2.2.2.1
      obtain ⟨nw, eb, hb1, hb7, hb8⟩ := c_begin (vD := vD) (now := now) fc' vH'
      obtain ⟨vB', rn', el, hLB, hB3⟩ := C_learn (vB := vB) (rn := rn) hw hP.2.2.2.2.2.2.1 ⟨hH.1.2.2.2.2.2.2, hH.2.2.2.2.2.2.2⟩
      have a2 : vH' 2 = nI (S.h 2) := hH.1.2.2.1
      have hp4 : ∃ p, p < 16 ∧ vD 4 = nI p := by
        rcases q with hn | ⟨h, c, hs⟩
        · exact hn.2.2.2.2.2.2.2.2
        · obtain ⟨K, p, cs, u1, u2, u3, u4, -⟩ := hs.2.2.2.2.2.2.2.2.2.2.1
          exact ⟨p, u2, u4⟩
      obtain ⟨p, hp, d4⟩ := hp4
      refine ⟨nI (S.h 2), upd (upd (upd vN 7 (nI 0)) 8 (vR' 8)) 6 0, j', vR', vH', vU', nxt', wd', mn', mp', mf', tN', rN', plc', ut', uc', un', uw', fc', kd', sz', d1', d2', srt', upd (upd vD 3 0) 5 0, nw, vB', rn', aH0, aH, v, lt', fr', r2, st2, ?_, eM, Or.inr ⟨rfl, rfl, ⟨v11.symm, v9.symm, fun e => ?_⟩, ⟨0, tb, by omega, w1, v2, by omega, fun p hp => absurd hp (Nat.not_lt_zero p)⟩, Or.inr ⟨S.h, fun k => if k < S.h 3 then S.h (62 + 3 * k + 1) else 0, hP, hs0, hs2, hH, ⟨⟨fun t htl => ?_, ?_, ?_⟩, fun t u htl hul e => ?_, ?_⟩, ⟨fun t htl => ?_, ?_, ?_⟩, q4, fun k hk => ?_, ⟨hLB, Or.inl hB3⟩, v14, ⟨0, p, fun _ _ => 0, by omega, hp, rfl, d4, v20, fun i hi => absurd hi (Nat.not_lt_zero i)⟩, ⟨0, fun _ _ => 0, by omega, rfl, v21, fun i hi => absurd hi (Nat.not_lt_zero i)⟩⟩⟩⟩
      · unfold fX8_house
        rw [if_neg c1, show fX5_count j vR = some (vR 1) from rfl, bdS, t2, if_pos c2, eC, bdS]
        simp only
        rw [show fX5_faultFound j' vR' = some (vR' 12) from rfl, bdS, show fX5_faultStart j' vR' = some (vR' 8) from rfl, bdS, if_neg nz1, show fX5_exchange j' vR' = some () from rfl, bdS, eb, bdS]
        simp only
        rw [el, bdS, w12, a2]
        rfl
      · rw [v11] at e
        exact absurd e (by decide)
      · simp only [htl, if_true]
        exact (hP.2.2.1.1 t htl).2.1
      · simp only [show ¬ 7 < S.h 3 by omega, if_false]
        exact Nat.two_pow_pos _
      · simp only [show ¬ 8 < S.h 3 by omega, if_false]
        omega
      · simp only [htl, hul, if_true] at e
        exact hP.2.2.1.2 t u htl hul e
      · simp only [show ¬ 8 < S.h 3 by omega, if_false]
        omega
      · simp only [htl, if_true]
        rw [hb1 t (by omega)]
        exact (hH.2.2.2.2.2.2.1 t htl).2.1
      · simp only [show ¬ 7 < S.h 3 by omega, if_false]
        exact hb7
      · simp only [show ¬ 8 < S.h 3 by omega, if_false]
        exact hb8
      · by_cases k3 : k < S.h 3
        · simp only [k3, if_true]
          exact q5 k k3
        · simp only [k3, if_false]
          exact q6 k (by omega) hk
  · refine ⟨-1, upd vN 6 2, j, vR, vH0, vU0, nxt0, wd0, mn0, mp0, mf0, tN0, rN0, plc0, ut0, uc0, un0, uw0, fc0, kd0, sz0, d10, d20, srt0, vD, now, vB, rn, aH, aH0, upd (upd (upd vM 0 0) 11 0) 11 2, lt, fr, rr, st, ?_, ?_, Or.inl ⟨rfl, rfl, RL_q hr (tr := nI 2) (by decide) (MA_no vM 2)⟩⟩
    · unfold fX8_house
      rcases hx with hx | hx
      · rw [if_pos hx]
        rfl
      · rw [if_neg (show ¬ x < 0 from ge_nneg (by omega) hx), show fX5_count j vR = some (vR 1) from rfl, bdS, t2, if_neg (ge_nle (by omega) hx)]
        rfl
    · unfold fX9_house
      rw [m_gd, bdS, show upd (upd vM 0 0) 11 0 2 = nI nT from t3, show fX9_in x 0 (nI nT) = some (nI 0) from m_inn_f (by omega) hx, bdS, if_pos z0]
      rfl
end RQ7
