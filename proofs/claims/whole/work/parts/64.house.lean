/-! MATH 44: house(n): the ends of reading, on both sides (written by gen/g64.py) -/
section JH
variable {tb : Nat → Nat} {n : Nat} {tc tm rr st vM lt fr : Nat → Int32}
theorem m_houseEnd {h : Nat → Nat} (h3 : h 3 ≤ 7) (hb : ∀ k, k < 224 → h k < 1000) (hr : ∀ k, k < 224 → fr k = nI (h k)) (h13 : vM 13 = nI 0) : ∃ r2 st2, fX9_house_J162 rr st fr lt vM = some (nI (h 2), upd (upd (upd vM 14 1) 20 0) 21 0, lt, fr, r2, st2) ∧ (∀ k, k < 224 → r2 k = nI (h k)) ∧ (∀ t, t < h 3 → st2 t = nI (h (62 + 3 * t + 1))) ∧ ∀ k, h 3 ≤ k → k < 9 → st2 k = nI 0 := by
  unfold fX9_house_J162
  rw [if_pos (show vM 13 = 0 from h13)]
  obtain ⟨p, ep, hp⟩ := m_copy (n0 := 224) (n2 := 224) (a := 0) (b := 0) (k := 224) (p0 := fr) (p2 := rr) (by omega) (by omega) (by omega) (by omega)
  rw [show fX9_copy 224 fr 224 rr 0 0 224 = some p from ep, bdS]
  have hp2 : ∀ k, k < 224 → p k = nI (h k) := fun k hk => by
    rw [hp k, if_pos (by omega)]
    simpa using hr k hk
  have hp3 : p 3 = nI (h 3) := hp2 3 (by omega)
  have hpp : p 2 = nI (h 2) := hp2 2 (by omega)
  refine Exists.elim (lp_inv (f := fX9_house_B193) (fun i s => ∃ q, s = (nI i, fr, lt, p, q, vM) ∧ ∀ k, k < i → q k = nI 0) (fun res => ∃ st2, res = (nI (h 2), upd (upd (upd vM 14 1) 20 0) 21 0, lt, fr, p, st2) ∧ (∀ t, t < h 3 → st2 t = nI (h (62 + 3 * t + 1))) ∧ ∀ k, h 3 ≤ k → k < 9 → st2 k = nI 0) 9 ?_ ?_ 5000 0 (nI 0, fr, lt, p, st, vM) (Nat.zero_le _) ⟨st, rfl, fun k hk => by omega⟩ (by omega)) (fun res hr => ?_)
  · rintro i s hi ⟨q, rfl, hq⟩
    left
    simp (disch := omega) only [fX9_house_B193, nlq, nI_leI, ok_nI, gdT, nI_clamp, nI_add]
    rw [if_neg (by omega)]
    refine ⟨_, rfl, _, rfl, fun k hk => ?_⟩
    unfold upd
    by_cases e : k = i
    · rw [if_pos e]
    · rw [if_neg e]
      exact hq k (by omega)
  · rintro s ⟨q, rfl, hq⟩
    refine Exists.elim (lp_inv (f := fX9_house_B214) (fun i s => ∃ q, s = (nI i, fr, lt, p, q, vM) ∧ (∀ t, t < i → q t = nI (h (62 + 3 * t + 1))) ∧ ∀ k, i ≤ k → k < 9 → q k = nI 0) (fun res => ∃ st2, res = (nI (h 2), upd (upd (upd vM 14 1) 20 0) 21 0, lt, fr, p, st2) ∧ (∀ t, t < h 3 → st2 t = nI (h (62 + 3 * t + 1))) ∧ ∀ k, h 3 ≤ k → k < 9 → st2 k = nI 0) (h 3) ?_ ?_ 5000 0 (nI 0, fr, lt, p, q, vM) (Nat.zero_le _) ⟨q, rfl, fun t ht => by omega, fun k _ hk => hq k hk⟩ (by omega)) (fun res hr => ?_)
    · rintro i s hi ⟨q, rfl, hq1, hq2⟩
      left
      have g := hp2 (62 + 3 * i + 1) (by omega)
      simp (disch := omega) only [fX9_house_B214, nlq, nI_leI, ok_nI, gdT, nI_clamp, hp3, pk_mul, nI_add, g]
      rw [if_neg (by omega)]
      refine ⟨_, rfl, _, rfl, fun t ht => ?_, fun k hk hk9 => ?_⟩
      · unfold upd
        by_cases e : t = i
        · rw [if_pos e, e]
        · rw [if_neg e]
          exact hq1 t (by omega)
      · unfold upd
        rw [if_neg (by omega)]
        exact hq2 k (by omega) hk9
    · rintro s ⟨q, rfl, hq1, hq2⟩
      have : fX9_house_B214 (nI (h 3), fr, lt, p, q, vM) = ex (some (nI (h 2), upd (upd (upd vM 14 1) 20 0) 21 0, lt, fr, p, q)) := by
        show gd (okI 3 224) (if p 3 ≤ nI (h 3) then _ else _) = _
        rw [show okI (3 : Int32) 224 = true from rfl, gdT, hp3, if_pos (show nI (h 3) ≤ nI (h 3) by rw [nI_leI (by omega) (by omega)]; exact Nat.le_refl _), ← hpp]
        rfl
      rw [this]
      exact ⟨_, rfl, q, rfl, hq1, hq2⟩
    · obtain ⟨e, st2, hr, q1, q2⟩ := hr
      refine ⟨res, ?_, st2, hr, q1, q2⟩
      unfold fX9_house_B193
      simp only
      rw [if_pos (show (9 : Int32) ≤ nI 9 by decide), show lp fX9_house_B214 5000 (0, fr, lt, p, q, vM) = some res from e]
      rfl
  · obtain ⟨e, st2, hr, q1, q2⟩ := hr
    exact ⟨p, st2, e.trans (congrArg some hr), hp2, q1, q2⟩
/-- the reference has failed -/
theorem m_houseFail (h13 : vM 13 = nI 1) : fX9_house_J127 rr st fr lt vM = some (-1, upd vM 11 4, lt, fr, rr, st) := by
  unfold fX9_house_J127 fX9_house_J162
  rw [if_neg (mf_ne h13), if_neg (mf_ne h13)]
  rfl
theorem m_houseFail2 (h13 : vM 13 = nI 1) : fX9_house_J104 rr st fr lt vM = some (-1, upd vM 11 4, lt, fr, rr, st) := by
  unfold fX9_house_J104
  rw [if_neg (mf_ne h13), m_houseFail h13]
variable {r : Int32} {d1 : Nat → Int32} {d2 : Nat → Int32} {fc : Nat → Int32} {kd : Nat → Int32} {mf : Nat → Int32} {mn : Nat → Int32} {mp : Nat → Int32} {nxt : Nat → Int32} {plc : Nat → Int32} {sz : Nat → Int32} {srt : Nat → Int32} {wd : Nat → Int32} {rN : Nat → Int64} {tN : Nat → Int64} {uc : Nat → Int32} {un : Nat → Int32} {ut : Nat → Int32} {uw : Nat → Int32} {j : Int64} {vH : Nat → Int32} {vR : Nat → Int32} {vU : Nat → Int32}
theorem j_ends (hq : JF vM r vR ∨ (r = nI 1 ∧ ∃ S, S.t.k ≠ 4 ∧ JT tb n S vM lt fr vR j rN tN vH vU mn mp mf plc ut uc un uw fc kd sz d1 d2 wd srt nxt)) : (∃ e v, fX9_house_J104 rr st fr lt vM = some (-1, upd v 11 4, lt, fr, rr, st) ∧ MF e v ∧ KM vM v ∧ ∃ w, fX5_read_J77 r d1 d2 fc kd mf mn mp nxt plc sz srt wd rN tN uc un ut uw j vH vR vU = some (nI 0, j, w, vH, vU, nxt, wd, mn, mp, mf, tN, rN, plc, ut, uc, un, uw, fc, kd, sz, d1, d2, srt) ∧ CF e w ∧ KD vR w) ∨ (r = nI 1 ∧ fX5_read_J77 r d1 d2 fc kd mf mn mp nxt plc sz srt wd rN tN uc un ut uw j vH vR vU = some (nI 1, j, vR, vH, vU, nxt, wd, mn, mp, mf, tN, rN, plc, ut, uc, un, uw, fc, kd, sz, d1, d2, srt) ∧ ∃ S, JT tb n S vM lt fr vR j rN tN vH vU mn mp mf plc ut uc un uw fc kd sz d1 d2 wd srt nxt ∧ 0 < S.h 2 ∧ 0 < S.h 0 ∧ ∃ r2 st2, fX9_house_J104 rr st fr lt vM = some (nI (S.h 2), upd (upd (upd vM 14 1) 20 0) 21 0, lt, fr, r2, st2) ∧ (∀ k, k < 224 → r2 k = nI (S.h k)) ∧ (∀ t, t < S.h 3 → st2 t = nI (S.h (62 + 3 * t + 1))) ∧ ∀ k, S.h 3 ≤ k → k < 9 → st2 k = nI 0) := by
  rcases hq with ⟨e, hf, rfl, hcf⟩ | ⟨rfl, S, k4, hj⟩
  · left
    refine ⟨e, vM, m_houseFail2 hf.1, hf, KM.refl _, vR, ?_, hcf, fun _ _ _ _ _ _ _ => rfl⟩
    unfold fX5_read_J77
    rw [if_pos (show nI 0 = 0 from rfl)]
    rfl
  · obtain ⟨hs, hc, h5, hP, hR, hH⟩ := id hj
    have ho := hc.2.1
    have hk := ho.2.2.1
    have e6 : vM 6 = nI (mtok S.t.k) := hs.2.2.1.2.2.2.1
    have e7 : vR 7 = nI (ctok S.t.k) := hc.1.2.1
    have e4 : vM 4 = nI S.t.at_ := hs.2.2.1.2.1
    have c4 := ctok_le hk
    by_cases k0 : S.t.k = 0
    · have e6' : vM 6 = 0 := by rw [e6, k0]; rfl
      have e7' : vR 7 = 0 := by rw [e7, k0]; rfl
      have f0 : fr (0 : Int32).toNatClampNeg = nI (S.h 0) := hs.2.2.2.2.1 0 (by omega)
      have f2 : fr (2 : Int32).toNatClampNeg = nI (S.h 2) := hs.2.2.2.2.1 2 (by omega)
      have b2 := hP.1.2.2.2.1
      have b0 := hP.1.2.1
      have a2 : vH 2 = nI (S.h 2) := hH.1.2.2.1
      have b9 := hP.1.2.2.2.2.2.2.2.2.2
      unfold fX9_house_J104 fX5_read_J77
      rw [if_pos (show vM 13 = 0 from hs.1), if_pos e6', if_neg nz1, if_pos e7']
      unfold fX9_house_J127
      rw [if_pos (show vM 13 = 0 from hs.1), show okI (0 : Int32) 224 = true from rfl, gdT, show okI (2 : Int32) 224 = true from rfl, gdT, f0, f2]
      by_cases z2 : S.h 2 = 0
      · left
        obtain ⟨v, e, hf, hkm⟩ := m_wrong hs.1 6 S.t.at_
        obtain ⟨v', e', hf', hk'⟩ := c_fails hc 6
        have J152 : fX9_house_J152 rr st fr lt vM = some (-1, upd v 11 4, lt, fr, rr, st) := by
          unfold fX9_house_J152
          rw [e4, show fX9_wrong vM 6 (nI S.t.at_) = some v from e, bdS]
          unfold fX9_house_J162
          rw [if_neg (mf_ne hf.1)]
          rfl
        refine ⟨(6, S.t.at_), v, ?_, hf, hkm, v', ?_, hf', hk'.d⟩
        · by_cases z0 : nI (S.h 0) = 0
          · rw [if_pos z0, J152]
          · rw [if_neg z0, if_pos (show nI (S.h 2) = 0 by rw [z2]; rfl), J152]
        · rw [c_stands_f (by rw [a2, z2]), bdS, if_pos (show nI 0 = 0 from rfl), show fX5_fails j vR 6 = some (nI 0, v') from e', bdS]
          rfl
      · right
        have z0 : 0 < S.h 0 := by
          rcases Nat.eq_zero_or_pos (S.h 0) with z | z
          · have := b9 z; omega
          · exact z
        obtain ⟨r2, st2, er, q1, q2, q3⟩ := m_houseEnd (rr := rr) (st := st) (lt := lt) (h := S.h) hP.1.2.2.2.2.1 hP.1.1 (fun k hk => hs.2.2.2.2.1 k hk) hs.1
        refine ⟨rfl, ?_, S, hj, by omega, z0, r2, st2, ?_, q1, q2, q3⟩
        · rw [c_stands_t b2 (by omega) a2, bdS, if_neg nz1]
          rfl
        · rw [if_neg (nI_ne0 z0 (by omega)), if_neg (nI_ne0 (by omega) (by omega)), er]
    · left
      obtain ⟨v, e, hf, hkm⟩ := m_wrong hs.1 1 S.t.at_
      obtain ⟨v', e', hf', hk'⟩ := c_fails hc 1
      refine ⟨(1, S.t.at_), v, ?_, hf, hkm, v', ?_, hf', hk'.d⟩
      · unfold fX9_house_J104
        have : ¬ vM 6 = 0 := by
          rw [e6]
          refine nI_ne0 ?_ ?_
          · unfold mtok; split <;> omega
          · unfold mtok; split <;> omega
        rw [if_pos (show vM 13 = 0 from hs.1), if_neg this, e4, show fX9_wrong vM 1 (nI S.t.at_) = some v from e, bdS, m_houseFail hf.1]
      · unfold fX5_read_J77
        have : ¬ vR 7 = 0 := by
          rw [e7]
          refine nI_ne0 ?_ (by omega)
          unfold ctok
          rw [if_neg k0]
          split <;> omega
        rw [if_neg nz1, if_neg this, show fX5_fails j vR 1 = some (nI 0, v') from e', bdS]
        rfl
/-- nothing told yet -/
theorem JT_0 {S1 : Tk} (hm : MS tb n (S1, fun _ => 0) vM lt fr) (hc : CS0 tb n S1 vR j) (h5 : vR 5 = nI 0) (hv : ∀ k, k < 7 → vH k = nI 0) (hu : vU 0 = nI 0) (hw : ∀ x, x < 36 → wd x = nI 10) : JT tb n (S1, fun _ => 0) vM lt fr vR j rN tN vH vU mn mp mf plc ut uc un uw fc kd sz d1 d2 wd srt nxt := by
  refine ⟨hm, hc, h5, ⟨⟨fun k hk => by show 0 < 1000; omega, ?_, ?_, ?_, ?_, ?_, ?_, ?_, ?_, fun _ => ⟨rfl, rfl, rfl, rfl, rfl, rfl⟩⟩, fun g hg => absurd hg (Nat.not_lt_zero g), ⟨fun t ht => absurd ht (Nat.not_lt_zero t), fun t u ht => absurd ht (Nat.not_lt_zero t)⟩, fun x hx => by show 0 ≤ 10; omega, ⟨fun d hd => absurd hd (Nat.not_lt_zero d), fun d hd => absurd hd (Nat.not_lt_zero d)⟩, fun w hww => absurd hww (Nat.not_lt_zero w), fun m hmm => absurd hmm (Nat.not_lt_zero m), ?_⟩, ⟨fun x hx => absurd hx (Nat.not_lt_zero x), fun x hx => absurd hx (Nat.not_lt_zero x)⟩, ⟨⟨hv 0 (by omega), hv 1 (by omega), hv 2 (by omega), hv 3 (by omega), hv 4 (by omega), hv 5 (by omega), hv 6 (by omega)⟩, ⟨hu, fun w hww => absurd hww (Nat.not_lt_zero w)⟩, fun g hg => absurd hg (Nat.not_lt_zero g), fun x _ hok => absurd hok.1 (Nat.not_lt_zero _), fun x hx => hw x hx, fun d hd => absurd hd (Nat.not_lt_zero d), fun t ht => absurd ht (Nat.not_lt_zero t), fun m hmm => absurd hmm (Nat.not_lt_zero m)⟩⟩
  · show 0 ≤ 5; omega
  · show 0 ≤ 100; omega
  · show 0 ≤ 4; omega
  · show 0 ≤ 7; omega
  · show 0 ≤ 6; omega
  · show 0 ≤ 5; omega
  · show 0 ≤ 6; omega
  · show 0 ≤ 6; omega
  · show NMS (fun _ => 0) 0
    exact ⟨by show 0 ≤ 4; omega, by omega, fun x _ => ⟨by show 0 ≤ 8; omega, fun i hi => absurd hi (Nat.not_lt_zero i)⟩, fun x hx => absurd hx (Nat.not_lt_zero x), fun _ _ _ => rfl, fun x hx => absurd hx (Nat.not_lt_zero x), fun _ _ _ => rfl, fun x y _ _ hx => absurd hx (Nat.lt_irrefl 0)⟩
set_option maxHeartbeats 1600000 in
theorem j_read (ht : TPR tb n tc tm) (rr st : Nat → Int32) {nT : Nat} (h2 : vM 2 = nI nT) (hnT : nT ≤ 900) (hnn : n ≤ nT) : (∃ e v lt' fr', fX9_house vM tm lt fr rr st (nI n) = some (-1, v, lt', fr', rr, st) ∧ v 9 = nI e.1 ∧ v 10 = nI e.2 ∧ v 11 = 4 ∧ v 2 = nI 0 ∧ v 0 = nI 0 ∧ (∀ k, 14 ≤ k → v k = vM k) ∧ ∃ d1' d2' fc' kd' mf' mn' mp' nxt' plc' sz' srt' wd' rN' tN' uc' un' ut' uw' j' vH' vR' vU', fX5_read j vR vH vU nxt wd tc mn mp mf tN rN plc ut uc un uw fc kd sz d1 d2 srt (nI n) = some (nI 0, j', vR', vH', vU', nxt', wd', mn', mp', mf', tN', rN', plc', ut', uc', un', uw', fc', kd', sz', d1', d2', srt') ∧ CF e vR' ∧ vR' 1 = nI 0) ∨ (∃ v lt' fr' r2 st2 S lt2 d1' d2' fc' kd' mf' mn' mp' nxt' plc' sz' srt' wd' rN' tN' uc' un' ut' uw' j' vH' vR' vU', fX9_house vM tm lt fr rr st (nI n) = some (nI (S.h 2), v, lt', fr', r2, st2) ∧ v 9 = nI 0 ∧ v 11 = nI 0 ∧ v 2 = nI 0 ∧ v 0 = nI 0 ∧ v 14 = nI 1 ∧ v 20 = nI 0 ∧ v 21 = nI 0 ∧ fX5_read j vR vH vU nxt wd tc mn mp mf tN rN plc ut uc un uw fc kd sz d1 d2 srt (nI n) = some (nI 1, j', vR', vH', vU', nxt', wd', mn', mp', mf', tN', rN', plc', ut', uc', un', uw', fc', kd', sz', d1', d2', srt') ∧ vR' 12 = nI 0 ∧ vR' 1 = nI 0 ∧ 0 < S.h 2 ∧ 0 < S.h 0 ∧ (∃ vM2, JT tb n S vM2 lt2 fr' vR' j' rN' tN' vH' vU' mn' mp' mf' plc' ut' uc' un' uw' fc' kd' sz' d1' d2' wd' srt' nxt') ∧ (∀ k, k < 224 → r2 k = nI (S.h k)) ∧ (∀ t, t < S.h 3 → st2 t = nI (S.h (62 + 3 * t + 1))) ∧ ∀ k, S.h 3 ≤ k → k < 9 → st2 k = nI 0) := by
  have hn := ht.1
  -- the class begins
  obtain ⟨nx0, en, hn0⟩ := c_fill (n0 := 36) (p0 := nxt) 0 (by omega)
  obtain ⟨wd0, ew, hw0⟩ := c_fill (n0 := 36) (p0 := wd) 10 (by omega)
  have ecl : fX4_clear vH vU nxt wd = some (upd (upd (upd (upd (upd (upd (upd vH 0 0) 1 0) 2 0) 3 0) 4 0) 5 0) 6 0, upd vU 0 0, nx0, wd0) := by
    unfold fX4_clear fX7_clear
    rw [bdS, en, bdS, ew, bdS]
  obtain ⟨j1, v1, c1, hl1, hk1⟩ := c_step (w := j) (vR := upd (upd (upd (upd (upd vR 1 0) 5 0) 6 (nI n)) 9 0) 12 0) ht rfl (Nat.zero_le n) rfl
  have t1 : CS0 tb n (lex tb n 0) v1 j1 := ⟨hl1, (lex_ok tb (Nat.zero_le n)).1, by rw [hk1 12 (by omega) (by omega) (by omega) (by omega)]; rfl⟩
  -- the reference begins
  have hcl : ∃ f0, (∀ k, k < 224 → f0 k = nI 0) ∧ fX9_house vM tm lt fr rr st (nI n) = (Option.bind (fX9_next (upd (upd (upd (upd (upd (upd (upd vM 0 0) 11 0) 2 0) 9 0) 13 0) 3 (nI n)) 5 0) tm lt) fun (vM_70, vM_letters_70) => (Option.bind (fX9_readLine vM_70 vM_letters_70 f0 tm) fun (vM_74, vM_letters_74, vM_fresh_74) => (lp (fX9_house_B77 tm rr st) 5000 (vM_fresh_74, vM_letters_74, vM_74)))) := by
    unfold fX9_house
    rw [show fX9_good vM = some (upd (upd vM 0 0) 11 0) from rfl, bdS, show upd (upd vM 0 0) 11 0 2 = nI nT from h2, show fX9_in (nI n) 0 (nI nT) = some (nI 1) from m_inn_t (by omega) hnn, bdS, if_neg nz1]
    have key : ∀ (i : Nat) (f : Nat → Int32), i ≤ 224 → (∀ k, k < i → f k = nI 0) → ∃ f0, (∀ k, k < 224 → f0 k = nI 0) ∧ lp (fX9_house_B39 tm lt rr st (nI n)) (5000 - i) (nI i, f, upd (upd (upd (upd (upd vM 0 0) 11 0) 2 0) 9 0) 13 0) = (Option.bind (fX9_next (upd (upd (upd (upd (upd (upd (upd vM 0 0) 11 0) 2 0) 9 0) 13 0) 3 (nI n)) 5 0) tm lt) fun (vM_70, vM_letters_70) => (Option.bind (fX9_readLine vM_70 vM_letters_70 f0 tm) fun (vM_74, vM_letters_74, vM_fresh_74) => (lp (fX9_house_B77 tm rr st) 5000 (vM_fresh_74, vM_letters_74, vM_74)))) := by
      intro i f hi
      induction h : 224 - i generalizing i f with
      | zero =>
        intro hf
        obtain rfl : i = 224 := by omega
        refine ⟨f, hf, lp_ex (by omega) ?_⟩
        unfold fX9_house_B39
        simp only
        rw [if_pos (show (224 : Int32) ≤ nI 224 by decide)]
      | succ m ih =>
        intro hf
        have hi2 : i < 224 := by omega
        obtain ⟨f0, h0, e0⟩ := ih (i + 1) (upd f i (nI 0)) (by omega) (by omega) (fun k hk => by
          unfold upd
          by_cases e : k = i
          · rw [if_pos e]
          · rw [if_neg e]; exact hf k (by omega))
        refine ⟨f0, h0, ?_⟩
        rw [← e0, lp_inr (s' := (nI (i + 1), upd f i (nI 0), upd (upd (upd (upd (upd vM 0 0) 11 0) 2 0) 9 0) 13 0)) (by omega) ?_, show 5000 - i - 1 = 5000 - (i + 1) by omega]
        simp (disch := omega) only [fX9_house_B39, nlq, nI_leI, ok_nI, gdT, nI_clamp, nI_add]
        rw [if_neg (by omega)]
    exact key 0 fr (by omega) (fun k hk => by omega)
  obtain ⟨f0, hf0, eM0⟩ := hcl
  obtain ⟨w1, l1, e1, hl, ho⟩ := m_next (lt := lt) (vM := upd (upd (upd (upd (upd (upd (upd vM 0 0) 11 0) 2 0) 9 0) 13 0) 3 (nI n)) 5 0) ht rfl (Nat.zero_le n) rfl
  have s1 : MS tb n (lex tb n 0, fun _ => 0) w1 l1 f0 := ⟨by rw [ho 13 (by omega) (by omega) (by omega) (by omega) (by omega)]; rfl, by rw [ho 9 (by omega) (by omega) (by omega) (by omega) (by omega)]; rfl, hl, (lex_ok tb (Nat.zero_le n)).1, fun k hk => hf0 k hk, fun k hk => by show 0 < 1000; omega⟩
  have w2 : w1 2 = nI 0 := by rw [ho 2 (by omega) (by omega) (by omega) (by omega) (by omega)]; rfl
  have w0 : w1 0 = nI 0 := by rw [ho 0 (by omega) (by omega) (by omega) (by omega) (by omega)]; rfl
  have w11 : w1 11 = nI 0 := by rw [ho 11 (by omega) (by omega) (by omega) (by omega) (by omega)]; rfl
  have wo : ∀ k, 14 ≤ k → w1 k = vM k := fun k hk => by
    rw [ho k (by omega) (by omega) (by omega) (by omega) (by omega)]
    unfold upd
    rw [if_neg (by omega), if_neg (by omega), if_neg (by omega), if_neg (by omega), if_neg (by omega), if_neg (by omega), if_neg (by omega)]
  have v15 : v1 5 = nI 0 := by rw [hk1 5 (by omega) (by omega) (by omega) (by omega)]; rfl
  have v11 : v1 1 = nI 0 := by rw [hk1 1 (by omega) (by omega) (by omega) (by omega)]; rfl
  have hj0 : JT tb n (lex tb n 0, fun _ => 0) w1 l1 f0 v1 j1 rN tN (upd (upd (upd (upd (upd (upd (upd vH 0 0) 1 0) 2 0) 3 0) 4 0) 5 0) 6 0) (upd vU 0 0) mn mp mf plc ut uc un uw fc kd sz d1 d2 wd0 srt nx0 := JT_0 s1 t1 v15 (fun k hk => by
    rcases (show k = 0 ∨ k = 1 ∨ k = 2 ∨ k = 3 ∨ k = 4 ∨ k = 5 ∨ k = 6 by omega) with rfl | rfl | rfl | rfl | rfl | rfl | rfl <;> rfl) rfl (fun x hx => hw0 x hx)
  obtain ⟨vM2, lt2, fr2, e2, km2, r2, j2, vR2, vH2, vU2, mn2, mp2, mf2, tN2, rN2, plc2, ut2, uc2, un2, uw2, fc2, kd2, sz2, d12, d22, wd2, srt2, nxt2, c2, kdd2, q2⟩ := j_line ht hj0
  -- what follows the first line
  have hlp : ∃ (vM3 lt3 fr3 : Nat → Int32) (r3 : Int32) (d13 : Nat → Int32) (d23 : Nat → Int32) (fc3 : Nat → Int32) (kd3 : Nat → Int32) (mf3 : Nat → Int32) (mn3 : Nat → Int32) (mp3 : Nat → Int32) (nxt3 : Nat → Int32) (plc3 : Nat → Int32) (sz3 : Nat → Int32) (srt3 : Nat → Int32) (wd3 : Nat → Int32) (rN3 : Nat → Int64) (tN3 : Nat → Int64) (uc3 : Nat → Int32) (un3 : Nat → Int32) (ut3 : Nat → Int32) (uw3 : Nat → Int32) (j3 : Int64) (vH3 : Nat → Int32) (vR3 : Nat → Int32) (vU3 : Nat → Int32), lp (fX9_house_B77 tm rr st) 5000 (fr2, lt2, vM2) = fX9_house_J104 rr st fr3 lt3 vM3 ∧ lp (fX5_read_B43 tc) 5000 (r2, nI 0, d12, d22, fc2, kd2, mf2, mn2, mp2, nxt2, plc2, sz2, srt2, wd2, rN2, tN2, uc2, un2, ut2, uw2, j2, vH2, vR2, vU2) = fX5_read_J77 r3 d13 d23 fc3 kd3 mf3 mn3 mp3 nxt3 plc3 sz3 srt3 wd3 rN3 tN3 uc3 un3 ut3 uw3 j3 vH3 vR3 vU3 ∧ KM vM2 vM3 ∧ KD vR2 vR3 ∧ (JF vM3 r3 vR3 ∨ (r3 = nI 1 ∧ ∃ S', S'.t.k ≠ 4 ∧ JT tb n S' vM3 lt3 fr3 vR3 j3 rN3 tN3 vH3 vU3 mn3 mp3 mf3 plc3 ut3 uc3 un3 uw3 fc3 kd3 sz3 d13 d23 wd3 srt3 nxt3)) := by
    rcases q2 with ⟨e, hf, rfl, hcf⟩ | ⟨rfl, S2, hS2, hj2⟩
    · refine ⟨vM2, lt2, fr2, nI 0, d12, d22, fc2, kd2, mf2, mn2, mp2, nxt2, plc2, sz2, srt2, wd2, rN2, tN2, uc2, un2, ut2, uw2, j2, vH2, vR2, vU2, ?_, ?_, KM.refl _, fun _ _ _ _ _ _ _ => rfl, Or.inl ⟨e, hf, rfl, hcf⟩⟩
      · refine lp_ex (by omega) ?_
        show (if vM2 13 = 0 then (if vM2 6 = 59 then _ else _) else _) = _
        rw [if_neg (mf_ne hf.1)]
      · refine lp_ex (by omega) ?_
        unfold fX5_read_B43
        simp only
        rw [if_neg (show ¬ (900 : Int32) ≤ nI 0 by decide), if_pos (show nI 0 = 0 from rfl)]
    · exact j_loop ht 900 0 S2 vM2 lt2 fr2 d12 d22 fc2 kd2 mf2 mn2 mp2 nxt2 plc2 sz2 srt2 wd2 rN2 tN2 uc2 un2 ut2 uw2 j2 vH2 vR2 vU2 (by omega) (Nat.zero_le _) hj2 5000 5000 (by omega) (by omega)
  obtain ⟨vM3, lt3, fr3, r3, d13, d23, fc3, kd3, mf3, mn3, mp3, nxt3, plc3, sz3, srt3, wd3, rN3, tN3, uc3, un3, ut3, uw3, j3, vH3, vR3, vU3, x1, x2, km3, kdd3, q3⟩ := hlp
  have eM : fX9_house vM tm lt fr rr st (nI n) = fX9_house_J104 rr st fr3 lt3 vM3 := by
    rw [eM0, e1, bdS]
    simp only
    rw [e2, bdS]
    exact x1
  have eC : fX5_read j vR vH vU nxt wd tc mn mp mf tN rN plc ut uc un uw fc kd sz d1 d2 srt (nI n) = fX5_read_J77 r3 d13 d23 fc3 kd3 mf3 mn3 mp3 nxt3 plc3 sz3 srt3 wd3 rN3 tN3 uc3 un3 ut3 uw3 j3 vH3 vR3 vU3 := by
    unfold fX5_read
    rw [ecl, bdS]
    simp only
    rw [c1, bdS]
    simp only
    rw [c2, bdS]
    exact x2
  rw [eM, eC]
  have kmx := km2.trans km3
  have kdx : vR3 1 = nI 0 := by rw [kdd3 1 (by omega) (by omega) (by omega) (by omega) (by omega) (by omega), kdd2 1 (by omega) (by omega) (by omega) (by omega) (by omega) (by omega)]; exact v11
  have m0 : vM3 0 = nI 0 := by rw [kmx 0 (by omega) (by omega) (by omega) (by omega) (by omega) (by omega) (by omega) (by omega)]; exact w0
  have m2 : vM3 2 = nI 0 := by rw [kmx 2 (by omega) (by omega) (by omega) (by omega) (by omega) (by omega) (by omega) (by omega)]; exact w2
  have m11 : vM3 11 = nI 0 := by rw [kmx 11 (by omega) (by omega) (by omega) (by omega) (by omega) (by omega) (by omega) (by omega)]; exact w11
  have mo : ∀ k, 14 ≤ k → vM3 k = vM k := fun k hk => by rw [kmx k (by omega) (by omega) (by omega) (by omega) (by omega) (by omega) (by omega) (by omega)]; exact wo k hk
  rcases j_ends (rr := rr) (st := st) q3 with ⟨e, v, ea, hf, hkm, w, eb, hcf, hkd⟩ | ⟨rfl, eb, S, hS, hs2, hs0, r4, st4, ea, q4, q5, q6⟩
  · left
    refine ⟨e, upd v 11 4, lt3, fr3, ea, ?_, ?_, rfl, ?_, ?_, fun k hk => ?_, d13, d23, fc3, kd3, mf3, mn3, mp3, nxt3, plc3, sz3, srt3, wd3, rN3, tN3, uc3, un3, ut3, uw3, j3, vH3, w, vU3, eb, hcf, ?_⟩
    · exact hf.2.1
    · exact hf.2.2
    · rw [← m2]
      exact hkm 2 (by omega) (by omega) (by omega) (by omega) (by omega) (by omega) (by omega) (by omega)
    · rw [← m0]
      exact hkm 0 (by omega) (by omega) (by omega) (by omega) (by omega) (by omega) (by omega) (by omega)
    · rw [← mo k hk]
      unfold upd
      rw [if_neg (by omega)]
      exact hkm k (by omega) (by omega) (by omega) (by omega) (by omega) (by omega) (by omega) (by omega)
    · rw [← kdx]
      exact hkd 1 (by omega) (by omega) (by omega) (by omega) (by omega) (by omega)
  · right
    refine ⟨upd (upd (upd vM3 14 1) 20 0) 21 0, lt3, fr3, r4, st4, S, lt3, d13, d23, fc3, kd3, mf3, mn3, mp3, nxt3, plc3, sz3, srt3, wd3, rN3, tN3, uc3, un3, ut3, uw3, j3, vH3, vR3, vU3, ea, hS.1.2.1, m11, m2, m0, rfl, rfl, rfl, eb, hS.2.1.2.2, kdx, hs2, hs0, ⟨vM3, hS⟩, q4, q5, q6⟩
end JH
