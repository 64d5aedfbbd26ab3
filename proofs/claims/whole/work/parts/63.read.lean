/-! MATH 43: reading a text, on both sides (written by gen/g63.py) -/
theorem lp_ex {σ ρ : Type} {f : σ → Option (ρ ⊕ σ)} {s : σ} {o : Option ρ} {k : Nat} (hk : 0 < k) (h : f s = ex o) : lp f k s = o := by
  obtain ⟨m, rfl⟩ : ∃ m, k = m + 1 := ⟨k - 1, by omega⟩
  rw [lp, h]
  cases o <;> rfl
theorem lp_inr {σ ρ : Type} {f : σ → Option (ρ ⊕ σ)} {s s' : σ} {k : Nat} (hk : 0 < k) (h : f s = some (.inr s')) : lp f k s = lp f (k - 1) s' := by
  obtain ⟨m, rfl⟩ : ∃ m, k = m + 1 := ⟨k - 1, by omega⟩
  rw [lp, h]
  rfl
section JR
variable {tb : Nat → Nat} {n : Nat} {tc tm rr st : Nat → Int32}
set_option maxHeartbeats 1600000 in
theorem j_loop (ht : TPR tb n tc tm) : ∀ (m i : Nat) (S : PS) (vM lt fr : Nat → Int32) (d1 : Nat → Int32) (d2 : Nat → Int32) (fc : Nat → Int32) (kd : Nat → Int32) (mf : Nat → Int32) (mn : Nat → Int32) (mp : Nat → Int32) (nxt : Nat → Int32) (plc : Nat → Int32) (sz : Nat → Int32) (srt : Nat → Int32) (wd : Nat → Int32) (rN : Nat → Int64) (tN : Nat → Int64) (uc : Nat → Int32) (un : Nat → Int32) (ut : Nat → Int32) (uw : Nat → Int32) (j : Int64) (vH : Nat → Int32) (vR : Nat → Int32) (vU : Nat → Int32), n - S.t.at_ ≤ m → i ≤ S.t.at_ → JT tb n S vM lt fr vR j rN tN vH vU mn mp mf plc ut uc un uw fc kd sz d1 d2 wd srt nxt → ∀ fC fM : Nat, m + 1 < fC → m + 1 < fM → ∃ (vM' lt' fr' : Nat → Int32) (r : Int32) (d1' : Nat → Int32) (d2' : Nat → Int32) (fc' : Nat → Int32) (kd' : Nat → Int32) (mf' : Nat → Int32) (mn' : Nat → Int32) (mp' : Nat → Int32) (nxt' : Nat → Int32) (plc' : Nat → Int32) (sz' : Nat → Int32) (srt' : Nat → Int32) (wd' : Nat → Int32) (rN' : Nat → Int64) (tN' : Nat → Int64) (uc' : Nat → Int32) (un' : Nat → Int32) (ut' : Nat → Int32) (uw' : Nat → Int32) (j' : Int64) (vH' : Nat → Int32) (vR' : Nat → Int32) (vU' : Nat → Int32), lp (fX9_house_B77 tm rr st) fM (fr, lt, vM) = fX9_house_J104 rr st fr' lt' vM' ∧ lp (fX5_read_B43 tc) fC (nI 1, nI i, d1, d2, fc, kd, mf, mn, mp, nxt, plc, sz, srt, wd, rN, tN, uc, un, ut, uw, j, vH, vR, vU) = fX5_read_J77 r d1' d2' fc' kd' mf' mn' mp' nxt' plc' sz' srt' wd' rN' tN' uc' un' ut' uw' j' vH' vR' vU' ∧ KM vM vM' ∧ KD vR vR' ∧ (JF vM' r vR' ∨ (r = nI 1 ∧ ∃ S', S'.t.k ≠ 4 ∧ JT tb n S' vM' lt' fr' vR' j' rN' tN' vH' vU' mn' mp' mf' plc' ut' uc' un' uw' fc' kd' sz' d1' d2' wd' srt' nxt')) := by
  have hn := ht.1
  intro m
  induction m with
  | zero =>
    intro i S vM lt fr d1 d2 fc kd mf mn mp nxt plc sz srt wd rN tN uc un ut uw j vH vR vU hm hi hj fC fM h1 h2
    have k4 : S.t.k ≠ 4 := fun q => by
      have ho := hj.2.1.2.1
      have := ho.2.2.2.1 (by omega)
      have := ho.2.1
      omega
    refine ⟨vM, lt, fr, nI 1, d1, d2, fc, kd, mf, mn, mp, nxt, plc, sz, srt, wd, rN, tN, uc, un, ut, uw, j, vH, vR, vU, ?_, ?_, KM.refl _, fun _ _ _ _ _ _ _ => rfl, Or.inr ⟨rfl, S, k4, hj⟩⟩
    · refine lp_ex (by omega) ?_
      have hk := hj.1.2.2.2.1.2.2.1
      show (if vM 13 = 0 then (if vM 6 = 59 then _ else _) else _) = _
      rw [if_pos (show vM 13 = 0 from hj.1.1), if_neg (fun q => k4 ?_)]
      have e6 : vM 6 = nI (mtok S.t.k) := hj.1.2.2.1.2.2.2.1
      rw [e6] at q
      have := nI_inj (by unfold mtok; split <;> omega) (by omega) (show nI (mtok S.t.k) = nI 59 from q)
      unfold mtok at this
      split at this
      · assumption
      · omega
    · refine lp_ex (by omega) ?_
      have hk := hj.2.1.2.1.2.2.1
      have e7 : vR 7 = nI (ctok S.t.k) := hj.2.1.1.2.1
      have c4 := ctok_le hk
      show (if (900 : Int32) ≤ nI i then _ else (if nI 1 = 0 then _ else (if vR 7 = 3 then _ else _))) = _
      by_cases q9 : (900 : Int32) ≤ nI i
      · rw [if_pos q9]
      · rw [if_neg q9, if_neg nz1, if_neg (fun q => k4 ?_)]
        rw [e7] at q
        have := nI_inj (by omega) (by omega) (show nI (ctok S.t.k) = nI 3 from q)
        unfold ctok at this
        split at this
        · omega
        · split at this <;> omega
  | succ m ih =>
    intro i S vM lt fr d1 d2 fc kd mf mn mp nxt plc sz srt wd rN tN uc un ut uw j vH vR vU hm hi hj fC fM h1 h2
    have hj0 := hj
    obtain ⟨hs, hc, h5, hP, hR, hH⟩ := hj
    have ho := hc.2.1
    by_cases k4 : S.t.k = 4
    · have ha := ho.2.2.2.1 (by omega)
      have hen := ho.2.1
      obtain ⟨w1, l1, e1, s1, km1⟩ := m_nx ht hs
      obtain ⟨j1, v1, c1, t1, kc1⟩ := c_st ht hc
      have hat : S.t.en ≤ (nx tb n S).t.at_ := (lex_ok tb ho.2.1).2
      have hj1 : JT tb n (nx tb n S) w1 l1 fr v1 j1 rN tN vH vU mn mp mf plc ut uc un uw fc kd sz d1 d2 wd srt nxt := ⟨s1, t1, by rw [kc1 5 (by omega) (by omega) (by omega) (by omega) (by omega)]; exact h5, hP, hR, hH⟩
      obtain ⟨vM2, lt2, fr2, e2, km2, r2, j2, vR2, vH2, vU2, mn2, mp2, mf2, tN2, rN2, plc2, ut2, uc2, un2, uw2, fc2, kd2, sz2, d12, d22, wd2, srt2, nxt2, c2, kdd2, q2⟩ := j_line ht hj1
      have e6 : vM 6 = nI 59 := by rw [show vM 6 = nI (mtok S.t.k) from hs.2.2.1.2.2.2.1, k4]; rfl
      have e7 : vR 7 = nI 3 := by rw [show vR 7 = nI (ctok S.t.k) from hc.1.2.1, k4]; rfl
      have eM : lp (fX9_house_B77 tm rr st) fM (fr, lt, vM) = lp (fX9_house_B77 tm rr st) (fM - 1) (fr2, lt2, vM2) := by
        refine lp_inr (by omega) ?_
        show (if vM 13 = 0 then (if vM 6 = 59 then _ else _) else _) = _
        rw [if_pos (show vM 13 = 0 from hs.1), if_pos (show vM 6 = 59 from e6), e1, bdS]
        simp only
        rw [e2, bdS]
      have eC : lp (fX5_read_B43 tc) fC (nI 1, nI i, d1, d2, fc, kd, mf, mn, mp, nxt, plc, sz, srt, wd, rN, tN, uc, un, ut, uw, j, vH, vR, vU) = lp (fX5_read_B43 tc) (fC - 1) (r2, nI (i + 1), d12, d22, fc2, kd2, mf2, mn2, mp2, nxt2, plc2, sz2, srt2, wd2, rN2, tN2, uc2, un2, ut2, uw2, j2, vH2, vR2, vU2) := by
        refine lp_inr (by omega) ?_
        show (if (900 : Int32) ≤ nI i then _ else (if nI 1 = 0 then _ else (if vR 7 = 3 then _ else _))) = _
        rw [if_neg (show ¬ (900 : Int32) ≤ nI i from (show ¬ nI 900 ≤ nI i by rw [nI_leI (by omega) (by omega)]; omega)), if_neg nz1, if_pos (show vR 7 = 3 from e7), c1, bdS]
        simp only
        rw [c2, bdS]
        simp only
        rw [show nI i + 1 = nI (i + 1) from nI_add i 1]
      rw [eM, eC]
      have kmx := km1.trans km2
      have kdx : KD vR vR2 := fun k a1 a2 a3 a4 a5 a6 => (kdd2 k a1 a2 a3 a4 a5 a6).trans (kc1.d k a1 a2 a3 a4 a5 a6)
      rcases q2 with ⟨e, hf, rfl, hcf⟩ | ⟨rfl, S2, hS2, hj2⟩
      · refine ⟨vM2, lt2, fr2, nI 0, d12, d22, fc2, kd2, mf2, mn2, mp2, nxt2, plc2, sz2, srt2, wd2, rN2, tN2, uc2, un2, ut2, uw2, j2, vH2, vR2, vU2, ?_, ?_, kmx, kdx, Or.inl ⟨e, hf, rfl, hcf⟩⟩
        · refine lp_ex (by omega) ?_
          show (if vM2 13 = 0 then (if vM2 6 = 59 then _ else _) else _) = _
          rw [if_neg (mf_ne hf.1)]
        · refine lp_ex (by omega) ?_
          show (if (900 : Int32) ≤ nI (i + 1) then _ else (if nI 0 = 0 then _ else (if vR2 7 = 3 then _ else _))) = _
          by_cases q9 : (900 : Int32) ≤ nI (i + 1)
          · rw [if_pos q9]
          · rw [if_neg q9, if_pos (show nI 0 = 0 from rfl)]
      · obtain ⟨vM3, lt3, fr3, r3, d13, d23, fc3, kd3, mf3, mn3, mp3, nxt3, plc3, sz3, srt3, wd3, rN3, tN3, uc3, un3, ut3, uw3, j3, vH3, vR3, vU3, x1, x2, km3, kdd3, q3⟩ := ih (i + 1) S2 vM2 lt2 fr2 d12 d22 fc2 kd2 mf2 mn2 mp2 nxt2 plc2 sz2 srt2 wd2 rN2 tN2 uc2 un2 ut2 uw2 j2 vH2 vR2 vU2 (by omega) (by omega) hj2 (fC - 1) (fM - 1) (by omega) (by omega)
        exact ⟨vM3, lt3, fr3, r3, d13, d23, fc3, kd3, mf3, mn3, mp3, nxt3, plc3, sz3, srt3, wd3, rN3, tN3, uc3, un3, ut3, uw3, j3, vH3, vR3, vU3, x1, x2, kmx.trans km3, fun k a1 a2 a3 a4 a5 a6 => (kdd3 k a1 a2 a3 a4 a5 a6).trans (kdx k a1 a2 a3 a4 a5 a6), q3⟩
    · refine ⟨vM, lt, fr, nI 1, d1, d2, fc, kd, mf, mn, mp, nxt, plc, sz, srt, wd, rN, tN, uc, un, ut, uw, j, vH, vR, vU, ?_, ?_, KM.refl _, fun _ _ _ _ _ _ _ => rfl, Or.inr ⟨rfl, S, k4, hj0⟩⟩
      · refine lp_ex (by omega) ?_
        have hk := ho.2.2.1
        show (if vM 13 = 0 then (if vM 6 = 59 then _ else _) else _) = _
        rw [if_pos (show vM 13 = 0 from hs.1), if_neg (fun q => k4 ?_)]
        have e6 : vM 6 = nI (mtok S.t.k) := hs.2.2.1.2.2.2.1
        rw [e6] at q
        have := nI_inj (by unfold mtok; split <;> omega) (by omega) (show nI (mtok S.t.k) = nI 59 from q)
        unfold mtok at this
        split at this
        · assumption
        · omega
      · refine lp_ex (by omega) ?_
        have hk := ho.2.2.1
        have e7 : vR 7 = nI (ctok S.t.k) := hc.1.2.1
        have c4 := ctok_le hk
        show (if (900 : Int32) ≤ nI i then _ else (if nI 1 = 0 then _ else (if vR 7 = 3 then _ else _))) = _
        by_cases q9 : (900 : Int32) ≤ nI i
        · rw [if_pos q9]
        · rw [if_neg q9, if_neg nz1, if_neg (fun q => k4 ?_)]
          rw [e7] at q
          have := nI_inj (by omega) (by omega) (show nI (ctok S.t.k) = nI 3 from q)
          unfold ctok at this
          split at this
          · omega
          · split at this <;> omega
end JR
