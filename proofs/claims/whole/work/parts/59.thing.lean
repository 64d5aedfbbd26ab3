/-! MATH 39: reading: a thing -/
def tkn (h : Nat → Nat) (X : Nat) : Bool := (fnd (fun t => h (62 + 3 * t + 1) == X) (h 3)).isSome
section JL5
variable {tb : Nat → Nat} {n : Nat} {tc tm vR vM lt fr : Nat → Int32} {j : Int64} {S : PS} {rN tN : Nat → Int64}
variable {vH vU mn mp mf plc ut uc un uw fc kd sz d1 d2 wd srt nxt : Nat → Int32}
theorem j_must (ht : TPR tb n tc tm) (hm : MS tb n S vM lt fr) (hc : CS0 tb n S.t vR j) {w : Nat} (hw : w < 22) : ∃ w1 l1, fX9_must vM lt tm w = some (w1, l1) ∧ KM vM w1 ∧ ∃ r j1 v1, fX5_passes j vR tc w = some (r, j1, v1) ∧ KC vR v1 ∧ ((∃ e, MF e w1 ∧ r = nI 0 ∧ CF e v1) ∨ (r = nI 1 ∧ MS tb n (nx tb n S) w1 l1 fr ∧ CS0 tb n (nx tb n S).t v1 j1)) := by
  obtain ⟨w1, l1, e1, q1, k1⟩ := m_must ht hm hw
  obtain ⟨r, j1, v1, e2, k2, q2⟩ := c_passes ht hc hw
  refine ⟨w1, l1, e1, k1, r, j1, v1, e2, k2, ?_⟩
  rcases q2 with ⟨a, ra, s2⟩ | ⟨e, a, ra, hf⟩
  · rw [a] at q1
    exact Or.inr ⟨ra, q1, s2⟩
  · rw [a] at q1
    exact Or.inl ⟨e, q1, ra, hf⟩
theorem c_isTaken {h : Nat → Nat} {X : Nat} (h3 : h 3 ≤ 7) (hb : ∀ t, t < h 3 → h (62 + 3 * t + 1) < 1000) (v5 : vH 5 = nI (h 3)) (hf : ∀ t, t < h 3 → fc t = nI (h (62 + 3 * t + 1))) (hX : X < 36) : fX4_isTaken vH fc (nI X) = some (nI (if tkn h X then 1 else 0)) := by
  unfold fX4_isTaken tkn
  simp (maxSteps := 4000000) only [nlq]
  refine Exists.elim (lp_find (f := fX4_isTaken_B2 vH fc (nI X)) (fun t => h (62 + 3 * t + 1) == X) (h 3) (fun i s => s = nI i) (fun o res => res = nI (if o.isSome then 1 else 0)) ?_ ?_ rfl (show h 3 < 5000 by omega)) (fun res hr => ?_)
  · rintro i s hi rfl
    have b := hb i hi
    simp (maxSteps := 4000000) (disch := omega) only [fX4_isTaken_B2, nlq, v5, nI_leI, ok_nI, gdT, nI_clamp, hf i hi, nI_eq, nI_add, exS]
    rw [if_neg (by omega), if_neg (by omega)]
    by_cases q : h (62 + 3 * i + 1) = X
    · rw [if_pos q]
      exact ⟨fun e => by simp [q] at e, fun _ => ⟨_, rfl, rfl⟩⟩
    · rw [if_neg q]
      exact ⟨fun _ => ⟨_, rfl, rfl⟩, fun e => by simp [q] at e⟩
  · rintro s rfl
    simp (maxSteps := 4000000) (disch := omega) only [fX4_isTaken_B2, fX4_isTaken_J34, nlq, v5, nI_leI, exS]
    rw [if_pos (Nat.le_refl _)]
    exact ⟨_, rfl, rfl⟩
  · rw [hr.1, hr.2]
theorem m_thingLoop_f {T : Nat} {fr0 fr1 l w : Nat → Int32} {k a : Int32} (hT : T ≤ 7) (f3 : fr1 3 = nI T) (h13 : w 13 = nI 1) : lp (fX9_thingLine_B146 fr0 tm) 5000 (k, a, nI 0, fr1, l, w) = some (w, fr1, l) := by
  refine lp_for (fun i => (k, a, nI i, fr1, l, w)) T ?_ ?_ (by omega) rfl
  · intro i hi
    simp (maxSteps := 4000000) (disch := omega) only [fX9_thingLine_B146, fX9_thingLine_J192, nlq, ok_nI, gdT, nI_clamp, f3, nI_leI, nI_add]
    rw [if_neg (by omega), if_neg (mf_nn h13)]
  · simp (maxSteps := 4000000) (disch := omega) only [fX9_thingLine_B146, nlq, ok_nI, gdT, nI_clamp, f3, nI_leI]
    rw [if_pos (Nat.le_refl _), if_neg (mf_nn h13)]
    rfl
theorem m_thingLoop {h : Nat → Nat} {fr0 fr1 l w : Nat → Int32} {k : Int32} {X p : Nat} (h3 : h 3 ≤ 7) (hb : ∀ k, k < 224 → h k < 1000) (hr : ∀ k, k < 224 → fr1 k = nI (h k)) (hX : X < 36) (h13 : w 13 = nI 0) (h4 : w 4 = nI p) : (tkn h X = true → ∃ w', lp (fX9_thingLine_B146 fr0 tm) 5000 (k, nI X, nI 0, fr1, l, w) = some (w', fr1, l) ∧ MF (3, p) w' ∧ KM w w') ∧ (tkn h X = false → ∀ res, fX9_thingLine_B146 fr0 tm (k, nI X, nI (h 3), fr1, l, w) = some (.inl res) → lp (fX9_thingLine_B146 fr0 tm) 5000 (k, nI X, nI 0, fr1, l, w) = some res) := by
  have f3 : fr1 3 = nI (h 3) := hr 3 (by omega)
  have st : ∀ i, i < h 3 → h (62 + 3 * i + 1) ≠ X → fX9_thingLine_B146 fr0 tm (k, nI X, nI i, fr1, l, w) = some (.inr (k, nI X, nI (i + 1), fr1, l, w)) := by
    intro i hi q
    have g := hr (62 + 3 * i + 1) (by omega)
    have b := hb (62 + 3 * i + 1) (by omega)
    simp (maxSteps := 4000000) (disch := omega) only [fX9_thingLine_B146, fX9_thingLine_J192, nlq, ok_nI, gdT, nI_clamp, f3, nI_leI, pk_mul, nI_add, g, nI_eq]
    rw [if_neg (by omega), if_pos h13, if_neg q]
  unfold tkn
  constructor
  · intro q
    cases hf : fnd (fun t => h (62 + 3 * t + 1) == X) (h 3) with
    | none => rw [hf] at q; cases q
    | some u =>
      obtain ⟨u1, u2, u3⟩ := fnd_some hf
      obtain ⟨w', ew, hmf, hk⟩ := m_wrong h13 3 p
      have u2 : h (62 + 3 * u + 1) = X := by simpa using u2
      refine ⟨w', ?_, hmf, hk⟩
      refine lp_for (fun i => (k, nI X, nI i, fr1, l, if i ≤ u then w else w')) (h 3) ?_ ?_ (by omega) ?_
      · intro i hi
        rcases Nat.lt_trichotomy i u with q | q | q
        · try simp only
          rw [if_pos (show i ≤ u by omega), if_pos (show i + 1 ≤ u by omega)]
          exact st i hi (by simpa using u3 i q)
        · have g := hr (62 + 3 * i + 1) (by omega)
          have b := hb (62 + 3 * i + 1) (by omega)
          try simp only
          rw [if_pos (show i ≤ u by omega), if_neg (show ¬ i + 1 ≤ u by omega)]
          simp (maxSteps := 4000000) (disch := omega) only [fX9_thingLine_B146, fX9_thingLine_J192, nlq, ok_nI, gdT, nI_clamp, f3, nI_leI, pk_mul, nI_add, g, nI_eq, h4]
          rw [if_neg (by omega), if_pos h13, if_pos (by rw [q]; exact u2), ew, bdS]
        · try simp only
          rw [if_neg (show ¬ i ≤ u by omega), if_neg (show ¬ i + 1 ≤ u by omega)]
          simp (maxSteps := 4000000) (disch := omega) only [fX9_thingLine_B146, fX9_thingLine_J192, nlq, ok_nI, gdT, nI_clamp, f3, nI_leI, nI_add]
          rw [if_neg (by omega), if_neg (mf_nn hmf.1)]
      · try simp only
        rw [if_neg (show ¬ h 3 ≤ u by omega)]
        simp (maxSteps := 4000000) (disch := omega) only [fX9_thingLine_B146, nlq, ok_nI, gdT, nI_clamp, f3, nI_leI]
        rw [if_pos (Nat.le_refl _), if_neg (mf_nn hmf.1)]
        rfl
      · try simp only
        rw [if_pos (Nat.zero_le _)]
  · intro q res hE
    have hno : fnd (fun t => h (62 + 3 * t + 1) == X) (h 3) = none := by simpa using q
    exact lp_for (fun i => (k, nI X, nI i, fr1, l, w)) (h 3) (fun i hi => st i hi (by simpa using fnd_none hno i hi)) hE (by omega) rfl
set_option maxHeartbeats 1600000 in
theorem j_thing (ht : TPR tb n tc tm) (hj : JK tb n S vM lt fr vR j rN tN vH vU mn mp mf plc ut uc un uw fc kd sz d1 d2 wd srt nxt) (h37 : S.h 3 < 7) : ∃ vM' fr' lt', fX9_thingLine vM fr lt tm = some (vM', fr', lt') ∧ KM vM vM' ∧ ∃ r j' vR' vH' tN' fc' kd' sz', fX5_readThing j vR tc vH rN tN plc fc kd sz = some (r, j', vR', vH', tN', fc', kd', sz') ∧ KD vR vR' ∧ (JF vM' r vR' ∨ (r = nI 1 ∧ ∃ S', S.t.at_ ≤ S'.t.at_ ∧ JT tb n S' vM' lt' fr' vR' j' rN tN' vH' vU mn mp mf plc ut uc un uw fc' kd' sz' d1 d2 wd srt nxt)) := by
  obtain ⟨hm, hc, h5, hP, hR, hH, h0⟩ := hj
  obtain ⟨hA, hRg, hT, hN, hD, hW, hM, hNm⟩ := id hP
  obtain ⟨⟨a0, a1, a2, a3, a4, a5, a6⟩, cw, hg, hn, hw, hd, htt, hmm⟩ := id hH
  obtain ⟨b0, b1, b2, b3, b4, b5, b6, b7, b8, b9⟩ := id hA
  have f3 : fr 3 = nI (S.h 3) := hm.2.2.2.2.1 3 (by omega)
  obtain ⟨w1, l1, fr1, e1, k1, q1⟩ := m_newName ht hm (x := 4 + S.h 3) (by omega)
  obtain ⟨j1, v1, c1, t1, kc1⟩ := c_st ht hc
  obtain ⟨r2, j2, v2, c2, kc2, q2⟩ := c_newName (x := 4 + S.h 3) (S := nx tb n S) ht hNm hR t1 a2 a5
  unfold fX9_thingLine fX5_readThing
  rw [if_pos (show vM 13 = 0 from hm.1), c1, bdS]
  simp (maxSteps := 4000000) (disch := omega) only [nlq, ok_nI, gdT, nI_clamp, f3, nI_add]
  rw [e1, bdS, c2, bdS]
  try simp only
  have mfail : ∀ (x : Int32) (w l f : Nat → Int32) (e : Nat × Nat), MF e w → fX9_thingLine_J99 fr tm x f l w = some (w, f, l) := by
    intro x w l f e hf
    unfold fX9_thingLine_J99
    rw [if_neg (mf_ne hf.1)]
  rcases q2 with ⟨an, rfl, t2, k22, hfn⟩ | ⟨e, an, rfl, hcf⟩
  · rw [an] at q1
    obtain ⟨nm1, nm2, nm3, nm4⟩ := name_more (x := 4 + S.h 3) hNm t1.2.1 k22 (by omega) (hNm.2.2.2.2.2.2.1 _ (Nat.le_refl _) h37) hfn
    have oN : ∀ k, k < 125 → setName tb S.h (4 + S.h 3) (nx tb n S).t k = S.h k := fun k q => setName_o (by omega) (by omega)
    have eN : enc (setName tb S.h (4 + S.h 3) (nx tb n S).t) (4 + S.h 3) = tenc tb (nx tb n S).t := setName_enc
    have q1 : MS tb n (nx tb n ((nx tb n S).t, setName tb S.h (4 + S.h 3) (nx tb n S).t)) w1 l1 fr1 := q1
    generalize hhN : setName tb S.h (4 + S.h 3) (nx tb n S).t = hN' at q1 nm1 nm2 nm3 nm4 oN eN
    have s2 : MS tb n ((nx tb n (nx tb n S)).t, hN') w1 l1 fr1 := q1
    have t2 : CS0 tb n (nx tb n (nx tb n S)).t v2 j2 := t2
    clear q1
    have on0 : hN' 0 = S.h 0 := oN 0 (by omega)
    have on2 : hN' 2 = S.h 2 := oN 2 (by omega)
    have on3 : hN' 3 = S.h 3 := oN 3 (by omega)
    have er : ∀ g, g < S.h 2 → hN' (8 + 2 * g) = S.h (8 + 2 * g) ∧ hN' (8 + 2 * g + 1) = S.h (8 + 2 * g + 1) := fun g hgg => ⟨oN _ (by omega), oN _ (by omega)⟩
    have hNm2 : NMS hN' (S.h 3 + 1) := by
      obtain ⟨z2, z3, zk, zp, zz, zt, zu, zi⟩ := hNm
      refine ⟨by omega, by omega, nm2, fun x hx => ?_, fun x hx h4 => ?_, fun x hx => ?_, fun x hx h7 => ?_, nm4⟩
      · rw [(nm3 x (by omega) (by omega)).1]; exact zp x (by omega)
      · rw [(nm3 x (by omega) (by omega)).1]; exact zz x (by omega) h4
      · by_cases eg : x = S.h 3
        · rw [eg]; exact nm1
        · rw [(nm3 (4 + x) (by omega) (by omega)).1]; exact zt x (by omega)
      · rw [(nm3 (4 + x) (by omega) (by omega)).1]; exact zu x (by omega) h7
    have hR2 : NR hN' rN (vp_updL tN (S.h 3) (Int64.ofNat (tenc tb (nx tb n S).t))) (S.h 3 + 1) := by
      refine ⟨fun x hx => ?_, fun x hx => ?_⟩
      · rw [on2] at hx
        rw [(nm3 x (by omega) (by omega)).2]; exact hR.1 x hx
      · unfold vp_updL
        by_cases eg : x = S.h 3
        · rw [if_pos eg, eg, eN]
        · rw [if_neg eg, (nm3 (4 + x) (by omega) (by omega)).2]; exact hR.2 x (by omega)
    have hRg2 : PRg hN' := PRg_c on2 er hRg
    have hg2 : HG hN' srt plc := HG_c on2 er hg
    have a2' : vH 2 = nI (hN' 2) := by rw [on2]; exact a2
    rw [m_kind ht s2 (fun x => fX9_thingLine_J85 fr tm x fr1 l1 w1)]
    simp only [encl0 (tenc_lt t1.2.1 k22), if_true]
    rw [c_kindSaid (S := nx tb n (nx tb n S)) ht t2, bdS]
    unfold fX9_thingLine_J85 fX5_takeChoice
    have e4 : w1 4 = nI (nx tb n (nx tb n S)).t.at_ := s2.2.2.1.2.1
    cases hso : aKind tb (nx tb n (nx tb n S)).t with
    | none =>
      obtain ⟨w, ew, hf, hk⟩ := m_wrong s2.1 1 (nx tb n (nx tb n S)).t.at_
      obtain ⟨v', e', hf', hk'⟩ := c_fails (S := nx tb n (nx tb n S)) t2 1
      simp only [oKn, nlq, n1ge, if_false, e4]
      rw [ew, bdS, mfail _ w l1 fr1 _ hf, e', bdS]
      simp only [bdS, n1lt, if_true]
      exact ⟨w, fr1, l1, rfl, k1.trans hk, nI 0, j2, v', vH, tN, fc, kd, sz, rfl, (kc1.trans (kc2.trans hk')).d, Or.inl ⟨_, hf, rfl, hf'⟩⟩
    | some s =>
      have hs3 := aKind_le hso
      obtain ⟨w3, l3, e3, s3, k3⟩ := m_nx ht s2
      obtain ⟨j3, v3, c3, t3, kc3⟩ := c_st (S := nx tb n (nx tb n S)) ht t2
      simp (maxSteps := 4000000) (disch := omega) only [oKn, nlq, nI_leI, nI_ltI, Nat.zero_le, if_true]
      unfold fX9_thingLine_J99
      rw [if_pos (show w1 13 = 0 from s2.1), e3, bdS, c3, bdS]
      simp (maxSteps := 4000000) (disch := omega) only [bdS, nlq, nI_ltI, Nat.not_lt_zero, if_false]
      have s3 : MS tb n ((nx tb n (nx tb n (nx tb n S))).t, hN') w3 l3 fr1 := s3
      obtain ⟨w4, l4, e5, k4, r4, j4, v4, c4, kc4, q4⟩ := j_must (S := ((nx tb n (nx tb n (nx tb n S))).t, hN')) (w := 9) ht s3 t3 (by omega)
      rw [e5, bdS, c4, bdS]
      try simp only
      have km4 := k1.trans (k3.trans k4)
      have kc4' := kc1.trans (kc2.trans (kc3.trans kc4))
      rcases q4 with ⟨e, hf, rfl, hcf⟩ | ⟨rfl, s4, t4⟩
      · rw [m_ringName_f hf.1, bdS]
        try simp only
        rw [m_must_f hf.1, bdS]
        try simp only
        rw [if_neg (mf_nn hf.1), if_pos trivial]
        exact ⟨w4, fr1, l4, rfl, km4, nI 0, j4, v4, vH, tN, fc, kd, sz, rfl, kc4'.d, Or.inl ⟨e, hf, rfl, hcf⟩⟩
      · have s4 : MS tb n ((nx tb n (nx tb n (nx tb n (nx tb n S)))).t, hN') w4 l4 fr1 := s4
        have t4 : CS0 tb n (nx tb n (nx tb n (nx tb n (nx tb n S)))).t v4 j4 := t4
        obtain ⟨g5, w5, l5, e6, k5, r5, j5, v5, c5, kc5, q5⟩ := j_told (S := ((nx tb n (nx tb n (nx tb n (nx tb n S)))).t, hN')) ht s4 t4 hNm2 hR2
        have c5 : fX5_takeToldName j4 v4 tc 4 rN (vH 2) = some (r5, j5, v5) := by rw [a2']; exact c5
        rw [e6, bdS, if_neg (show ¬ nI 1 = nI 0 by decide), c5, bdS]
        try simp only
        have km5 := km4.trans k5
        have kc5' := kc4'.trans kc5
        rcases q5 with ⟨e, hf, rfl, rfl, hcf⟩ | ⟨x, rfl, rfl, hx, s5, t5⟩
        · rw [m_must_f hf.1, bdS]
          try simp only
          rw [if_neg (mf_nn hf.1), if_pos (show (-1 : Int32) < nI 0 by decide)]
          exact ⟨w5, fr1, l5, rfl, km5, nI 0, j5, v5, vH, tN, fc, kd, sz, rfl, kc5'.d, Or.inl ⟨e, hf, rfl, hcf⟩⟩
        · have hx : x < hN' 2 := hx
          have x4 : x < 4 := by omega
          have s5 : MS tb n ((nx tb n (nx tb n (nx tb n (nx tb n (nx tb n S))))).t, hN') w5 l5 fr1 := s5
          have t5 : CS0 tb n (nx tb n (nx tb n (nx tb n (nx tb n (nx tb n S))))).t v5 j5 := t5
          obtain ⟨w6, l6, e7, k6, r6, j6, v6, c6, kc6, q6⟩ := j_must (S := ((nx tb n (nx tb n (nx tb n (nx tb n (nx tb n S))))).t, hN')) (w := 0) ht s5 t5 (by omega)
          rw [e7, bdS, if_neg (show ¬ nI x < nI 0 by rw [nI_ltI (by omega) (by omega)]; omega), c6, bdS]
          try simp only
          have km6 := km5.trans k6
          have kc6' := kc5'.trans kc6
          rcases q6 with ⟨e, hf, rfl, hcf⟩ | ⟨rfl, s6, t6⟩
          · rw [if_neg (mf_nn hf.1), if_pos rfl]
            exact ⟨w6, fr1, l6, rfl, km6, nI 0, j6, v6, vH, tN, fc, kd, sz, rfl, kc6'.d, Or.inl ⟨e, hf, rfl, hcf⟩⟩
          · have s6 : MS tb n ((nx tb n (nx tb n (nx tb n (nx tb n (nx tb n (nx tb n S)))))).t, hN') w6 l6 fr1 := s6
            have t6 : CS0 tb n (nx tb n (nx tb n (nx tb n (nx tb n (nx tb n (nx tb n S)))))).t v6 j6 := t6
            obtain ⟨g7, w7, e8, k7, pe, r7, v7, c7, kc7, q7⟩ := j_place (S := ((nx tb n (nx tb n (nx tb n (nx tb n (nx tb n (nx tb n S)))))).t, hN')) (vH := vH) (plc := plc) (srt := srt) s6 t6 hRg2 (by show hN' 2 ≤ 4; omega) hx a2' hg2
            have pe : fX4_placesOf vH plc (nI x) = some (nI (pl hN' x)) := pe
            have c7 : fX5_isWhole j6 v6 (nI 0) (nI (pl hN' x) - nI 1) = some (r7, v7) := c7
            rw [if_pos (show w6 13 = nI 0 from s6.1), e8, bdS, if_neg (show ¬ nI 1 = nI 0 by decide), pe, bdS, c7, bdS]
            try simp only
            have km7 := km6.trans k7
            have kc7' := kc6'.trans kc7
            have g3 : fr1 3 = nI (S.h 3) := by rw [s6.2.2.2.2.1 3 (by omega)]; exact congrArg nI on3
            rcases q7 with ⟨e, hf, rfl, hcf⟩ | ⟨y, rfl, rfl, e10, hy, s7, t7⟩
            · rw [m_thingLoop_f b4 g3 hf.1, if_pos rfl]
              exact ⟨w7, fr1, l6, rfl, km7, nI 0, j6, v7, vH, tN, fc, kd, sz, rfl, kc7'.d, Or.inl ⟨e, hf, rfl, hcf⟩⟩
            · have hy : y < pl hN' x := hy
              have y9 : y < 9 := by have := (hRg2 x hx).2.2; omega
              have hX : 9 * x + y < 36 := by omega
              have ot : ∀ t, t < S.h 3 → hN' (62 + 3 * t + 1) = S.h (62 + 3 * t + 1) := fun t htl => oN _ (by omega)
              have ek : tkn hN' (9 * x + y) = tkn S.h (9 * x + y) := by
                unfold tkn
                rw [on3]
                congr 1
                exact fnd_congr (fun t htl => by rw [ot t htl])
              obtain ⟨lt1, lt2⟩ := m_thingLoop (tm := tm) (fr0 := fr) (fr1 := fr1) (l := l6) (w := w7) (k := nI s) (X := 9 * x + y) (h := hN') (by omega) (fun k hk => s7.2.2.2.2.2 k hk) (fun k hk => s7.2.2.2.2.1 k hk) hX s7.1 s7.2.2.1.2.1
              rw [if_neg (show ¬ nI 1 = nI 0 by decide), e10, c_cellAt, bdS, c_isTaken b4 (fun t htl => b0 _ (by omega)) a5 (fun t htl => (htt t htl).2.1) hX, bdS]
              cases hk : tkn S.h (9 * x + y) with
              | true =>
                obtain ⟨w', el, hf, kk⟩ := lt1 (ek.trans hk)
                obtain ⟨v', e', hf', hk'⟩ := c_fails (S := nx tb n (nx tb n (nx tb n (nx tb n (nx tb n (nx tb n S)))))) t7 3
                rw [el, if_neg (show ¬ nI (if true = true then 1 else 0) = nI 0 by decide), e', bdS]
                exact ⟨w', fr1, l6, rfl, km7.trans kk, nI 0, j6, v', vH, tN, fc, kd, sz, rfl, (kc7'.trans hk').d, Or.inl ⟨_, hf, rfl, hf'⟩⟩
              | false =>
                have lt3 := lt2 (ek.trans hk)
                obtain ⟨w8, l8, e9, s8, k8⟩ := m_nx ht s7
                obtain ⟨j8, v8, c8, t8, kc8⟩ := c_st (S := nx tb n (nx tb n (nx tb n (nx tb n (nx tb n (nx tb n S)))))) ht t7
                have s8 : MS tb n ((nx tb n (nx tb n (nx tb n (nx tb n (nx tb n (nx tb n (nx tb n S))))))).t, hN') w8 l8 fr1 := s8
                obtain ⟨b, w9, l9, e11, k9, r9, j9, v9, c9, kc9, q9⟩ := j_after (S := ((nx tb n (nx tb n (nx tb n (nx tb n (nx tb n (nx tb n (nx tb n S))))))).t, hN')) ht s8 t8 (w := 19) (lo := 1) (hi := 9) (by omega) (by omega) (by omega)
                rw [if_pos (show nI (if false = true then 1 else 0) = nI 0 from rfl), c8, bdS]
                try simp only
                rw [c9, bdS]
                try simp only
                have km9 := km7.trans (k8.trans k9)
                have kc9' := kc7'.trans (kc8.trans kc9)
                have efail : ∀ e, MF e w9 → ∃ f', lp (fX9_thingLine_B146 fr tm) 5000 (nI s, nI (9 * x + y), nI 0, fr1, l6, w7) = some (w9, f', l9) := by
                  intro e hf
                  refine ⟨upd (upd (upd fr1 (62 + 3 * S.h 3) (nI s)) (62 + 3 * S.h 3 + 1) (nI (9 * x + y))) (62 + 3 * S.h 3 + 2) b, lt3 _ ?_⟩
                  simp (maxSteps := 4000000) (disch := omega) only [fX9_thingLine_B146, fX9_thingLine_J261, nlq, ok_nI, gdT, nI_clamp, g3, f3, on3, nI_leI, pk_mul, nI_add]
                  rw [if_pos (Nat.le_refl _), if_pos (show w7 13 = nI 0 from s7.1), e9, bdS]
                  try simp only
                  rw [e11, bdS]
                  try simp only
                  rw [if_neg (mf_nn hf.1)]
                  rfl
                rcases q9 with ⟨e, hf, rfl, hcf⟩ | ⟨rfl, r10, j10, v10, c10, kc10, q10⟩
                · obtain ⟨f', ef⟩ := efail e hf
                  rw [ef, if_pos rfl]
                  exact ⟨w9, f', l9, rfl, km9, nI 0, j9, v9, vH, tN, fc, kd, sz, rfl, kc9'.d, Or.inl ⟨e, hf, rfl, hcf⟩⟩
                · rw [if_neg (show ¬ nI 1 = nI 0 by decide), c10, bdS]
                  try simp only
                  rcases q10 with ⟨e, hf, rfl, hcf⟩ | ⟨u, rfl, rfl, u1, u9, s10, t10⟩
                  · obtain ⟨f', ef⟩ := efail e hf
                    rw [ef, if_pos (show (-1 : Int32) < nI 0 by decide)]
                    exact ⟨w9, f', l9, rfl, km9, nI 0, j10, v10, vH, tN, fc, kd, sz, rfl, (kc9'.trans kc10).d, Or.inl ⟨e, hf, rfl, hcf⟩⟩
                  · have ea : fX4_addThing vH kd fc sz (nI s) (nI (9 * x + y)) (nI u) = some (upd vH 5 (nI (S.h 3 + 1)), upd kd (S.h 3) (nI s), upd fc (S.h 3) (nI (9 * x + y)), upd sz (S.h 3) (nI u)) := by
                      unfold fX4_addThing
                      simp (maxSteps := 4000000) (disch := omega) only [nlq, nI_ltI, a5, ok_nI, gdT, nI_clamp, nI_add]
                      rw [if_neg (by omega), if_pos h37]
                    have eok : lp (fX9_thingLine_B146 fr tm) 5000 (nI s, nI (9 * x + y), nI 0, fr1, l6, w7) = some (w9, upd (upd (upd (upd fr1 (62 + 3 * S.h 3) (nI s)) (62 + 3 * S.h 3 + 1) (nI (9 * x + y))) (62 + 3 * S.h 3 + 2) (nI u)) 3 (nI (S.h 3 + 1)), l9) := by
                      refine lt3 _ ?_
                      simp (maxSteps := 4000000) (disch := omega) only [fX9_thingLine_B146, fX9_thingLine_J261, nlq, ok_nI, gdT, nI_clamp, g3, f3, on3, nI_leI, pk_mul, nI_add]
                      rw [if_pos (Nat.le_refl _), if_pos (show w7 13 = nI 0 from s7.1), e9, bdS]
                      try simp only
                      rw [e11, bdS]
                      try simp only
                      rw [if_pos (show w9 13 = nI 0 from s10.1)]
                      simp (maxSteps := 4000000) (disch := omega) only [upd_ne, g3, nI_add, exS]
                    rw [eok, if_neg (show ¬ nI u < nI 0 by rw [nI_ltI (by omega) (by omega)]; omega), a5, if_neg (show ¬ nI (S.h 3) < nI 0 by rw [nI_ltI (by omega) (by omega)]; omega), if_pos (show nI (S.h 3) < nI 7 by rw [nI_ltI (by omega) (by omega)]; omega), ok_nI h37 (by omega), gdT, ea, bdS, nI_clamp (by omega)]
                    try simp only
                    have hS : MS tb n ((nx tb n (nx tb n (nx tb n (nx tb n (nx tb n (nx tb n (nx tb n (nx tb n (nx tb n S))))))))).t, setN (setN (setN (setN hN' (62 + 3 * S.h 3) s) (62 + 3 * S.h 3 + 1) (9 * x + y)) (62 + 3 * S.h 3 + 2) u) 3 (S.h 3 + 1)) w9 l9 (upd (upd (upd (upd fr1 (62 + 3 * S.h 3) (nI s)) (62 + 3 * S.h 3 + 1) (nI (9 * x + y))) (62 + 3 * S.h 3 + 2) (nI u)) 3 (nI (S.h 3 + 1))) := MS.set (MS.set (MS.set (MS.set s10 (k := 62 + 3 * S.h 3) (v := s) (by omega)) (k := 62 + 3 * S.h 3 + 1) (v := 9 * x + y) (by omega)) (k := 62 + 3 * S.h 3 + 2) (v := u) (by omega)) (k := 3) (v := S.h 3 + 1) (by omega)
                    have o : ∀ k, k ≠ 3 → k ≠ 62 + 3 * S.h 3 → k ≠ 62 + 3 * S.h 3 + 1 → k ≠ 62 + 3 * S.h 3 + 2 → setN (setN (setN (setN hN' (62 + 3 * S.h 3) s) (62 + 3 * S.h 3 + 1) (9 * x + y)) (62 + 3 * S.h 3 + 2) u) 3 (S.h 3 + 1) k = hN' k := fun k q1 q2 q3 q4 => by rw [setN_ne q1, setN_ne q4, setN_ne q3, setN_ne q2]
                    have o3 : setN (setN (setN (setN hN' (62 + 3 * S.h 3) s) (62 + 3 * S.h 3 + 1) (9 * x + y)) (62 + 3 * S.h 3 + 2) u) 3 (S.h 3 + 1) 3 = S.h 3 + 1 := setN_eq _ _ _
                    have oa : setN (setN (setN (setN hN' (62 + 3 * S.h 3) s) (62 + 3 * S.h 3 + 1) (9 * x + y)) (62 + 3 * S.h 3 + 2) u) 3 (S.h 3 + 1) (62 + 3 * S.h 3) = s := by rw [setN_ne (by omega), setN_ne (by omega), setN_ne (by omega), setN_eq]
                    have ob : setN (setN (setN (setN hN' (62 + 3 * S.h 3) s) (62 + 3 * S.h 3 + 1) (9 * x + y)) (62 + 3 * S.h 3 + 2) u) 3 (S.h 3 + 1) (62 + 3 * S.h 3 + 1) = 9 * x + y := by rw [setN_ne (by omega), setN_ne (by omega), setN_eq]
                    have oc : setN (setN (setN (setN hN' (62 + 3 * S.h 3) s) (62 + 3 * S.h 3 + 1) (9 * x + y)) (62 + 3 * S.h 3 + 2) u) 3 (S.h 3 + 1) (62 + 3 * S.h 3 + 2) = u := by rw [setN_ne (by omega), setN_eq]
                    generalize hh : setN (setN (setN (setN hN' (62 + 3 * S.h 3) s) (62 + 3 * S.h 3 + 1) (9 * x + y)) (62 + 3 * S.h 3 + 2) u) 3 (S.h 3 + 1) = h' at hS o o3 oa ob oc
                    have oS : ∀ k, k < 125 → k ≠ 3 → k ≠ 62 + 3 * S.h 3 → k ≠ 62 + 3 * S.h 3 + 1 → k ≠ 62 + 3 * S.h 3 + 2 → h' k = S.h k := fun k q0 q1 q2 q3 q4 => by rw [o k q1 q2 q3 q4]; exact oN k q0
                    have os : ∀ k, k < 62 → k ≠ 3 → h' k = S.h k := fun k q0 q1 => oS k (by omega) q1 (by omega) (by omega) (by omega)
                    have ol : ∀ k, 83 ≤ k → k < 125 → h' k = S.h k := fun k q0 q1 => oS k q1 (by omega) (by omega) (by omega) (by omega)
                    have oth : ∀ t, t < S.h 3 → h' (62 + 3 * t) = S.h (62 + 3 * t) ∧ h' (62 + 3 * t + 1) = S.h (62 + 3 * t + 1) ∧ h' (62 + 3 * t + 2) = S.h (62 + 3 * t + 2) := fun t htl => ⟨oS _ (by omega) (by omega) (by omega) (by omega) (by omega), oS _ (by omega) (by omega) (by omega) (by omega) (by omega), oS _ (by omega) (by omega) (by omega) (by omega) (by omega)⟩
                    have p0 : h' 0 = S.h 0 := os 0 (by omega) (by omega)
                    have p2 : h' 2 = S.h 2 := os 2 (by omega) (by omega)
                    have er' : ∀ g, g < S.h 2 → h' (8 + 2 * g) = S.h (8 + 2 * g) ∧ h' (8 + 2 * g + 1) = S.h (8 + 2 * g + 1) := fun g hgg => ⟨os _ (by omega) (by omega), os _ (by omega) (by omega)⟩
                    have on : ∀ k, 125 ≤ k → h' k = hN' k := fun k q => o k (by omega) (by omega) (by omega) (by omega)
                    have n1 := nx_at (n := n) hc.2.1
                    have n2 := nx_at n1.2.2
                    have n3 := nx_at n2.2.2
                    have n4 := nx_at n3.2.2
                    have n5 := nx_at n4.2.2
                    have n6 := nx_at n5.2.2
                    have n7 := nx_at n6.2.2
                    have n8 := nx_at n7.2.2
                    have n9 := nx_at n8.2.2
                    have kcx := kc9'.trans kc10
                    have hokX : okc S.h (9 * x + y) := by
                      refine ⟨by omega, ?_⟩
                      rw [show (9 * x + y) / 9 = x by omega, show (9 * x + y) % 9 = y by omega, ← pl_eq (er x (by omega)).2]
                      exact hy
                    have hnot : ∀ t, t < S.h 3 → S.h (62 + 3 * t + 1) ≠ 9 * x + y := by
                      intro t htl
                      have hno : fnd (fun t => S.h (62 + 3 * t + 1) == 9 * x + y) (S.h 3) = none := by
                        unfold tkn at hk
                        simpa using hk
                      simpa using fnd_none hno t htl
                    refine ⟨w9, _, l9, rfl, km9, nI 1, j10, v10, _, _, _, _, _, rfl, kcx.d, Or.inr ⟨rfl, ((nx tb n (nx tb n (nx tb n (nx tb n (nx tb n (nx tb n (nx tb n (nx tb n (nx tb n S))))))))).t, h'), ?_, hS, t10, ?_, ⟨⟨fun k hk => hS.2.2.2.2.2 k hk, ?_, ?_, ?_, ?_, ?_, ?_, ?_, ?_, fun q => ?_⟩, PRg_c p2 er' hRg, ⟨?_, ?_⟩, PN_c (fun q hq => os _ (by omega) (by omega)) hN, PD_c (os 5 (by omega) (by omega)) (fun d hdd => ⟨os _ (by omega) (by omega), os _ (by omega) (by omega)⟩) hD, WFw_c (os 6 (by omega) (by omega)) ?_ ?_ (fun g hgg => (er' g hgg).2) (fun w i hww hi => ol _ (by omega) (by omega)) hW, WFm_c (os 7 (by omega) (by omega)) (fun m hml => ol _ (by omega) (by omega)) hM, ?_⟩, ⟨?_, ?_⟩, ⟨⟨?_, ?_, ?_, ?_, ?_, ?_, ?_⟩, CW_c (os 6 (by omega) (by omega)) (fun w i hww hi => ol _ (by omega) (by omega)) cw, HG_c p2 er' hg, HX_c p2 er' hn, HWd_c (fun q hq => os _ (by omega) (by omega)) hw, HDo_c (os 5 (by omega) (by omega)) (fun d hdd => ⟨os _ (by omega) (by omega), os _ (by omega) (by omega)⟩) hd, ?_, HMk_c (os 7 (by omega) (by omega)) (fun m hml => ⟨ol _ (by omega) (by omega), ol _ (by omega) (by omega), ol _ (by omega) (by omega)⟩) hmm⟩⟩⟩
                    · show S.t.at_ ≤ (nx tb n (nx tb n (nx tb n (nx tb n (nx tb n (nx tb n (nx tb n (nx tb n (nx tb n S))))))))).t.at_
                      omega
                    · show v10 5 = nI (if h' 0 = 0 then 0 else 1)
                      rw [p0, kcx 5 (by omega) (by omega) (by omega) (by omega) (by omega)]
                      exact h5
                    · show h' 0 ≤ 5
                      omega
                    · show h' 1 ≤ 100
                      rw [os 1 (by omega) (by omega)]; exact b2
                    · show h' 2 ≤ 4
                      omega
                    · show h' 3 ≤ 7
                      omega
                    · show h' 4 ≤ 6
                      rw [os 4 (by omega) (by omega)]; exact b5
                    · show h' 5 ≤ 5
                      rw [os 5 (by omega) (by omega)]; exact b6
                    · show h' 6 ≤ 6
                      rw [os 6 (by omega) (by omega)]; exact b7
                    · show h' 7 ≤ 6
                      rw [os 7 (by omega) (by omega)]; exact b8
                    · have q : h' 0 = 0 := q
                      omega
                    · intro t htl
                      have htl : t < h' 3 := htl
                      show h' (62 + 3 * t) ≤ 3 ∧ okc h' (h' (62 + 3 * t + 1)) ∧ 1 ≤ h' (62 + 3 * t + 2) ∧ h' (62 + 3 * t + 2) ≤ 9
                      by_cases eg : t = S.h 3
                      · rw [eg, oa, ob, oc]
                        exact ⟨hs3, okc_mono (by omega) (fun g hgg => pl_eq (er' g hgg).2) hokX, u1, u9⟩
                      · obtain ⟨z1, z2, z3⟩ := oth t (by omega)
                        obtain ⟨y1, y2, y3, y4⟩ := hT.1 t (by omega)
                        rw [z1, z2, z3]
                        exact ⟨y1, okc_mono (by omega) (fun g hgg => pl_eq (er' g hgg).2) y2, y3, y4⟩
                    · intro t v htl hvl eq
                      have htl : t < h' 3 := htl
                      have hvl : v < h' 3 := hvl
                      have eq : h' (62 + 3 * t + 1) = h' (62 + 3 * v + 1) := eq
                      by_cases eg : t = S.h 3
                      · by_cases ev : v = S.h 3
                        · omega
                        · rw [eg, ob, (oth v (by omega)).2.1] at eq
                          exact absurd eq.symm (hnot v (by omega))
                      · by_cases ev : v = S.h 3
                        · rw [ev, ob, (oth t (by omega)).2.1] at eq
                          exact absurd eq (hnot t (by omega))
                        · rw [(oth t (by omega)).2.1, (oth v (by omega)).2.1] at eq
                          exact hT.2 t v (by omega) (by omega) eq
                    · show S.h 3 ≤ h' 3
                      omega
                    · show S.h 2 ≤ h' 2
                      omega
                    · show NMS h' (h' 3)
                      rw [o3]
                      exact NMS_c (by rw [p2, on2]) (fun k q1 q2 => on k q1) hNm2
                    · intro q hq
                      exact (NR_c hNm2 (by rw [p2, on2]) (fun k q1 q2 => on k q1) hR2).1 q hq
                    · intro q hq
                      have hq : q < h' 3 := hq
                      exact (NR_c hNm2 (by rw [p2, on2]) (fun k q1 q2 => on k q1) hR2).2 q (by omega)
                    · show vH 0 = nI (h' 0)
                      rw [p0]; exact a0
                    · show vH 1 = nI (h' 1)
                      rw [os 1 (by omega) (by omega)]; exact a1
                    · show vH 2 = nI (h' 2)
                      rw [p2]; exact a2
                    · show vH 3 = nI (h' 4)
                      rw [os 4 (by omega) (by omega)]; exact a3
                    · show vH 4 = nI (h' 5)
                      rw [os 5 (by omega) (by omega)]; exact a4
                    · show nI (S.h 3 + 1) = nI (h' 3)
                      rw [o3]
                    · show vH 6 = nI (h' 7)
                      rw [os 7 (by omega) (by omega)]; exact a6
                    · intro t htl
                      have htl : t < h' 3 := htl
                      show upd kd (S.h 3) (nI s) t = nI (h' (62 + 3 * t)) ∧ upd fc (S.h 3) (nI (9 * x + y)) t = nI (h' (62 + 3 * t + 1)) ∧ upd sz (S.h 3) (nI u) t = nI (h' (62 + 3 * t + 2))
                      by_cases eg : t = S.h 3
                      · rw [eg, oa, ob, oc, upd_eq, upd_eq, upd_eq]
                        exact ⟨rfl, rfl, rfl⟩
                      · rw [(oth t (by omega)).1, (oth t (by omega)).2.1, (oth t (by omega)).2.2, upd_ne eg, upd_ne eg, upd_ne eg]
                        exact htt t (by omega)
  · rw [an] at q1
    have hf : MF e w1 := q1
    simp only [m_isWord_f hf.1, bdS, ↓reduceIte, ml0]
    unfold fX9_thingLine_J85
    simp (maxSteps := 4000000) only [nlq]
    rw [if_neg (show ¬ nI 0 ≤ -nI 1 by decide), m_wrong_f hf.1, bdS, mfail _ w1 l1 fr1 e hf]
    exact ⟨w1, fr1, l1, rfl, k1, nI 0, j2, v2, vH, tN, fc, kd, sz, rfl, (kc1.trans kc2).d, Or.inl ⟨e, hf, rfl, hcf⟩⟩
end JL5
