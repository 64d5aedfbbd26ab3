/-! MATH 41: reading: a night on which the box was found, or not -/
def mkd (h : Nat → Nat) (X : Nat) : Bool := (fnd (fun m => h (107 + 3 * m) == X) (h 7)).isSome
section JL7
variable {tb : Nat → Nat} {n : Nat} {tc tm vR vM lt fr : Nat → Int32} {j : Int64} {S : PS} {rN tN : Nat → Int64}
variable {vH vU mn mp mf plc ut uc un uw fc kd sz d1 d2 wd srt nxt : Nat → Int32}
theorem c_hasMark {h : Nat → Nat} {X : Nat} (h7 : h 7 ≤ 6) (hb : ∀ m, m < h 7 → h (107 + 3 * m) < 1000) (v6 : vH 6 = nI (h 7)) (hf : ∀ m, m < h 7 → mn m = nI (h (107 + 3 * m))) (hX : X < 1000) : fX4_hasMark vH mn (nI X) = some (nI (if mkd h X then 1 else 0)) := by
  unfold fX4_hasMark mkd
  simp (maxSteps := 4000000) only [nlq]
  refine Exists.elim (lp_find (f := fX4_hasMark_B2 vH mn (nI X)) (fun m => h (107 + 3 * m) == X) (h 7) (fun i s => s = nI i) (fun o res => res = nI (if o.isSome then 1 else 0)) ?_ ?_ rfl (show h 7 < 5000 by omega)) (fun res hr => ?_)
  · rintro i s hi rfl
    have b := hb i hi
    simp (maxSteps := 4000000) (disch := omega) only [fX4_hasMark_B2, nlq, v6, nI_leI, ok_nI, gdT, nI_clamp, hf i hi, nI_eq, nI_add, exS]
    rw [if_neg (by omega), if_neg (by omega)]
    by_cases q : h (107 + 3 * i) = X
    · rw [if_pos q]
      exact ⟨fun e => by simp [q] at e, fun _ => ⟨_, rfl, rfl⟩⟩
    · rw [if_neg q]
      exact ⟨fun _ => ⟨_, rfl, rfl⟩, fun e => by simp [q] at e⟩
  · rintro s rfl
    simp (maxSteps := 4000000) (disch := omega) only [fX4_hasMark_B2, fX4_hasMark_J34, nlq, v6, nI_leI, exS]
    rw [if_pos (Nat.le_refl _)]
    exact ⟨_, rfl, rfl⟩
  · rw [hr.1, hr.2]
theorem m_boxLoop_f {T : Nat} {w : Nat → Int32} {k a : Int32} (hT : T ≤ 6) (f7 : fr 7 = nI T) (h13 : w 13 = nI 1) : lp (fX9_boxLine_B32 fr tm lt k) 5000 (a, nI 0, w) = some (w, fr, lt) := by
  refine lp_for (fun i => (a, nI i, w)) T ?_ ?_ (by omega) rfl
  · intro i hi
    simp (maxSteps := 4000000) (disch := omega) only [fX9_boxLine_B32, fX9_boxLine_J76, nlq, ok_nI, gdT, nI_clamp, f7, nI_leI, nI_add]
    rw [if_neg (by omega), if_neg (mf_nn h13)]
  · simp (maxSteps := 4000000) (disch := omega) only [fX9_boxLine_B32, nlq, ok_nI, gdT, nI_clamp, f7, nI_leI]
    rw [if_pos (Nat.le_refl _), if_neg (mf_nn h13)]
    rfl
theorem m_boxLoop {h : Nat → Nat} {w : Nat → Int32} {k : Int32} {X p : Nat} (h7 : h 7 ≤ 6) (hb : ∀ k, k < 224 → h k < 1000) (hr : ∀ k, k < 224 → fr k = nI (h k)) (hX : X < 1000) (h13 : w 13 = nI 0) (h4 : w 4 = nI p) : (mkd h X = true → ∃ w', lp (fX9_boxLine_B32 fr tm lt k) 5000 (nI X, nI 0, w) = some (w', fr, lt) ∧ MF (3, p) w' ∧ KM w w') ∧ (mkd h X = false → ∀ res, fX9_boxLine_B32 fr tm lt k (nI X, nI (h 7), w) = some (.inl res) → lp (fX9_boxLine_B32 fr tm lt k) 5000 (nI X, nI 0, w) = some res) := by
  have f7 : fr 7 = nI (h 7) := hr 7 (by omega)
  have st : ∀ i, i < h 7 → h (107 + 3 * i) ≠ X → fX9_boxLine_B32 fr tm lt k (nI X, nI i, w) = some (.inr (nI X, nI (i + 1), w)) := by
    intro i hi q
    have g := hr (107 + 3 * i) (by omega)
    have b := hb (107 + 3 * i) (by omega)
    simp (maxSteps := 4000000) (disch := omega) only [fX9_boxLine_B32, fX9_boxLine_J76, nlq, ok_nI, gdT, nI_clamp, f7, nI_leI, pk_mul, nI_add, g, nI_eq]
    rw [if_neg (by omega), if_pos h13, if_neg q]
  unfold mkd
  constructor
  · intro q
    cases hf : fnd (fun m => h (107 + 3 * m) == X) (h 7) with
    | none => rw [hf] at q; cases q
    | some u =>
      obtain ⟨u1, u2, u3⟩ := fnd_some hf
      obtain ⟨w', ew, hmf, hk⟩ := m_wrong h13 3 p
      have u2 : h (107 + 3 * u) = X := by simpa using u2
      refine ⟨w', ?_, hmf, hk⟩
      refine lp_for (fun i => (nI X, nI i, if i ≤ u then w else w')) (h 7) ?_ ?_ (by omega) ?_
      · intro i hi
        rcases Nat.lt_trichotomy i u with q | q | q
        · try simp only
          rw [if_pos (show i ≤ u by omega), if_pos (show i + 1 ≤ u by omega)]
          exact st i hi (by simpa using u3 i q)
        · have g := hr (107 + 3 * i) (by omega)
          have b := hb (107 + 3 * i) (by omega)
          try simp only
          rw [if_pos (show i ≤ u by omega), if_neg (show ¬ i + 1 ≤ u by omega)]
          simp (maxSteps := 4000000) (disch := omega) only [fX9_boxLine_B32, fX9_boxLine_J76, nlq, ok_nI, gdT, nI_clamp, f7, nI_leI, pk_mul, nI_add, g, nI_eq, h4]
          rw [if_neg (by omega), if_pos h13, if_pos (by rw [q]; exact u2), ew, bdS]
        · try simp only
          rw [if_neg (show ¬ i ≤ u by omega), if_neg (show ¬ i + 1 ≤ u by omega)]
          simp (maxSteps := 4000000) (disch := omega) only [fX9_boxLine_B32, fX9_boxLine_J76, nlq, ok_nI, gdT, nI_clamp, f7, nI_leI, nI_add]
          rw [if_neg (by omega), if_neg (mf_nn hmf.1)]
      · try simp only
        rw [if_neg (show ¬ h 7 ≤ u by omega)]
        simp (maxSteps := 4000000) (disch := omega) only [fX9_boxLine_B32, nlq, ok_nI, gdT, nI_clamp, f7, nI_leI]
        rw [if_pos (Nat.le_refl _), if_neg (mf_nn hmf.1)]
        rfl
      · try simp only
        rw [if_pos (Nat.zero_le _)]
  · intro q res hE
    have hno : fnd (fun m => h (107 + 3 * m) == X) (h 7) = none := by simpa using q
    exact lp_for (fun i => (nI X, nI i, w)) (h 7) (fun i hi => st i hi (by simpa using fnd_none hno i hi)) hE (by omega) rfl
theorem nar_b : ∀ b : Bool, vp_nar .boolean (nI (if b then 1 else 0)) = nI (if b then 1 else 0) := by
  intro b
  cases b <;> rfl
set_option maxHeartbeats 1600000 in
theorem j_mark (ht : TPR tb n tc tm) (hj : JK tb n S vM lt fr vR j rN tN vH vU mn mp mf plc ut uc un uw fc kd sz d1 d2 wd srt nxt) (h76 : S.h 7 < 6) {f : Bool} (hfo : isW tb S.t 7 = f) : ∃ vM' fr' lt', fX9_boxLine vM fr tm lt (nI (if f then 1 else 0)) = some (vM', fr', lt') ∧ KM vM vM' ∧ ∃ r j' vR' vH' mn' mp' mf', fX5_readMark j vR tc vH mn mp mf = some (r, j', vR', vH', mn', mp', mf') ∧ KD vR vR' ∧ (JF vM' r vR' ∨ (r = nI 1 ∧ ∃ S', S.t.at_ ≤ S'.t.at_ ∧ JT tb n S' vM' lt' fr' vR' j' rN tN vH' vU mn' mp' mf' plc ut uc un uw fc kd sz d1 d2 wd srt nxt)) := by
  obtain ⟨hm, hc, h5, hP, hR, hH, h0⟩ := hj
  obtain ⟨hA, hRg, hT, hN, hD, hW, hM, hNm⟩ := id hP
  obtain ⟨⟨a0, a1, a2, a3, a4, a5, a6⟩, cw, hg, hn, hw, hd, htt, hmm⟩ := id hH
  obtain ⟨b0, b1, b2, b3, b4, b5, b6, b7, b8, b9⟩ := id hA
  have f7 : fr 7 = nI (S.h 7) := hm.2.2.2.2.1 7 (by omega)
  obtain ⟨j1, v1, c1, t1, kc1⟩ := c_st ht hc
  obtain ⟨g2, w2, e2, k2, r2, v2, c2, kc2, q2⟩ := j_here (S := nx tb n S) hm t1 (lo := 0) (hi := 99) (by omega) (by omega)
  unfold fX9_boxLine fX5_readMark
  rw [if_pos (show vM 13 = 0 from hm.1), c_says ht hc.1 hc.2.1 (show 7 < 22 by omega), hfo, bdS, c1, bdS]
  simp (maxSteps := 4000000) only [nlq]
  rw [e2, bdS, c2, bdS, ok_nI (show 7 < 224 by omega) (by omega), gdT]
  try simp only
  have kc2' := kc1.trans kc2
  rcases q2 with ⟨e, hf, rfl, rfl, hcf⟩ | ⟨x, rfl, rfl, e10, x0, x9, s2, t2⟩
  · rw [m_boxLoop_f b8 f7 hf.1, if_pos rfl]
    exact ⟨w2, fr, lt, rfl, k2, nI 0, j1, v2, vH, mn, mp, mf, rfl, kc2'.d, Or.inl ⟨e, hf, rfl, hcf⟩⟩
  · obtain ⟨lt1, lt2⟩ := m_boxLoop (tm := tm) (lt := lt) (fr := fr) (w := w2) (k := nI (if f then 1 else 0)) (X := x) (h := S.h) b8 b0 (fun k hk => s2.2.2.2.2.1 k hk) (by omega) s2.1 s2.2.2.1.2.1
    rw [if_neg (show ¬ nI 1 = nI 0 by decide), e10, c_hasMark b8 (fun m hml => b0 _ (by omega)) a6 (fun m hml => (hmm m hml).1) (by omega), bdS]
    cases hk : mkd S.h x with
    | true =>
      obtain ⟨w', el, hf, kk⟩ := lt1 hk
      obtain ⟨v', e', hf', hk'⟩ := c_fails (S := nx tb n S) t2 3
      rw [el, if_neg (show ¬ nI (if true = true then 1 else 0) = nI 0 by decide), e', bdS]
      exact ⟨w', fr, lt, rfl, k2.trans kk, nI 0, j1, v', vH, mn, mp, mf, rfl, (kc2'.trans hk').d, Or.inl ⟨_, hf, rfl, hf'⟩⟩
    | false =>
      have lt3 := lt2 hk
      obtain ⟨w8, l8, e9, s8, k8⟩ := m_nx ht s2
      obtain ⟨j8, v8, c8, t8, kc8⟩ := c_st (S := nx tb n S) ht t2
      obtain ⟨b, w9, l9, e11, k9, r9, j9, v9, c9, kc9, q9⟩ := j_after (S := nx tb n (nx tb n S)) ht s8 t8 (w := 0) (lo := 0) (hi := 11) (by omega) (by omega) (by omega)
      rw [if_pos (show nI (if false = true then 1 else 0) = nI 0 from rfl), c8, bdS]
      try simp only
      rw [c9, bdS]
      try simp only
      have km9 := k2.trans (k8.trans k9)
      have kc9' := kc2'.trans (kc8.trans kc9)
      have efail : ∀ e, MF e w9 → ∃ f', lp (fX9_boxLine_B32 fr tm lt (nI (if f then 1 else 0))) 5000 (nI x, nI 0, w2) = some (w9, f', l9) := by
        intro e hf
        refine ⟨upd (upd (upd fr (107 + 3 * S.h 7) (nI x)) (107 + 3 * S.h 7 + 1) b) (107 + 3 * S.h 7 + 2) (nI (if f then 1 else 0)), lt3 _ ?_⟩
        simp (maxSteps := 4000000) (disch := omega) only [fX9_boxLine_B32, fX9_boxLine_J145, nlq, ok_nI, gdT, nI_clamp, f7, nI_leI, pk_mul, nI_add]
        rw [if_pos (Nat.le_refl _), if_pos (show w2 13 = nI 0 from s2.1), e9, bdS]
        try simp only
        rw [e11, bdS]
        try simp only
        rw [if_neg (mf_nn hf.1)]
        rfl
      rcases q9 with ⟨e, hf, rfl, hcf⟩ | ⟨rfl, r10, j10, v10, c10, kc10, q10⟩
      · obtain ⟨f', ef⟩ := efail e hf
        rw [ef, if_pos rfl]
        exact ⟨w9, f', l9, rfl, km9, nI 0, j9, v9, vH, mn, mp, mf, rfl, kc9'.d, Or.inl ⟨e, hf, rfl, hcf⟩⟩
      · rw [if_neg (show ¬ nI 1 = nI 0 by decide), c10, bdS]
        try simp only
        rcases q10 with ⟨e, hf, rfl, hcf⟩ | ⟨u, rfl, rfl, u1, u9, s10, t10⟩
        · obtain ⟨f', ef⟩ := efail e hf
          rw [ef, if_neg (show ¬ nI 0 ≤ (-1 : Int32) by decide)]
          exact ⟨w9, f', l9, rfl, km9, nI 0, j10, v10, vH, mn, mp, mf, rfl, (kc9'.trans kc10).d, Or.inl ⟨e, hf, rfl, hcf⟩⟩
        · have ea : fX4_addMark vH mn mp mf (nI x) (nI u) (nI (if f then 1 else 0)) = some (upd vH 6 (nI (S.h 7 + 1)), upd mn (S.h 7) (nI x), upd mp (S.h 7) (nI u), upd mf (S.h 7) (nI (if f then 1 else 0))) := by
            unfold fX4_addMark
            rw [nar_b f]
            simp (maxSteps := 4000000) (disch := omega) only [nlq, nI_ltI, a6, ok_nI, gdT, nI_clamp, nI_add]
            rw [if_neg (by omega), if_pos h76]
          have eok : lp (fX9_boxLine_B32 fr tm lt (nI (if f then 1 else 0))) 5000 (nI x, nI 0, w2) = some (w9, upd (upd (upd (upd fr (107 + 3 * S.h 7) (nI x)) (107 + 3 * S.h 7 + 1) (nI u)) (107 + 3 * S.h 7 + 2) (nI (if f then 1 else 0))) 7 (nI (S.h 7 + 1)), l9) := by
            refine lt3 _ ?_
            simp (maxSteps := 4000000) (disch := omega) only [fX9_boxLine_B32, fX9_boxLine_J145, nlq, ok_nI, gdT, nI_clamp, f7, nI_leI, pk_mul, nI_add]
            rw [if_pos (Nat.le_refl _), if_pos (show w2 13 = nI 0 from s2.1), e9, bdS]
            try simp only
            rw [e11, bdS]
            try simp only
            rw [if_pos (show w9 13 = nI 0 from s10.1)]
            simp (maxSteps := 4000000) (disch := omega) only [upd_ne, f7, nI_add, exS]
          rw [eok, if_pos (show nI 0 ≤ nI u by rw [nI_leI (by omega) (by omega)]; omega), ea, bdS]
          try simp only
          have f1 : (if f = true then 1 else 0) ≤ 1 := by cases f <;> decide
          have hS : MS tb n ((nx tb n (nx tb n (nx tb n (nx tb n S)))).t, setN (setN (setN (setN S.h (107 + 3 * S.h 7) x) (107 + 3 * S.h 7 + 1) u) (107 + 3 * S.h 7 + 2) (if f = true then 1 else 0)) 7 (S.h 7 + 1)) w9 l9 (upd (upd (upd (upd fr (107 + 3 * S.h 7) (nI x)) (107 + 3 * S.h 7 + 1) (nI u)) (107 + 3 * S.h 7 + 2) (nI (if f = true then 1 else 0))) 7 (nI (S.h 7 + 1))) := MS.set (MS.set (MS.set (MS.set s10 (k := 107 + 3 * S.h 7) (v := x) (by omega)) (k := 107 + 3 * S.h 7 + 1) (v := u) (by omega)) (k := 107 + 3 * S.h 7 + 2) (v := if f = true then 1 else 0) (by omega)) (k := 7) (v := S.h 7 + 1) (by omega)
          have o : ∀ k, k ≠ 7 → k ≠ 107 + 3 * S.h 7 → k ≠ 107 + 3 * S.h 7 + 1 → k ≠ 107 + 3 * S.h 7 + 2 → setN (setN (setN (setN S.h (107 + 3 * S.h 7) x) (107 + 3 * S.h 7 + 1) u) (107 + 3 * S.h 7 + 2) (if f = true then 1 else 0)) 7 (S.h 7 + 1) k = S.h k := fun k q1 q2 q3 q4 => by rw [setN_ne q1, setN_ne q4, setN_ne q3, setN_ne q2]
          have o7 : setN (setN (setN (setN S.h (107 + 3 * S.h 7) x) (107 + 3 * S.h 7 + 1) u) (107 + 3 * S.h 7 + 2) (if f = true then 1 else 0)) 7 (S.h 7 + 1) 7 = S.h 7 + 1 := setN_eq _ _ _
          have oa : setN (setN (setN (setN S.h (107 + 3 * S.h 7) x) (107 + 3 * S.h 7 + 1) u) (107 + 3 * S.h 7 + 2) (if f = true then 1 else 0)) 7 (S.h 7 + 1) (107 + 3 * S.h 7) = x := by rw [setN_ne (by omega), setN_ne (by omega), setN_ne (by omega), setN_eq]
          have ob : setN (setN (setN (setN S.h (107 + 3 * S.h 7) x) (107 + 3 * S.h 7 + 1) u) (107 + 3 * S.h 7 + 2) (if f = true then 1 else 0)) 7 (S.h 7 + 1) (107 + 3 * S.h 7 + 1) = u := by rw [setN_ne (by omega), setN_ne (by omega), setN_eq]
          have oc : setN (setN (setN (setN S.h (107 + 3 * S.h 7) x) (107 + 3 * S.h 7 + 1) u) (107 + 3 * S.h 7 + 2) (if f = true then 1 else 0)) 7 (S.h 7 + 1) (107 + 3 * S.h 7 + 2) = if f = true then 1 else 0 := by rw [setN_ne (by omega), setN_eq]
          generalize hh : setN (setN (setN (setN S.h (107 + 3 * S.h 7) x) (107 + 3 * S.h 7 + 1) u) (107 + 3 * S.h 7 + 2) (if f = true then 1 else 0)) 7 (S.h 7 + 1) = h' at hS o o7 oa ob oc
          have os : ∀ k, k < 107 → k ≠ 7 → h' k = S.h k := fun k q1 q2 => o k q2 (by omega) (by omega) (by omega)
          have om : ∀ m i, m < S.h 7 → i < 3 → h' (107 + 3 * m + i) = S.h (107 + 3 * m + i) := fun m i q1 q2 => o _ (by omega) (by omega) (by omega) (by omega)
          have n1 := nx_at (n := n) hc.2.1
          have n2 := nx_at n1.2.2
          have n3 := nx_at n2.2.2
          have n4 := nx_at n3.2.2
          have kcx := kc9'.trans kc10
          refine ⟨w9, _, l9, rfl, km9, nI 1, j10, v10, _, _, _, _, rfl, kcx.d, Or.inr ⟨rfl, ((nx tb n (nx tb n (nx tb n (nx tb n S)))).t, h'), ?_, ?_⟩⟩
          · show S.t.at_ ≤ (nx tb n (nx tb n (nx tb n (nx tb n S)))).t.at_
            omega
          · refine JT_b hP hR hH h5 (kcx 5 (by omega) (by omega) (by omega) (by omega) (by omega)) h0 (fun k q => o k (by omega) (by omega) (by omega) (by omega)) hS t10 ?_ ?_ ?_ (by omega) (PN_c (fun x hx => os _ (by omega) (by omega)) hN) (PD_c (os 5 (by omega) (by omega)) (fun d hdd => ⟨os _ (by omega) (by omega), os _ (by omega) (by omega)⟩) hD) (WFw_c (os 6 (by omega) (by omega)) ?_ ?_ (fun g hgg => os _ (by omega) (by omega)) (fun w i _ _ => os _ (by omega) (by omega)) hW) ?_ (fun k q1 q2 q3 => upd_ne q3) ?_ ?_ ?_ (CW_c (os 6 (by omega) (by omega)) (fun w i _ _ => os _ (by omega) (by omega)) cw) (HWd_c (fun x hx => os _ (by omega) (by omega)) hw) (HDo_c (os 5 (by omega) (by omega)) (fun d hdd => ⟨os _ (by omega) (by omega), os _ (by omega) (by omega)⟩) hd) ?_
            · rw [os 4 (by omega) (by omega)]; exact b5
            · rw [os 5 (by omega) (by omega)]; exact b6
            · rw [os 6 (by omega) (by omega)]; exact b7
            · rw [os 3 (by omega) (by omega)]; exact Nat.le_refl _
            · rw [os 2 (by omega) (by omega)]; exact Nat.le_refl _
            · intro m hml
              have hml : m < h' 7 := hml
              by_cases eg : m = S.h 7
              · unfold mF
                rw [eg, oc]; exact f1
              · have x2 : mF h' m = mF S.h m := om m 2 (by omega) (by omega)
                rw [x2]; exact hM m (by omega)
            · rw [os 4 (by omega) (by omega)]; exact a3
            · rw [os 5 (by omega) (by omega)]; exact a4
            · rw [o7]; exact upd_eq
            · intro m hml
              have hml : m < h' 7 := hml
              by_cases eg : m = S.h 7
              · unfold mN mP mF
                rw [eg, oa, ob, oc, upd_eq, upd_eq, upd_eq]
                exact ⟨rfl, rfl, rfl⟩
              · have x0 : mN h' m = mN S.h m := om m 0 (by omega) (by omega)
                have x1 : mP h' m = mP S.h m := om m 1 (by omega) (by omega)
                have x2 : mF h' m = mF S.h m := om m 2 (by omega) (by omega)
                rw [x0, x1, x2, upd_ne eg, upd_ne eg, upd_ne eg]
                exact hmm m (by omega)
end JL7
