/-! MATH 38: reading: a door -/
theorem doorb_sym (h : Nat → Nat) (x y : Nat) : doorb h x y = doorb h y x := by
  unfold doorb
  congr 1
  apply fnd_congr
  intro d _
  exact Bool.or_comm _ _
theorem doorb_no {h : Nat → Nat} {x y : Nat} (q : doorb h x y = false) : ∀ d, d < h 5 → ¬ dsd h d x y := by
  intro d hd hs
  unfold doorb at q
  cases hf : fnd (fun d => (h (52 + 2 * d) == x && h (52 + 2 * d + 1) == y) || (h (52 + 2 * d) == y && h (52 + 2 * d + 1) == x)) (h 5) with
  | some u => rw [hf] at q; cases q
  | none =>
    have := fnd_none hf d hd
    rcases hs with ⟨q1, q2⟩ | ⟨q1, q2⟩
    · simp [q1, q2] at this
    · simp [q1, q2] at this
section JL4
variable {tb : Nat → Nat} {n : Nat} {tc tm vR vM lt fr : Nat → Int32} {j : Int64} {S : PS} {rN tN : Nat → Int64}
variable {vH vU mn mp mf plc ut uc un uw fc kd sz d1 d2 wd srt nxt : Nat → Int32}
/-- the reference's loop over the doors told -/
theorem m_doorLoop {h : Nat → Nat} (b5 : h 5 ≤ 5) (hb : ∀ k, k < 224 → h k < 1000) (hr : ∀ k, k < 224 → fr k = nI (h k)) {x y : Nat} (hx : x < 36) (hy : y < 36) (b : Bool) {res : (Nat → Int32) × (Nat → Int32) × (Nat → Int32)} (hres : (if vM 13 = 0 then (if nI (if b || doorb h x y then 1 else 0) = 0 then (fX9_doorLine_J195 fr tm (nI x) (nI y) lt vM) else (Option.bind (fX9_wrong vM 3 (vM 4)) fun w => (fX9_doorLine_J195 fr tm (nI x) (nI y) lt w))) else (fX9_doorLine_J195 fr tm (nI x) (nI y) lt vM)) = some res) : fX9_doorLine_J84 fr tm (nI x) (nI y) (nI (if b then 1 else 0)) lt vM = some res := by
  have f5 : fr 5 = nI (h 5) := hr 5 (by omega)
  unfold fX9_doorLine_J84
  have ed : doorb h x y = (fnd (fun d => (h (52 + 2 * d) == x && h (52 + 2 * d + 1) == y) || (h (52 + 2 * d) == y && h (52 + 2 * d + 1) == x)) (h 5)).isSome := rfl
  rw [ed] at hres
  generalize hp : (fun d => (h (52 + 2 * d) == x && h (52 + 2 * d + 1) == y) || (h (52 + 2 * d) == y && h (52 + 2 * d + 1) == x)) = p at hres
  have hpi : ∀ i, p i = ((h (52 + 2 * i) == x && h (52 + 2 * i + 1) == y) || (h (52 + 2 * i) == y && h (52 + 2 * i + 1) == x)) := fun i => by rw [← hp]
  refine lp_for (fun i => (nI x, nI y, nI (if b || (fnd p i).isSome then 1 else 0), nI i, lt, vM)) (h 5) ?_ ?_ (by omega) ?_
  · intro i hi
    have g1 := hr (52 + 2 * i) (by omega)
    have g2 := hr (52 + 2 * i + 1) (by omega)
    have c1 := hb (52 + 2 * i) (by omega)
    have c2 := hb (52 + 2 * i + 1) (by omega)
    simp (disch := omega) only [fX9_doorLine_B89, fX9_doorLine_J148, fX9_doorLine_J161, fX9_doorLine_J165, fX9_doorLine_J166, nlq, ok_nI, gdT, nI_clamp, f5, nI_leI, pk_mul, nI_add, g1, g2, nI_eq]
    rw [if_neg (by omega), fnd_s, hpi i]
    cases b with
    | true => rfl
    | false =>
      cases hf : fnd p i with
      | some u => rfl
      | none =>
        by_cases exy : x = y
        · subst exy
          by_cases e1 : h (52 + 2 * i) = x <;> by_cases e2 : h (52 + 2 * i + 1) = x <;> simp [e1, e2]
        · have eyx : ¬ y = x := fun q => exy q.symm
          by_cases e1 : h (52 + 2 * i) = x
          · by_cases e2 : h (52 + 2 * i + 1) = y <;> simp [e1, e2, exy]
          · by_cases e3 : h (52 + 2 * i) = y
            · by_cases e4 : h (52 + 2 * i + 1) = x <;> simp [e3, e4, eyx]
            · simp [e1, e3]
  · simp (disch := omega) only [fX9_doorLine_B89, nlq, ok_nI, gdT, nI_clamp, f5, nI_leI]
    rw [if_pos (Nat.le_refl _)]
    simp only [nlq] at hres
    rw [hres]
    rfl
  · simp [fnd]
    rfl
theorem j_door (ht : TPR tb n tc tm) (hj : JK tb n S vM lt fr vR j rN tN vH vU mn mp mf plc ut uc un uw fc kd sz d1 d2 wd srt nxt) (h55 : S.h 5 < 5) : ∃ vM' fr' lt', fX9_doorLine vM fr lt tm = some (vM', fr', lt') ∧ KM vM vM' ∧ ∃ r j' vR' vH' d1' d2', fX5_readDoor j vR tc vH rN plc d1 d2 = some (r, j', vR', vH', d1', d2') ∧ KD vR vR' ∧ (JF vM' r vR' ∨ (r = nI 1 ∧ ∃ S', S.t.at_ ≤ S'.t.at_ ∧ JT tb n S' vM' lt' fr' vR' j' rN tN vH' vU mn mp mf plc ut uc un uw fc kd sz d1' d2' wd srt nxt)) := by
  obtain ⟨hm, hc, h5, hP, hR, hH, h0⟩ := hj
  obtain ⟨hA, hRg, hT, hN, hD, hW, hM, hNm⟩ := id hP
  obtain ⟨⟨a0, a1, a2, a3, a4, a5, a6⟩, cw, hg, hn, hw, hd, htt, hmm⟩ := id hH
  obtain ⟨b0, b1, b2, b3, b4, b5, b6, b7, b8, b9⟩ := id hA
  obtain ⟨j1, v1, c1, t1, kc1⟩ := c_st ht hc
  obtain ⟨g2, w2, l2, e2, k2, r2, j2, v2, c2, kc2, q2⟩ := j_told (S := nx tb n S) ht hm t1 hNm hR
  have c2 : fX5_takeToldName j1 v1 tc 4 rN (nI (S.h 2)) = some (r2, j2, v2) := c2
  unfold fX9_doorLine fX5_readDoor
  rw [if_pos (show vM 13 = 0 from hm.1), e2, bdS, c1, bdS]
  simp only [nlq]
  rw [a2, c2, bdS, ok_nI (show 5 < 224 by omega) (by omega), gdT]
  simp only
  rcases q2 with ⟨e, hf, rfl, rfl, hcf⟩ | ⟨x, rfl, rfl, hx, s2, t2⟩
  · rw [if_neg (mf_nn hf.1), if_neg (show ¬ nI 0 ≤ (-1 : Int32) by decide)]
    exact ⟨w2, fr, l2, rfl, k2, nI 0, j2, v2, vH, d1, d2, rfl, (kc1.trans kc2).d, Or.inl ⟨e, hf, rfl, hcf⟩⟩
  · have hx : x < S.h 2 := hx
    obtain ⟨g3, w3, e3, k3, pe, r3, j3, v3, c3, kc3, q3⟩ := j_placeT (S := nx tb n (nx tb n S)) (vH := vH) (plc := plc) (srt := srt) ht s2 t2 hRg b3 hx a2 hg
    have pe : fX4_placesOf vH plc (nI x) = some (nI (pl S.h x)) := pe
    have c3 : fX5_takeWhole j2 v2 tc (nI 0) (nI (pl S.h x) - nI 1) = some (r3, j3, v3) := c3
    rw [if_pos (show w2 13 = nI 0 from s2.1), e3, bdS, if_pos (show nI 0 ≤ nI x by rw [nI_leI (by omega) (by omega)]; omega), pe, bdS, c3, bdS]
    simp only
    rcases q3 with ⟨e, hf, rfl, hcf⟩ | ⟨y, rfl, rfl, hy, s3, t3⟩
    · rw [if_neg (mf_nn hf.1), if_neg (show ¬ nI 0 ≤ (-1 : Int32) by decide)]
      exact ⟨w3, fr, l2, rfl, k2.trans k3, nI 0, j3, v3, vH, d1, d2, rfl, (kc1.trans (kc2.trans kc3)).d, Or.inl ⟨e, hf, rfl, hcf⟩⟩
    · have hy : y < pl S.h x := hy
      have y9 : y < 9 := by have := (hRg x hx).2.2; omega
      have hX : 9 * x + y < 36 := by omega
      obtain ⟨w4, l4, e4, s4, k4⟩ := m_nx ht s3
      obtain ⟨g5, w5, l5, e5, k5, r5, j5, v5, c5, kc5, q5⟩ := j_told (S := nx tb n (nx tb n (nx tb n S))) ht s4 t3 hNm hR
      have c5 : fX5_takeToldName j3 v3 tc 4 rN (nI (S.h 2)) = some (r5, j5, v5) := c5
      rw [if_pos (show w3 13 = nI 0 from s3.1), e4, bdS, if_pos (show nI 0 ≤ nI y by rw [nI_leI (by omega) (by omega)]; omega), c_cellAt, bdS, c5, bdS]
      simp only
      rw [e5, bdS]
      simp only
      rcases q5 with ⟨e, hf, rfl, rfl, hcf⟩ | ⟨u, rfl, rfl, hu, s5, t5⟩
      · rw [if_neg (mf_nn hf.1), if_pos (show (-1 : Int32) < nI 0 by decide)]
        exact ⟨w5, fr, l5, rfl, k2.trans (k3.trans (k4.trans k5)), nI 0, j5, v5, vH, d1, d2, rfl, (kc1.trans (kc2.trans (kc3.trans kc5))).d, Or.inl ⟨e, hf, rfl, hcf⟩⟩
      · have hu : u < S.h 2 := hu
        obtain ⟨g6, w6, e6, k6, pe6, r6, v6, c6, kc6, q6⟩ := j_place (S := nx tb n (nx tb n (nx tb n (nx tb n S)))) (vH := vH) (plc := plc) (srt := srt) s5 t5 hRg b3 hu a2 hg
        have pe6 : fX4_placesOf vH plc (nI u) = some (nI (pl S.h u)) := pe6
        have c6 : fX5_isWhole j5 v5 (nI 0) (nI (pl S.h u) - nI 1) = some (r6, v6) := c6
        rw [if_pos (show w5 13 = nI 0 from s5.1), e6, bdS, if_neg (show ¬ nI u < nI 0 by rw [nI_ltI (by omega) (by omega)]; omega), pe6, bdS, c6, bdS]
        simp only
        have kmx := k2.trans (k3.trans (k4.trans (k5.trans k6)))
        have kcx := kc1.trans (kc2.trans (kc3.trans (kc5.trans kc6)))
        rcases q6 with ⟨e, hf, rfl, hcf⟩ | ⟨z, rfl, rfl, e10, hz, s6, t6⟩
        · have fin : ∀ (a b : Int32), ∃ fr' l', fX9_doorLine_J84 fr tm (nI (9 * x + y)) a b l5 w6 = some (w6, fr', l') := by
            intro a b
            have f5 : fr 5 = nI (S.h 5) := s5.2.2.2.2.1 5 (by omega)
            unfold fX9_doorLine_J84
            refine Exists.elim (lp_inv (f := fX9_doorLine_B89 fr tm) (fun i s => ∃ t, s = (nI (9 * x + y), a, t, nI i, l5, w6)) (fun res => res = (w6, fr, l5)) (S.h 5) ?_ ?_ 5000 0 (nI (9 * x + y), a, b, nI 0, l5, w6) (Nat.zero_le _) ⟨b, rfl⟩ (by omega)) (fun res hr => ⟨fr, l5, by rw [hr.2] at hr; exact hr.1⟩)
            · rintro i s hi ⟨t, rfl⟩
              left
              simp (disch := omega) only [fX9_doorLine_B89, fX9_doorLine_J148, fX9_doorLine_J161, fX9_doorLine_J165, fX9_doorLine_J166, nlq, ok_nI, gdT, nI_clamp, f5, nI_leI, pk_mul, nI_add]
              rw [if_neg (by omega)]
              split
              · split
                · split
                  · exact ⟨_, rfl, _, rfl⟩
                  · split
                    · split
                      · exact ⟨_, rfl, _, rfl⟩
                      · exact ⟨_, rfl, _, rfl⟩
                    · exact ⟨_, rfl, _, rfl⟩
                · split
                  · split
                    · exact ⟨_, rfl, _, rfl⟩
                    · exact ⟨_, rfl, _, rfl⟩
                  · exact ⟨_, rfl, _, rfl⟩
              · exact ⟨_, rfl, _, rfl⟩
            · rintro s ⟨t, rfl⟩
              simp (disch := omega) only [fX9_doorLine_B89, fX9_doorLine_J195, nlq, ok_nI, gdT, nI_clamp, f5, nI_leI]
              rw [if_pos (Nat.le_refl _), if_neg (mf_nn hf.1), if_neg (mf_nn hf.1)]
              exact ⟨_, rfl, rfl⟩
          rw [if_pos rfl]
          by_cases q : nI (9 * x + y) = g6
          · rw [if_pos q]
            obtain ⟨fr', l', ef⟩ := fin g6 (nI 1)
            exact ⟨w6, fr', l', ef, kmx, nI 0, j5, v6, vH, d1, d2, rfl, kcx.d, Or.inl ⟨e, hf, rfl, hcf⟩⟩
          · rw [if_neg q]
            obtain ⟨fr', l', ef⟩ := fin g6 (nI 0)
            exact ⟨w6, fr', l', ef, kmx, nI 0, j5, v6, vH, d1, d2, rfl, kcx.d, Or.inl ⟨e, hf, rfl, hcf⟩⟩
        · have hz : z < pl S.h u := hz
          have z9 : z < 9 := by have := (hRg u hu).2.2; omega
          have hZ : 9 * u + z < 36 := by omega
          have e4' : w6 4 = nI (nx tb n (nx tb n (nx tb n (nx tb n S)))).t.at_ := s6.2.2.1.2.1
          have hwf := PI_WFh hP h0
          have f5 : fr 5 = nI (S.h 5) := s6.2.2.2.2.1 5 (by omega)
          -- the reference's test is the class's
          have mt : ∀ res, (if ((9 * x + y == 9 * u + z) || doorb S.h (9 * x + y) (9 * u + z)) = true then (Option.bind (fX9_wrong w6 (nI 3) (w6 4)) fun w => (fX9_doorLine_J195 fr tm (nI (9 * x + y)) (nI (9 * u + z)) l5 w)) else (fX9_doorLine_J195 fr tm (nI (9 * x + y)) (nI (9 * u + z)) l5 w6)) = some res → (if nI (9 * x + y) = nI (9 * u + z) then fX9_doorLine_J84 fr tm (nI (9 * x + y)) (nI (9 * u + z)) (nI 1) l5 w6 else fX9_doorLine_J84 fr tm (nI (9 * x + y)) (nI (9 * u + z)) (nI 0) l5 w6) = some res := by
            intro res hres
            have := m_doorLoop (vM := w6) (tm := tm) (lt := l5) (h := S.h) (fr := fr) b6 b0 (fun k hk => s6.2.2.2.2.1 k hk) hX hZ (9 * x + y == 9 * u + z) (res := res) (by
              rw [if_pos (show w6 13 = 0 from s6.1)]
              cases hq : ((9 * x + y == 9 * u + z) || doorb S.h (9 * x + y) (9 * u + z)) with
              | true =>
                rw [hq, if_pos rfl] at hres
                rw [if_neg (show ¬ nI (if true = true then 1 else 0) = 0 by decide)]
                exact hres
              | false =>
                rw [hq, if_neg (by decide)] at hres
                rw [if_pos (show nI (if false = true then 1 else 0) = 0 from rfl)]
                exact hres)
            by_cases q : 9 * x + y = 9 * u + z
            · rw [if_pos (show nI (9 * x + y) = nI (9 * u + z) by rw [q])]
              rw [show (9 * x + y == 9 * u + z) = true by simpa using q] at this
              exact this
            · rw [if_neg (show ¬ nI (9 * x + y) = nI (9 * u + z) by rw [nI_eq (by omega) (by omega)]; exact q)]
              rw [show (9 * x + y == 9 * u + z) = false by simpa using q] at this
              exact this
          rw [if_neg (show ¬ nI 1 = nI 0 by decide), e10, c_cellAt, bdS]
          have cb : ((9 * x + y == 9 * u + z) || doorb S.h (9 * x + y) (9 * u + z)) = true → ∃ v', (if nI (9 * x + y) = nI (9 * u + z) then fX5_readDoor_J123 vH d1 d2 j5 v6 else (Option.bind (fX4_hasDoor vH d1 d2 (nI (9 * x + y)) (nI (9 * u + z))) fun r117 => (if r117 = nI 0 then (Option.bind (fX5_step j5 v6 tc) fun (vR_j11_130, vR_130) => (Option.bind (fX4_addDoor vH d1 d2 (nI (9 * x + y)) (nI (9 * u + z))) fun (vH_140, vH_doorOne_140, vH_doorTwo_140) => (some (nI 1, vR_j11_130, vR_130, vH_140, vH_doorOne_140, vH_doorTwo_140)))) else (fX5_readDoor_J123 vH d1 d2 j5 v6)))) = some (nI 0, j5, v', vH, d1, d2) ∧ CF (3, (nx tb n (nx tb n (nx tb n (nx tb n S)))).t.at_) v' ∧ KC v6 v' := by
            intro q
            obtain ⟨v', e', hf', hk'⟩ := c_fails t6 3
            have e9 : fX5_readDoor_J123 vH d1 d2 j5 v6 = some (nI 0, j5, v', vH, d1, d2) := by
              unfold fX5_readDoor_J123
              simp only [nlq]
              rw [e', bdS]
              rfl
            refine ⟨v', ?_, hf', hk'⟩
            by_cases q1 : 9 * x + y = 9 * u + z
            · rw [if_pos (by rw [q1]), e9]
            · rw [if_neg (by rw [nI_eq (by omega) (by omega)]; exact q1), c_hasDoor hwf a4 hd hX hZ, bdS]
              have : doorb S.h (9 * x + y) (9 * u + z) = true := by simpa [q1] using q
              rw [this, if_neg (show ¬ nI (if true = true then 1 else 0) = nI 0 by decide), e9]
          cases hq : ((9 * x + y == 9 * u + z) || doorb S.h (9 * x + y) (9 * u + z)) with
          | true =>
            obtain ⟨w, ew, hf, hk⟩ := m_wrong s6.1 3 (nx tb n (nx tb n (nx tb n (nx tb n S)))).t.at_
            obtain ⟨v', ec, hf', hk'⟩ := cb hq
            rw [mt (w, fr, l5) (by
              rw [hq, if_pos rfl, e4', ew, bdS]
              unfold fX9_doorLine_J195
              rw [if_neg (mf_ne hf.1)]), ec]
            exact ⟨w, fr, l5, rfl, kmx.trans hk, nI 0, j5, v', vH, d1, d2, rfl, (kcx.trans hk').d, Or.inl ⟨_, hf, rfl, hf'⟩⟩
          | false =>
            obtain ⟨q1, q2⟩ : 9 * x + y ≠ 9 * u + z ∧ doorb S.h (9 * x + y) (9 * u + z) = false := by simpa using hq
            obtain ⟨w7, l7, e7, s7, k7⟩ := m_nx ht s6
            obtain ⟨j7, v7, c7, t7, kc7⟩ := c_st ht t6
            have ea : fX4_addDoor vH d1 d2 (nI (9 * x + y)) (nI (9 * u + z)) = some (upd vH 4 (nI (S.h 5 + 1)), upd d1 (S.h 5) (nI (9 * x + y)), upd d2 (S.h 5) (nI (9 * u + z))) := by
              unfold fX4_addDoor
              simp (disch := omega) only [nlq, nI_ltI, a4, ok_nI, gdT, nI_clamp, nI_add]
              rw [if_neg (by omega), if_pos h55]
            rw [mt (w7, upd (upd (upd fr (52 + 2 * S.h 5) (nI (9 * x + y))) (52 + 2 * S.h 5 + 1) (nI (9 * u + z))) 5 (nI (S.h 5 + 1)), l7) (by
              rw [hq, if_neg (by decide)]
              unfold fX9_doorLine_J195
              rw [if_pos (show w6 13 = 0 from s6.1), e7, bdS]
              simp (disch := omega) only [nlq, ok_nI, gdT, nI_clamp, f5, pk_mul, nI_add, upd_ne]), if_neg (by rw [nI_eq (by omega) (by omega)]; exact q1), c_hasDoor hwf a4 hd hX hZ, bdS, q2, if_pos (show nI (if false = true then 1 else 0) = nI 0 from rfl), c7, bdS]
            simp only
            rw [ea, bdS]
            simp only
            have hS : MS tb n ((nx tb n (nx tb n (nx tb n (nx tb n (nx tb n S))))).t, setN (setN (setN S.h (52 + 2 * S.h 5) (9 * x + y)) (52 + 2 * S.h 5 + 1) (9 * u + z)) 5 (S.h 5 + 1)) w7 l7 (upd (upd (upd fr (52 + 2 * S.h 5) (nI (9 * x + y))) (52 + 2 * S.h 5 + 1) (nI (9 * u + z))) 5 (nI (S.h 5 + 1))) := MS.set (MS.set (MS.set s7 (k := 52 + 2 * S.h 5) (v := 9 * x + y) (by omega)) (k := 52 + 2 * S.h 5 + 1) (v := 9 * u + z) (by omega)) (k := 5) (v := S.h 5 + 1) (by omega)
            have o : ∀ k, k ≠ 5 → k ≠ 52 + 2 * S.h 5 → k ≠ 52 + 2 * S.h 5 + 1 → setN (setN (setN S.h (52 + 2 * S.h 5) (9 * x + y)) (52 + 2 * S.h 5 + 1) (9 * u + z)) 5 (S.h 5 + 1) k = S.h k := fun k q1 q2 q3 => by rw [setN_ne q1, setN_ne q3, setN_ne q2]
            have o5 : setN (setN (setN S.h (52 + 2 * S.h 5) (9 * x + y)) (52 + 2 * S.h 5 + 1) (9 * u + z)) 5 (S.h 5 + 1) 5 = S.h 5 + 1 := setN_eq _ _ _
            have oa : setN (setN (setN S.h (52 + 2 * S.h 5) (9 * x + y)) (52 + 2 * S.h 5 + 1) (9 * u + z)) 5 (S.h 5 + 1) (52 + 2 * S.h 5) = 9 * x + y := by rw [setN_ne (by omega), setN_ne (by omega), setN_eq]
            have ob : setN (setN (setN S.h (52 + 2 * S.h 5) (9 * x + y)) (52 + 2 * S.h 5 + 1) (9 * u + z)) 5 (S.h 5 + 1) (52 + 2 * S.h 5 + 1) = 9 * u + z := by rw [setN_ne (by omega), setN_eq]
            generalize hh : setN (setN (setN S.h (52 + 2 * S.h 5) (9 * x + y)) (52 + 2 * S.h 5 + 1) (9 * u + z)) 5 (S.h 5 + 1) = h' at hS o o5 oa ob
            have n1 := nx_at (n := n) hc.2.1
            have n2 := nx_at n1.2.2
            have n3 := nx_at n2.2.2
            have n4 := nx_at n3.2.2
            have n5 := nx_at n4.2.2
            have kcy := kcx.trans kc7
            have dno := doorb_no q2
            have od : ∀ d, d < S.h 5 → h' (52 + 2 * d) = S.h (52 + 2 * d) ∧ h' (52 + 2 * d + 1) = S.h (52 + 2 * d + 1) := fun d hdd => ⟨o _ (by omega) (by omega) (by omega), o _ (by omega) (by omega) (by omega)⟩
            refine ⟨w7, _, l7, rfl, kmx.trans k7, nI 1, j7, v7, _, _, _, rfl, kcy.d, Or.inr ⟨rfl, ((nx tb n (nx tb n (nx tb n (nx tb n (nx tb n S))))).t, h'), ?_, ?_⟩⟩
            · show S.t.at_ ≤ (nx tb n (nx tb n (nx tb n (nx tb n (nx tb n S))))).t.at_
              omega
            · refine JT_b hP hR hH h5 (kcy 5 (by omega) (by omega) (by omega) (by omega) (by omega)) h0 (fun k q => o k (by omega) (by omega) (by omega)) hS t7 ?_ (by omega) ?_ ?_ (PN_c (fun x hx => o _ (by omega) (by omega) (by omega)) hN) ⟨?_, ?_⟩ (WFw_c (o 6 (by omega) (by omega) (by omega)) ?_ ?_ (fun g hgg => o _ (by omega) (by omega) (by omega)) (fun w i _ _ => o _ (by omega) (by omega) (by omega)) hW) (WFm_c (o 7 (by omega) (by omega) (by omega)) (fun m _ => o _ (by omega) (by omega) (by omega)) hM) (fun k q1 q2 q3 => upd_ne q2) ?_ ?_ ?_ (CW_c (o 6 (by omega) (by omega) (by omega)) (fun w i _ _ => o _ (by omega) (by omega) (by omega)) cw) (HWd_c (fun x hx => o _ (by omega) (by omega) (by omega)) hw) ?_ (HMk_c (o 7 (by omega) (by omega) (by omega)) (fun m _ => ⟨o _ (by omega) (by omega) (by omega), o _ (by omega) (by omega) (by omega), o _ (by omega) (by omega) (by omega)⟩) hmm)
              · rw [o 4 (by omega) (by omega) (by omega)]; exact b5
              · rw [o 6 (by omega) (by omega) (by omega)]; exact b7
              · rw [o 7 (by omega) (by omega) (by omega)]; exact b8
              · intro d hdd
                by_cases eq : d = S.h 5
                · rw [eq, oa, ob]; exact ⟨hX, hZ⟩
                · rw [(od d (by omega)).1, (od d (by omega)).2]; exact hD.1 d (by omega)
              · intro d hdd
                by_cases eq : d = S.h 5
                · refine ⟨by rw [eq, oa, ob]; exact q1, fun f hff hs => ?_⟩
                  by_cases eqf : f = S.h 5
                  · omega
                  · exfalso
                    have hff2 : f < S.h 5 := by omega
                    refine dno f hff2 ?_
                    unfold dsd at hs ⊢
                    rw [eq, oa, ob, (od f hff2).1, (od f hff2).2] at hs
                    omega
                · have hd2 : d < S.h 5 := by omega
                  obtain ⟨r1, r2⟩ := hD.2 d hd2
                  refine ⟨by rw [(od d hd2).1, (od d hd2).2]; exact r1, fun f hff hs => ?_⟩
                  by_cases eqf : f = S.h 5
                  · exfalso
                    refine dno d hd2 ?_
                    unfold dsd at hs ⊢
                    rw [eqf, oa, ob, (od d hd2).1, (od d hd2).2] at hs
                    omega
                  · have hff2 : f < S.h 5 := by omega
                    refine r2 f hff2 ?_
                    unfold dsd at hs ⊢
                    rw [(od d hd2).1, (od d hd2).2, (od f hff2).1, (od f hff2).2] at hs
                    exact hs
              · rw [o 3 (by omega) (by omega) (by omega)]; exact Nat.le_refl _
              · rw [o 2 (by omega) (by omega) (by omega)]; exact Nat.le_refl _
              · rw [o 4 (by omega) (by omega) (by omega)]; exact a3
              · rw [o5]; exact upd_eq
              · rw [o 7 (by omega) (by omega) (by omega)]; exact a6
              · intro d hdd
                by_cases eq : d = S.h 5
                · rw [eq, oa, ob, upd_eq, upd_eq]; exact ⟨rfl, rfl⟩
                · rw [(od d (by omega)).1, (od d (by omega)).2, upd_ne eq, upd_ne eq]; exact hd d (by omega)
end JL4
