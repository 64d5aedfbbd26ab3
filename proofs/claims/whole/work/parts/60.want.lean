/-! MATH 40: reading: a want -/
section JL6
variable {tb : Nat → Nat} {n : Nat} {tc tm vR vM lt fr : Nat → Int32} {j : Int64} {S : PS} {rN tN : Nat → Int64}
variable {vH vU mn mp mf plc ut uc un uw fc kd sz d1 d2 wd srt nxt : Nat → Int32}
set_option maxHeartbeats 1600000 in
theorem j_want (ht : TPR tb n tc tm) (hj : JK tb n S vM lt fr vR j rN tN vH vU mn mp mf plc ut uc un uw fc kd sz d1 d2 wd srt nxt) (h66 : S.h 6 < 6) : ∃ vM' fr' lt', fX9_wantLine vM fr lt tm = some (vM', fr', lt') ∧ KM vM vM' ∧ ∃ r j' vR' vU' ut' uc' un' uw', fX5_readWant j vR tc vH tN rN plc vU ut uc un uw = some (r, j', vR', vU', ut', uc', un', uw') ∧ KD vR vR' ∧ (JF vM' r vR' ∨ (r = nI 1 ∧ ∃ S', S.t.at_ ≤ S'.t.at_ ∧ JT tb n S' vM' lt' fr' vR' j' rN tN vH vU' mn mp mf plc ut' uc' un' uw' fc kd sz d1 d2 wd srt nxt)) := by
  obtain ⟨hm, hc, h5, hP, hR, hH, h0⟩ := hj
  obtain ⟨hA, hRg, hT, hN, hD, hW, hM, hNm⟩ := id hP
  obtain ⟨⟨a0, a1, a2, a3, a4, a5, a6⟩, cw, hg, hn, hw, hd, htt, hmm⟩ := id hH
  obtain ⟨b0, b1, b2, b3, b4, b5, b6, b7, b8, b9⟩ := id hA
  have f6 : fr 6 = nI (S.h 6) := hm.2.2.2.2.1 6 (by omega)
  obtain ⟨j1, v1, c1, t1, kc1⟩ := c_st ht hc
  obtain ⟨g2, w2, l2, e2, k2, r2, j2, v2, c2, kc2, q2⟩ := j_toldT (S := nx tb n S) ht hm t1 hNm hR
  have c2 : fX5_takeToldName j1 v1 tc 7 tN (vH 5) = some (r2, j2, v2) := by rw [a5]; exact c2
  unfold fX9_wantLine fX5_readWant
  rw [if_pos (show vM 13 = 0 from hm.1), c1, bdS]
  simp (maxSteps := 4000000) (disch := omega) only [nlq, ok_nI, gdT, nI_clamp, f6, pk_mul, nI_add]
  rw [e2, bdS, c2, bdS]
  try simp only
  rcases q2 with ⟨e, hf, rfl, rfl, hcf⟩ | ⟨t, rfl, rfl, htl, s2, t2⟩
  · rw [m_must_f hf.1, bdS]
    try simp only
    rw [m_ringName_f hf.1, bdS]
    try simp only
    rw [m_must_f hf.1, bdS]
    try simp only
    rw [if_neg (mf_nn hf.1), if_pos (show (-1 : Int32) < nI 0 by decide)]
    exact ⟨w2, _, l2, rfl, k2, nI 0, j2, v2, vU, ut, uc, un, uw, rfl, (kc1.trans kc2).d, Or.inl ⟨e, hf, rfl, hcf⟩⟩
  · have s2' : MS tb n ((nx tb n (nx tb n S)).t, setN S.h (83 + 4 * S.h 6) t) w2 l2 (upd fr (83 + 4 * S.h 6) (nI t)) := MS.set s2 (k := 83 + 4 * S.h 6) (v := t) (by omega)
    have f1 : ∀ k, k ≠ 83 + 4 * S.h 6 → upd fr (83 + 4 * S.h 6) (nI t) k = fr k := fun k q => upd_ne q
    have oN : ∀ k, k ≠ 83 + 4 * S.h 6 → setN S.h (83 + 4 * S.h 6) t k = S.h k := fun k q => setN_ne q
    have oNt : setN S.h (83 + 4 * S.h 6) t (83 + 4 * S.h 6) = t := setN_eq _ _ _
    generalize hfr1 : upd fr (83 + 4 * S.h 6) (nI t) = fr1 at s2' f1
    generalize hhN : setN S.h (83 + 4 * S.h 6) t = hN' at s2' oN oNt
    have on2 : hN' 2 = S.h 2 := oN 2 (by omega)
    have er : ∀ g, g < S.h 2 → hN' (8 + 2 * g) = S.h (8 + 2 * g) ∧ hN' (8 + 2 * g + 1) = S.h (8 + 2 * g + 1) := fun g hgg => ⟨oN _ (by omega), oN _ (by omega)⟩
    have hNm2 : NMS hN' (S.h 3) := NMS_c on2 (fun k q1 q2 => oN k (by omega)) hNm
    have hR2 : NR hN' rN tN (S.h 3) := NR_c hNm on2 (fun k q1 q2 => oN k (by omega)) hR
    have hRg2 : PRg hN' := PRg_c on2 er hRg
    have hg2 : HG hN' srt plc := HG_c on2 er hg
    have a2' : vH 2 = nI (hN' 2) := by rw [on2]; exact a2
    obtain ⟨w4, l4, e5, k4, r4, j4, v4, c4, kc4, q4⟩ := j_must (S := ((nx tb n (nx tb n S)).t, hN')) (w := 9) ht s2' t2 (by omega)
    rw [e5, bdS, if_neg (show ¬ nI t < nI 0 by rw [nI_ltI (by omega) (by omega)]; omega), c4, bdS]
    try simp only
    have km4 := k2.trans k4
    have kc4' := kc1.trans (kc2.trans kc4)
    rcases q4 with ⟨e, hf, rfl, hcf⟩ | ⟨rfl, s4, t4⟩
    · rw [m_ringName_f hf.1, bdS]
      try simp only
      rw [m_must_f hf.1, bdS]
      try simp only
      rw [if_neg (mf_nn hf.1), if_pos trivial]
      exact ⟨w4, _, l4, rfl, km4, nI 0, j4, v4, vU, ut, uc, un, uw, rfl, kc4'.d, Or.inl ⟨e, hf, rfl, hcf⟩⟩
    · have s4 : MS tb n ((nx tb n (nx tb n (nx tb n S))).t, hN') w4 l4 fr1 := s4
      have t4 : CS0 tb n (nx tb n (nx tb n (nx tb n S))).t v4 j4 := t4
      obtain ⟨g5, w5, l5, e6, k5, r5, j5, v5, c5, kc5, q5⟩ := j_told (S := ((nx tb n (nx tb n (nx tb n S))).t, hN')) ht s4 t4 hNm2 hR2
      have c5 : fX5_takeToldName j4 v4 tc 4 rN (vH 2) = some (r5, j5, v5) := by rw [a2']; exact c5
      rw [e6, bdS, if_neg (show ¬ nI 1 = nI 0 by decide), c5, bdS]
      try simp only
      have km5 := km4.trans k5
      have kc5' := kc4'.trans kc5
      rcases q5 with ⟨e, hf, rfl, rfl, hcf⟩ | ⟨x, rfl, rfl, hx, s5, t5⟩
      · rw [m_must_f hf.1, bdS]
        try simp only
        rw [if_neg (mf_nn hf.1), if_pos (show (-1 : Int32) < nI 0 by decide)]
        exact ⟨w5, _, l5, rfl, km5, nI 0, j5, v5, vU, ut, uc, un, uw, rfl, kc5'.d, Or.inl ⟨e, hf, rfl, hcf⟩⟩
      · have hx : x < hN' 2 := hx
        have x4 : x < 4 := by omega
        have s5 : MS tb n ((nx tb n (nx tb n (nx tb n (nx tb n S)))).t, hN') w5 l5 fr1 := s5
        have t5 : CS0 tb n (nx tb n (nx tb n (nx tb n (nx tb n S)))).t v5 j5 := t5
        obtain ⟨w6, l6, e7, k6, r6, j6, v6, c6, kc6, q6⟩ := j_must (S := ((nx tb n (nx tb n (nx tb n (nx tb n S)))).t, hN')) (w := 0) ht s5 t5 (by omega)
        rw [e7, bdS, if_neg (show ¬ nI x < nI 0 by rw [nI_ltI (by omega) (by omega)]; omega), c6, bdS]
        try simp only
        have km6 := km5.trans k6
        have kc6' := kc5'.trans kc6
        rcases q6 with ⟨e, hf, rfl, hcf⟩ | ⟨rfl, s6, t6⟩
        · rw [if_neg (mf_nn hf.1), if_pos rfl]
          exact ⟨w6, _, l6, rfl, km6, nI 0, j6, v6, vU, ut, uc, un, uw, rfl, kc6'.d, Or.inl ⟨e, hf, rfl, hcf⟩⟩
        · have s6 : MS tb n ((nx tb n (nx tb n (nx tb n (nx tb n (nx tb n S))))).t, hN') w6 l6 fr1 := s6
          have t6 : CS0 tb n (nx tb n (nx tb n (nx tb n (nx tb n (nx tb n S))))).t v6 j6 := t6
          obtain ⟨g7, w7, e8, k7, pe, r7, j7, v7, c7, kc7, q7⟩ := j_placeT (S := ((nx tb n (nx tb n (nx tb n (nx tb n (nx tb n S))))).t, hN')) (vH := vH) (plc := plc) (srt := srt) ht s6 t6 hRg2 (by show hN' 2 ≤ 4; omega) hx a2' hg2
          have pe : fX4_placesOf vH plc (nI x) = some (nI (pl hN' x)) := pe
          have c7 : fX5_takeWhole j6 v6 tc (nI 0) (nI (pl hN' x) - nI 1) = some (r7, j7, v7) := c7
          rw [if_pos (show w6 13 = nI 0 from s6.1), e8, bdS, if_neg (show ¬ nI 1 = nI 0 by decide), pe, bdS, c7, bdS]
          try simp only
          have km7 := km6.trans k7
          have kc7' := kc6'.trans kc7
          rcases q7 with ⟨e, hf, rfl, hcf⟩ | ⟨y, rfl, rfl, hy, s7, t7⟩
          · rw [if_neg (mf_nn hf.1), if_pos (show (-1 : Int32) < nI 0 by decide)]
            exact ⟨w7, _, l6, rfl, km7, nI 0, j7, v7, vU, ut, uc, un, uw, rfl, kc7'.d, Or.inl ⟨e, hf, rfl, hcf⟩⟩
          · have hy : y < pl hN' x := hy
            have y9 : y < 9 := by have := (hRg2 x hx).2.2; omega
            have hX : 9 * x + y < 36 := by omega
            obtain ⟨w8, l8, e9, s8, k8⟩ := m_nx ht s7
            have s8 : MS tb n ((nx tb n (nx tb n (nx tb n (nx tb n (nx tb n (nx tb n S)))))).t, hN') w8 l8 fr1 := s8
            have t7 : CS0 tb n (nx tb n (nx tb n (nx tb n (nx tb n (nx tb n (nx tb n S)))))).t v7 j7 := t7
            obtain ⟨b, w9, l9, e11, k9, r9, j9, v9, c9, kc9, q9⟩ := j_after (S := ((nx tb n (nx tb n (nx tb n (nx tb n (nx tb n (nx tb n S)))))).t, hN')) ht s8 t7 (w := 12) (lo := 1) (hi := 60) (by omega) (by omega) (by omega)
            rw [if_pos (show w7 13 = nI 0 from s7.1), e9, bdS, if_neg (show ¬ nI y < nI 0 by rw [nI_ltI (by omega) (by omega)]; omega), c9, bdS]
            try simp only
            rw [e11, bdS]
            try simp only
            have km9 := km7.trans (k8.trans k9)
            have kc9' := kc7'.trans kc9
            rcases q9 with ⟨e, hf, rfl, hcf⟩ | ⟨rfl, r10, j10, v10, c10, kc10, q10⟩
            · rw [m_after_f hf.1, bdS]
              try simp only
              rw [if_neg (mf_nn hf.1), if_pos trivial]
              exact ⟨w9, _, l9, rfl, km9, nI 0, j9, v9, vU, ut, uc, un, uw, rfl, kc9'.d, Or.inl ⟨e, hf, rfl, hcf⟩⟩
            · rw [if_neg (show ¬ nI 1 = nI 0 by decide), c10, bdS]
              try simp only
              rcases q10 with ⟨e, hf, rfl, hcf⟩ | ⟨u, rfl, rfl, u1, u9, s10, t10⟩
              · rw [m_after_f hf.1, bdS]
                try simp only
                rw [if_neg (mf_nn hf.1), if_pos (show (-1 : Int32) < nI 0 by decide)]
                exact ⟨w9, _, l9, rfl, km9, nI 0, j10, v10, vU, ut, uc, un, uw, rfl, (kc9'.trans kc10).d, Or.inl ⟨e, hf, rfl, hcf⟩⟩
              · have s10 : MS tb n ((nx tb n (nx tb n (nx tb n (nx tb n (nx tb n (nx tb n (nx tb n (nx tb n S)))))))).t, hN') w9 l9 fr1 := s10
                have t10 : CS0 tb n (nx tb n (nx tb n (nx tb n (nx tb n (nx tb n (nx tb n (nx tb n (nx tb n S)))))))).t v10 j10 := t10
                obtain ⟨b', w11, l11, e12, k11, r11, j11, v11, c11, kc11, q11⟩ := j_after (S := ((nx tb n (nx tb n (nx tb n (nx tb n (nx tb n (nx tb n (nx tb n (nx tb n S)))))))).t, hN')) ht s10 t10 (w := 13) (lo := 1) (hi := 99) (by omega) (by omega) (by omega)
                rw [e12, bdS, if_neg (show ¬ nI u < nI 0 by rw [nI_ltI (by omega) (by omega)]; omega), c11, bdS]
                try simp only
                have km11 := km9.trans k11
                have kc11' := kc9'.trans (kc10.trans kc11)
                rcases q11 with ⟨e, hf, rfl, hcf⟩ | ⟨rfl, r12, j12, v12, c12, kc12, q12⟩
                · rw [if_neg (mf_nn hf.1), if_pos rfl]
                  exact ⟨w11, _, l11, rfl, km11, nI 0, j11, v11, vU, ut, uc, un, uw, rfl, kc11'.d, Or.inl ⟨e, hf, rfl, hcf⟩⟩
                · rw [if_neg (show ¬ nI 1 = nI 0 by decide), c12, bdS]
                  try simp only
                  rcases q12 with ⟨e, hf, rfl, hcf⟩ | ⟨z, rfl, rfl, z1, z9, s12, t12⟩
                  · rw [if_neg (mf_nn hf.1), if_neg (show ¬ nI 0 ≤ (-1 : Int32) by decide)]
                    exact ⟨w11, _, l11, rfl, km11, nI 0, j12, v12, vU, ut, uc, un, uw, rfl, (kc11'.trans kc12).d, Or.inl ⟨e, hf, rfl, hcf⟩⟩
                  · have v0 : vU 0 = nI (S.h 6) := cw.1
                    have ea : fX7_add vU ut uc un uw (nI t) (nI (9 * x + y)) (nI u) (nI z) = some (upd vU 0 (nI (S.h 6 + 1)), upd ut (S.h 6) (nI t), upd uc (S.h 6) (nI (9 * x + y)), upd un (S.h 6) (nI u), upd uw (S.h 6) (nI z)) := by
                      unfold fX7_add
                      simp (maxSteps := 4000000) (disch := omega) only [nlq, nI_ltI, v0, ok_nI, gdT, nI_clamp, nI_add]
                      rw [if_neg (by omega), if_pos h66]
                    have g6 : fr1 6 = nI (S.h 6) := by rw [f1 6 (by omega)]; exact f6
                    rw [if_pos (show w11 13 = nI 0 from s12.1), if_pos (show nI 0 ≤ nI z by rw [nI_leI (by omega) (by omega)]; omega), c_cellAt, bdS, ea, bdS]
                    simp (maxSteps := 4000000) (disch := omega) only [fX9_wantLine_J136, upd_ne, g6, nI_add]
                    have hS : MS tb n ((nx tb n (nx tb n (nx tb n (nx tb n (nx tb n (nx tb n (nx tb n (nx tb n (nx tb n (nx tb n S)))))))))).t, setN (setN (setN (setN hN' (83 + 4 * S.h 6 + 1) (9 * x + y)) (83 + 4 * S.h 6 + 2) u) (83 + 4 * S.h 6 + 3) z) 6 (S.h 6 + 1)) w11 l11 (upd (upd (upd (upd fr1 (83 + 4 * S.h 6 + 1) (nI (9 * x + y))) (83 + 4 * S.h 6 + 2) (nI u)) (83 + 4 * S.h 6 + 3) (nI z)) 6 (nI (S.h 6 + 1))) := MS.set (MS.set (MS.set (MS.set s12 (k := 83 + 4 * S.h 6 + 1) (v := 9 * x + y) (by omega)) (k := 83 + 4 * S.h 6 + 2) (v := u) (by omega)) (k := 83 + 4 * S.h 6 + 3) (v := z) (by omega)) (k := 6) (v := S.h 6 + 1) (by omega)
                    have o : ∀ k, k ≠ 6 → k ≠ 83 + 4 * S.h 6 → k ≠ 83 + 4 * S.h 6 + 1 → k ≠ 83 + 4 * S.h 6 + 2 → k ≠ 83 + 4 * S.h 6 + 3 → setN (setN (setN (setN hN' (83 + 4 * S.h 6 + 1) (9 * x + y)) (83 + 4 * S.h 6 + 2) u) (83 + 4 * S.h 6 + 3) z) 6 (S.h 6 + 1) k = S.h k := fun k q1 q2 q3 q4 q5 => by rw [setN_ne q1, setN_ne q5, setN_ne q4, setN_ne q3]; exact oN k q2
                    have o6 : setN (setN (setN (setN hN' (83 + 4 * S.h 6 + 1) (9 * x + y)) (83 + 4 * S.h 6 + 2) u) (83 + 4 * S.h 6 + 3) z) 6 (S.h 6 + 1) 6 = S.h 6 + 1 := setN_eq _ _ _
                    have oa : setN (setN (setN (setN hN' (83 + 4 * S.h 6 + 1) (9 * x + y)) (83 + 4 * S.h 6 + 2) u) (83 + 4 * S.h 6 + 3) z) 6 (S.h 6 + 1) (83 + 4 * S.h 6) = t := by rw [setN_ne (by omega), setN_ne (by omega), setN_ne (by omega), setN_ne (by omega)]; exact oNt
                    have ob : setN (setN (setN (setN hN' (83 + 4 * S.h 6 + 1) (9 * x + y)) (83 + 4 * S.h 6 + 2) u) (83 + 4 * S.h 6 + 3) z) 6 (S.h 6 + 1) (83 + 4 * S.h 6 + 1) = 9 * x + y := by rw [setN_ne (by omega), setN_ne (by omega), setN_ne (by omega), setN_eq]
                    have oc : setN (setN (setN (setN hN' (83 + 4 * S.h 6 + 1) (9 * x + y)) (83 + 4 * S.h 6 + 2) u) (83 + 4 * S.h 6 + 3) z) 6 (S.h 6 + 1) (83 + 4 * S.h 6 + 2) = u := by rw [setN_ne (by omega), setN_ne (by omega), setN_eq]
                    have od : setN (setN (setN (setN hN' (83 + 4 * S.h 6 + 1) (9 * x + y)) (83 + 4 * S.h 6 + 2) u) (83 + 4 * S.h 6 + 3) z) 6 (S.h 6 + 1) (83 + 4 * S.h 6 + 3) = z := by rw [setN_ne (by omega), setN_eq]
                    generalize hh : setN (setN (setN (setN hN' (83 + 4 * S.h 6 + 1) (9 * x + y)) (83 + 4 * S.h 6 + 2) u) (83 + 4 * S.h 6 + 3) z) 6 (S.h 6 + 1) = h' at hS o o6 oa ob oc od
                    have os : ∀ k, k < 83 → k ≠ 6 → h' k = S.h k := fun k q1 q2 => o k q2 (by omega) (by omega) (by omega) (by omega)
                    have ol : ∀ k, 107 ≤ k → h' k = S.h k := fun k q1 => o k (by omega) (by omega) (by omega) (by omega) (by omega)
                    have ow : ∀ w i, w < S.h 6 → i < 4 → h' (83 + 4 * w + i) = S.h (83 + 4 * w + i) := fun w i q1 q2 => o _ (by omega) (by omega) (by omega) (by omega) (by omega)
                    have n1 := nx_at (n := n) hc.2.1
                    have n2 := nx_at n1.2.2
                    have n3 := nx_at n2.2.2
                    have n4 := nx_at n3.2.2
                    have n5 := nx_at n4.2.2
                    have n6 := nx_at n5.2.2
                    have n7 := nx_at n6.2.2
                    have n8 := nx_at n7.2.2
                    have n9 := nx_at n8.2.2
                    have n10' := nx_at n9.2.2
                    have kcx := kc11'.trans kc12
                    have hokX : okc S.h (9 * x + y) := by
                      refine ⟨by omega, ?_⟩
                      rw [show (9 * x + y) / 9 = x by omega, show (9 * x + y) % 9 = y by omega, ← pl_eq (er x (by omega)).2]
                      exact hy
                    have p2 : h' 2 = S.h 2 := os 2 (by omega) (by omega)
                    have p3 : h' 3 = S.h 3 := os 3 (by omega) (by omega)
                    have er' : ∀ g, g < S.h 2 → h' (8 + 2 * g + 1) = S.h (8 + 2 * g + 1) := fun g hgg => os _ (by omega) (by omega)
                    refine ⟨w11, _, l11, rfl, km11, nI 1, j12, v12, _, _, _, _, _, rfl, kcx.d, Or.inr ⟨rfl, ((nx tb n (nx tb n (nx tb n (nx tb n (nx tb n (nx tb n (nx tb n (nx tb n (nx tb n (nx tb n S)))))))))).t, h'), ?_, ?_⟩⟩
                    · show S.t.at_ ≤ (nx tb n (nx tb n (nx tb n (nx tb n (nx tb n (nx tb n (nx tb n (nx tb n (nx tb n (nx tb n S)))))))))).t.at_
                      omega
                    · refine JT_b hP hR hH h5 (kcx 5 (by omega) (by omega) (by omega) (by omega) (by omega)) h0 (fun k q => o k (by omega) (by omega) (by omega) (by omega) (by omega)) hS t12 ?_ ?_ (by omega) ?_ (PN_c (fun x hx => os _ (by omega) (by omega)) hN) (PD_c (os 5 (by omega) (by omega)) (fun d hdd => ⟨os _ (by omega) (by omega), os _ (by omega) (by omega)⟩) hD) ?_ (WFm_c (os 7 (by omega) (by omega)) (fun m _ => ol _ (by omega)) hM) (fun k q1 q2 q3 => rfl) ?_ ?_ ?_ ⟨?_, ?_⟩ (HWd_c (fun x hx => os _ (by omega) (by omega)) hw) (HDo_c (os 5 (by omega) (by omega)) (fun d hdd => ⟨os _ (by omega) (by omega), os _ (by omega) (by omega)⟩) hd) (HMk_c (os 7 (by omega) (by omega)) (fun m _ => ⟨ol _ (by omega), ol _ (by omega), ol _ (by omega)⟩) hmm)
                      · rw [os 4 (by omega) (by omega)]; exact b5
                      · rw [os 5 (by omega) (by omega)]; exact b6
                      · rw [os 7 (by omega) (by omega)]; exact b8
                      · intro w hww
                        have hww : w < h' 6 := hww
                        by_cases eg : w = S.h 6
                        · unfold wt wc wn wp
                          rw [eg, oa, ob, oc, od, p3]
                          exact ⟨htl, okc_mono (by omega) (fun g hgg => pl_eq (er' g hgg)) hokX, u9, z9⟩
                        · obtain ⟨q1, q2, q3, q4⟩ := hW w (by omega)
                          have x0 : wt h' w = wt S.h w := ow w 0 (by omega) (by omega)
                          have x1 : wc h' w = wc S.h w := ow w 1 (by omega) (by omega)
                          have x2 : wn h' w = wn S.h w := ow w 2 (by omega) (by omega)
                          have x3 : wp h' w = wp S.h w := ow w 3 (by omega) (by omega)
                          rw [x0, x1, x2, x3, p3]
                          exact ⟨q1, okc_mono (by omega) (fun g hgg => pl_eq (er' g hgg)) q2, q3, q4⟩
                      · rw [os 4 (by omega) (by omega)]; exact a3
                      · rw [os 5 (by omega) (by omega)]; exact a4
                      · rw [os 7 (by omega) (by omega)]; exact a6
                      · rw [o6]; exact upd_eq
                      · intro w hww
                        have hww : w < h' 6 := hww
                        by_cases eg : w = S.h 6
                        · unfold wt wc wn wp
                          rw [eg, oa, ob, oc, od, upd_eq, upd_eq, upd_eq, upd_eq]
                          exact ⟨rfl, rfl, rfl, rfl⟩
                        · have x0 : wt h' w = wt S.h w := ow w 0 (by omega) (by omega)
                          have x1 : wc h' w = wc S.h w := ow w 1 (by omega) (by omega)
                          have x2 : wn h' w = wn S.h w := ow w 2 (by omega) (by omega)
                          have x3 : wp h' w = wp S.h w := ow w 3 (by omega) (by omega)
                          rw [x0, x1, x2, x3, upd_ne eg, upd_ne eg, upd_ne eg, upd_ne eg]
                          exact cw.2 w (by omega)
end JL6
