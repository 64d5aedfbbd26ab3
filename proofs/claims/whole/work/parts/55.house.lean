/-! MATH 35: reading, a line on both sides: the house, a ring -/
def KD (vR vR' : Nat → Int32) : Prop := ∀ k, k ≠ 5 → k ≠ 7 → k ≠ 8 → k ≠ 9 → k ≠ 10 → k ≠ 12 → vR' k = vR k
theorem KC.d {a b : Nat → Int32} (h : KC a b) : KD a b := fun k _ q1 q2 q3 q4 q5 => h k q1 q2 q3 q4 q5
/-- both sides stand at S, with the same house told as far as that -/
def JT (tb : Nat → Nat) (n : Nat) (S : PS) (vM lt fr vR : Nat → Int32) (j : Int64) (rN tN : Nat → Int64) (vH vU mn mp mf plc ut uc un uw fc kd sz d1 d2 wd srt nxt : Nat → Int32) : Prop :=
  MS tb n S vM lt fr ∧ CS0 tb n S.t vR j ∧ vR 5 = nI (if S.h 0 = 0 then 0 else 1) ∧ PI S.h ∧ NR S.h rN tN (S.h 3) ∧ HD S.h vH vU mn mp mf plc ut uc un uw fc kd sz d1 d2 wd srt nxt
/-- how a line ends that fails -/
def JF (vM : Nat → Int32) (r : Int32) (vR : Nat → Int32) : Prop := ∃ e : Nat × Nat, MF e vM ∧ r = nI 0 ∧ CF e vR
theorem nx_at {tb : Nat → Nat} {n : Nat} {S : PS} (ho : TkOk tb n S.t) : S.t.en ≤ (nx tb n S).t.at_ ∧ S.t.at_ ≤ S.t.en ∧ TkOk tb n (nx tb n S).t := ⟨(lex_ok tb ho.2.1).2, ho.1, (lex_ok tb ho.2.1).1⟩
section JL1
variable {tb : Nat → Nat} {n : Nat} {tc tm vR vM lt fr : Nat → Int32} {j : Int64} {S : PS} {rN tN : Nat → Int64}
variable {vH vU mn mp mf plc ut uc un uw fc kd sz d1 d2 wd srt nxt : Nat → Int32}
theorem j_house (ht : TPR tb n tc tm) (hj : JT tb n S vM lt fr vR j rN tN vH vU mn mp mf plc ut uc un uw fc kd sz d1 d2 wd srt nxt) : ∃ vM' fr' lt', fX9_houseLine vM fr tm lt = some (vM', fr', lt') ∧ KM vM vM' ∧ ∃ r j' vR' vH', fX5_readHouse j vR tc vH = some (r, j', vR', vH') ∧ KD vR vR' ∧ (JF vM' r vR' ∨ (r = nI 1 ∧ ∃ S', S.t.at_ ≤ S'.t.at_ ∧ JT tb n S' vM' lt' fr' vR' j' rN tN vH' vU mn mp mf plc ut uc un uw fc kd sz d1 d2 wd srt nxt)) := by
  obtain ⟨hm, hc, h5, hP, hR, hH⟩ := hj
  have f0 : fr 0 = nI (S.h 0) := hm.2.2.2.2.1 0 (by omega)
  have b0 : S.h 0 ≤ 5 := hP.1.2.1
  have e4 : vM 4 = nI S.t.at_ := hm.2.2.1.2.1
  unfold fX9_houseLine fX5_readHouse
  simp (disch := omega) only [nlq, ok_nI, gdT, nI_clamp, f0, nI_leI, h5, e4]
  by_cases z : S.h 0 = 0
  · rw [if_pos (by omega), if_pos z, if_pos rfl]
    obtain ⟨w1, l1, e1, s1, k1⟩ := m_nx ht hm
    obtain ⟨j1, v1, c1, t1, kc1⟩ := c_st ht hc
    obtain ⟨a, w2, l2, e2, k2, r2, j2, v2, c2, kc2, q2⟩ := j_after ht s1 t1 (w := 4) (lo := 1) (hi := 5) (by omega) (by omega) (by omega)
    unfold fX9_houseLine_J18
    rw [if_pos (show vM 13 = 0 from hm.1), e1, bdS]
    simp only [nlq]
    rw [e2, bdS, c1, bdS]
    simp only
    rw [c2, bdS]
    simp only
    -- what the reference does once it has failed
    have fin : ∀ (w : Nat → Int32) (x : Int32) (l : Nat → Int32) (e : Nat × Nat), MF e w → ∃ fr', (gd (okI (nI 1) 224) (if w 13 = 0 then (gd (okI (nI 0) 224) (fX9_houseLine_J68 (upd (upd fr (nI 1).toNatClampNeg x) (nI 0).toNatClampNeg a) l w)) else (fX9_houseLine_J68 (upd fr (nI 1).toNatClampNeg x) l w))) = some (w, fr', l) := by
      intro w x l e hf
      rw [if_neg (mf_ne hf.1)]
      exact ⟨_, rfl⟩
    rcases q2 with ⟨e, hf, rfl, hcf⟩ | ⟨rfl, r3, j3, v3, c3, kc3, q3⟩
    · rw [m_after_f hf.1, bdS]
      simp only
      obtain ⟨fr', efr⟩ := fin w2 (nI 0) l2 e hf
      refine ⟨w2, fr', l2, efr, k1.trans k2, nI 0, j2, v2, vH, ?_, (kc1.trans kc2).d, Or.inl ⟨e, hf, rfl, hcf⟩⟩
      rw [if_pos trivial]
    · simp only [n10, if_false]
      rw [c3, bdS]
      simp only
      rcases q3 with ⟨e, hf, rfl, hcf⟩ | ⟨x, rfl, rfl, x1, x5, s3, t3⟩
      · rw [m_after_f hf.1, bdS]
        simp only
        obtain ⟨fr', efr⟩ := fin w2 (nI 0) l2 e hf
        refine ⟨w2, fr', l2, efr, k1.trans k2, nI 0, j3, v3, vH, ?_, (kc1.trans (kc2.trans kc3)).d, Or.inl ⟨e, hf, rfl, hcf⟩⟩
        rw [if_pos (show (-1 : Int32) < nI 0 by decide)]
        rfl
      · obtain ⟨b, w4, l4, e5, k4, r4, j4, v4, c4, kc4, q4⟩ := j_after ht s3 t3 (w := 5) (lo := 0) (hi := 100) (by omega) (by omega) (by omega)
        rw [e5, bdS]
        simp only
        rw [if_neg (show ¬ nI x < nI 0 by rw [nI_ltI (by omega) (by omega)]; omega), c4, bdS]
        simp only
        rcases q4 with ⟨e, hf, rfl, hcf⟩ | ⟨rfl, r6, j6, v6, c6, kc6, q6⟩
        · obtain ⟨fr', efr⟩ := fin w4 b l4 e hf
          refine ⟨w4, fr', l4, efr, (k1.trans k2).trans k4, nI 0, j4, v4, vH, ?_, (kc1.trans (kc2.trans (kc3.trans kc4))).d, Or.inl ⟨e, hf, rfl, hcf⟩⟩
          rw [if_pos rfl]
          rfl
        · simp only [n10, if_false]
          rw [c6, bdS]
          simp only
          rcases q6 with ⟨e, hf, rfl, hcf⟩ | ⟨y, rfl, rfl, y1, y5, s6, t6⟩
          · obtain ⟨fr', efr⟩ := fin w4 b l4 e hf
            refine ⟨w4, fr', l4, efr, (k1.trans k2).trans k4, nI 0, j6, v6, vH, ?_, (kc1.trans (kc2.trans (kc3.trans (kc4.trans kc6)))).d, Or.inl ⟨e, hf, rfl, hcf⟩⟩
            rw [if_neg (show ¬ nI 0 ≤ (-1 : Int32) by decide)]
          · rw [if_pos (show w4 13 = nI 0 from s6.1), if_pos (show nI 0 ≤ nI y by rw [nI_leI (by omega) (by omega)]; omega)]
            have hS : MS tb n ((nx tb n (nx tb n (nx tb n (nx tb n (nx tb n S))))).t, setN (setN S.h 1 y) 0 x) w4 l4 (upd (upd fr 1 (nI y)) 0 (nI x)) := (MS.set (MS.set s6 (k := 1) (v := y) (by omega)) (k := 0) (v := x) (by omega))
            have o : ∀ k, k ≠ 0 → k ≠ 1 → setN (setN S.h 1 y) 0 x k = S.h k := fun k q1 q2 => by rw [setN_ne q1, setN_ne q2]
            have o0 : setN (setN S.h 1 y) 0 x 0 = x := setN_eq _ _ _
            have o1 : setN (setN S.h 1 y) 0 x 1 = y := by rw [setN_ne (by omega), setN_eq]
            obtain ⟨hA, hRg, hT, hN, hD, hW, hM, hNm⟩ := hP
            generalize hh : setN (setN S.h 1 y) 0 x = h' at hS o o0 o1
            have n1 := nx_at (n := n) hc.2.1
            have n2 := nx_at n1.2.2
            have n3 := nx_at n2.2.2
            have n4 := nx_at n3.2.2
            have n5 := nx_at n4.2.2
            refine ⟨w4, _, l4, rfl, (k1.trans k2).trans k4, nI 1, j6, _, _, rfl, ?_, Or.inr ⟨rfl, ((nx tb n (nx tb n (nx tb n (nx tb n (nx tb n S))))).t, h'), ?_, hS, ?_, ?_, ⟨?_, ?_, ?_, ?_, ?_, ?_, ?_, ?_⟩, ?_, ?_⟩⟩
            · intro k q0 q1 q2 q3 q4 q5
              unfold upd
              rw [if_neg q0]
              exact (kc1.trans (kc2.trans (kc3.trans (kc4.trans kc6)))).d k q0 q1 q2 q3 q4 q5
            · show S.t.at_ ≤ (nx tb n (nx tb n (nx tb n (nx tb n (nx tb n S))))).t.at_
              omega
            · refine ⟨⟨?_, ?_, ?_, ?_, ?_, ?_⟩, t6.2.1, ?_⟩
              · exact t6.1.1
              · exact t6.1.2.1
              · exact t6.1.2.2.1
              · exact t6.1.2.2.2.1
              · exact t6.1.2.2.2.2.1
              · exact t6.1.2.2.2.2.2
              · exact t6.2.2
            · show nI 1 = nI (if h' 0 = 0 then 0 else 1)
              rw [if_neg (by omega)]
            · show PA h'
              obtain ⟨q0, q1, q2, q3, q4, q5, q6, q7, q8, q9⟩ := hA
              refine ⟨fun k hk => hS.2.2.2.2.2 k hk, by omega, by omega, by rw [o 2 (by omega) (by omega)]; exact q3, by rw [o 3 (by omega) (by omega)]; exact q4, by rw [o 4 (by omega) (by omega)]; exact q5, by rw [o 5 (by omega) (by omega)]; exact q6, by rw [o 6 (by omega) (by omega)]; exact q7, by rw [o 7 (by omega) (by omega)]; exact q8, fun q => by omega⟩
            · show PRg h'
              exact PRg_c (o 2 (by omega) (by omega)) (fun g hg => ⟨o _ (by omega) (by omega), o _ (by omega) (by omega)⟩) hRg
            · show PT h'
              exact PT_c (o 3 (by omega) (by omega)) (by rw [o 2 (by omega) (by omega)]; exact Nat.le_refl _) (fun g hg => o _ (by omega) (by omega)) (fun t _ => ⟨o _ (by omega) (by omega), o _ (by omega) (by omega), o _ (by omega) (by omega)⟩) hT
            · show PN h'
              exact PN_c (fun x _ => o _ (by omega) (by omega)) hN
            · show PD h'
              exact PD_c (o 5 (by omega) (by omega)) (fun d _ => ⟨o _ (by omega) (by omega), o _ (by omega) (by omega)⟩) hD
            · show WFw h'
              exact WFw_c (o 6 (by omega) (by omega)) (by rw [o 3 (by omega) (by omega)]; exact Nat.le_refl _) (by rw [o 2 (by omega) (by omega)]; exact Nat.le_refl _) (fun g hg => o _ (by omega) (by omega)) (fun w i _ _ => o _ (by omega) (by omega)) hW
            · show WFm h'
              exact WFm_c (o 7 (by omega) (by omega)) (fun m _ => o _ (by omega) (by omega)) hM
            · show NMS h' (h' 3)
              rw [o 3 (by omega) (by omega)]
              exact NMS_c (o 2 (by omega) (by omega)) (fun k _ _ => o k (by omega) (by omega)) hNm
            · show NR h' rN tN (h' 3)
              rw [o 3 (by omega) (by omega)]
              exact NR_c hNm (o 2 (by omega) (by omega)) (fun k _ _ => o k (by omega) (by omega)) hR
            · show HD h' _ _ _ _ _ _ _ _ _ _ _ _ _ _ _ _ _ _
              obtain ⟨⟨a0, a1, a2, a3, a4, a5, a6⟩, cw, hg, hn, hw, hd, htt, hmm⟩ := hH
              have er : ∀ g, g < S.h 2 → h' (8 + 2 * g) = S.h (8 + 2 * g) ∧ h' (8 + 2 * g + 1) = S.h (8 + 2 * g + 1) := fun g _ => ⟨o _ (by omega) (by omega), o _ (by omega) (by omega)⟩
              refine ⟨⟨?_, ?_, ?_, ?_, ?_, ?_, ?_⟩, CW_c (o 6 (by omega) (by omega)) (fun w i _ _ => o _ (by omega) (by omega)) cw, HG_c (o 2 (by omega) (by omega)) er hg, HX_c (o 2 (by omega) (by omega)) er hn, HWd_c (fun x _ => o _ (by omega) (by omega)) hw, HDo_c (o 5 (by omega) (by omega)) (fun d _ => ⟨o _ (by omega) (by omega), o _ (by omega) (by omega)⟩) hd, HTh_c (o 3 (by omega) (by omega)) (fun t _ => ⟨o _ (by omega) (by omega), o _ (by omega) (by omega), o _ (by omega) (by omega)⟩) htt, HMk_c (o 7 (by omega) (by omega)) (fun t _ => ⟨o _ (by omega) (by omega), o _ (by omega) (by omega), o _ (by omega) (by omega)⟩) hmm⟩
              · show nI x = nI (h' 0)
                rw [o0]
              · show nI y = nI (h' 1)
                rw [o1]
              · show vH 2 = nI (h' 2)
                rw [o 2 (by omega) (by omega)]; exact a2
              · show vH 3 = nI (h' 4)
                rw [o 4 (by omega) (by omega)]; exact a3
              · show vH 4 = nI (h' 5)
                rw [o 5 (by omega) (by omega)]; exact a4
              · show vH 5 = nI (h' 3)
                rw [o 3 (by omega) (by omega)]; exact a5
              · show vH 6 = nI (h' 7)
                rw [o 7 (by omega) (by omega)]; exact a6
  · rw [if_neg (by omega), if_neg z]
    obtain ⟨v, e, hf, hk⟩ := m_wrong hm.1 3 S.t.at_
    obtain ⟨v', e', hf', hk'⟩ := c_fails hc 3
    rw [e, bdS, if_neg (show ¬ nI 1 = nI 0 by decide), e', bdS]
    unfold fX9_houseLine_J18
    rw [if_neg (mf_ne hf.1)]
    exact ⟨v, fr, lt, rfl, hk, nI 0, j, v', vH, rfl, hk'.d, Or.inl ⟨_, hf, rfl, hf'⟩⟩
end JL1
