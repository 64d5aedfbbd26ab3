/-! MATH 37: reading: a told ring, a place of it; what stays when a line tells of neither ring nor thing; a narrow place -/
def KB (h h' : Nat → Nat) : Prop := ∀ k, k < 4 ∨ (8 ≤ k ∧ k < 16) ∨ (62 ≤ k ∧ k < 83) ∨ (125 ≤ k ∧ k < 224) → h' k = h k
theorem PI_WFh {h : Nat → Nat} (hP : PI h) (h0 : 0 < h 0) : WFh h := by
  obtain ⟨⟨a0, a1, a2, a3, a4, a5, a6, a7, a8, a9⟩, hRg, hT, -⟩ := hP
  exact ⟨a0, h0, a1, a2, a3, a4, a6, a7, a8, fun g hg => (hRg g hg).2, fun t ht => (hT.1 t ht).2.2.2⟩
theorem c_cellAt (x y : Nat) : fX8_cellAt (nI x) (nI y) = some (nI (9 * x + y)) := by
  unfold fX8_cellAt
  simp only [nlq, pk_mul, nI_add, Nat.mul_comm x 9]
section JL3
variable {tb : Nat → Nat} {n : Nat} {tc tm vR vM lt fr : Nat → Int32} {j : Int64} {S : PS} {rN tN : Nat → Int64}
variable {vH vU mn mp mf plc ut uc un uw fc kd sz d1 d2 wd srt nxt : Nat → Int32}
theorem c_widthOf {h : Nat → Nat} {X : Nat} (hX : X < 36) (hw : HWd h wd) : fX4_widthOf vH wd (nI X) = some (if h (16 + X) = 0 then nI 10 else nI (h (16 + X) - 1)) := by
  unfold fX4_widthOf fX4_widthOf_J19 fX4_widthOf_J21
  simp (disch := omega) only [nlq, nI_ltI, nI_leI, ok_nI, gdT, nI_clamp, hw X hX]
  rw [if_neg (by omega), if_neg (by omega)]
theorem j_told {m : Nat} (ht : TPR tb n tc tm) (hm : MS tb n S vM lt fr) (hc : CS0 tb n S.t vR j) (hN : NMS S.h m) (hR : NR S.h rN tN m) : ∃ v w l, fX9_ringName vM lt fr tm = some (v, w, l) ∧ KM vM w ∧ ∃ r j1 v1, fX5_takeToldName j vR tc 4 rN (nI (S.h 2)) = some (r, j1, v1) ∧ KC vR v1 ∧ ((∃ e, MF e w ∧ v = nI 0 ∧ r = -1 ∧ CF e v1) ∨ ∃ x, v = nI x ∧ r = nI x ∧ x < S.h 2 ∧ MS tb n (nx tb n S) w l fr ∧ CS0 tb n (nx tb n S).t v1 j1) := by
  obtain ⟨v, w, l, e1, k1, q1⟩ := m_ringName ht hm
  obtain ⟨r, j1, v1, e2, k2, q2⟩ := c_toldRing ht hN hR hc
  refine ⟨v, w, l, e1, k1, r, j1, v1, e2, k2, ?_⟩
  rcases q2 with ⟨x, a, ra, s2, hx⟩ | ⟨e, a, ra, hf⟩
  · rcases q1 with ⟨x', S', b, va, s1⟩ | ⟨e', b, hf', va⟩
    · rw [a] at b
      cases b
      exact Or.inr ⟨x, va, ra, hx, s1, s2⟩
    · rw [a] at b
      cases b
  · rcases q1 with ⟨x', S', b, va, s1⟩ | ⟨e', b, hf', va⟩
    · rw [a] at b
      cases b
    · rw [a] at b
      cases b
      exact Or.inl ⟨e, hf', va, ra, hf⟩
theorem j_toldT {m : Nat} (ht : TPR tb n tc tm) (hm : MS tb n S vM lt fr) (hc : CS0 tb n S.t vR j) (hN : NMS S.h m) (hR : NR S.h rN tN m) : ∃ v w l, fX9_named vM lt fr tm (nI 4) (nI 10) = some (v, w, l) ∧ KM vM w ∧ ∃ r j1 v1, fX5_takeToldName j vR tc 7 tN (nI m) = some (r, j1, v1) ∧ KC vR v1 ∧ ((∃ e, MF e w ∧ v = nI 0 ∧ r = -1 ∧ CF e v1) ∨ ∃ x, v = nI x ∧ r = nI x ∧ x < m ∧ MS tb n (nx tb n S) w l fr ∧ CS0 tb n (nx tb n S).t v1 j1) := by
  obtain ⟨v, w, l, e1, k1, q1⟩ := m_named ht hm (lo := 4) (hi := 10) (by omega) (by omega)
  obtain ⟨r, j1, v1, e2, k2, q2⟩ := c_toldThing ht hN hR hc
  refine ⟨v, w, l, e1, k1, r, j1, v1, e2, k2, ?_⟩
  rcases q2 with ⟨x, a, ra, s2, hx⟩ | ⟨e, a, ra, hf⟩
  · rcases q1 with ⟨x', S', b, va, s1⟩ | ⟨e', b, hf', va⟩
    · rw [a] at b
      cases b
      exact Or.inr ⟨x, va, ra, hx, s1, s2⟩
    · rw [a] at b
      cases b
  · rcases q1 with ⟨x', S', b, va, s1⟩ | ⟨e', b, hf', va⟩
    · rw [a] at b
      cases b
    · rw [a] at b
      cases b
      exact Or.inl ⟨e, hf', va, ra, hf⟩
theorem j_here (hm : MS tb n S vM lt fr) (hc : CS0 tb n S.t vR j) {lo hi : Nat} (hlo : lo < 1000) (hhi : hi < 1000) : ∃ v w, fX9_numberHere vM (nI lo) (nI hi) = some (v, w) ∧ KM vM w ∧ ∃ r v1, fX5_isWhole j vR (nI lo) (nI hi) = some (r, v1) ∧ KC vR v1 ∧ ((∃ e, MF e w ∧ v = nI lo ∧ r = nI 0 ∧ CF e v1) ∨ ∃ x, v = nI x ∧ r = nI 1 ∧ v1 10 = nI x ∧ lo ≤ x ∧ x ≤ hi ∧ MS tb n S w lt fr ∧ CS0 tb n S.t v1 j) := by
  obtain ⟨v, w, e1, k1, q1⟩ := m_here hm hlo hhi
  obtain ⟨r, v1, e2, k2, q2⟩ := c_isWhole (j := j) hc hlo hhi
  refine ⟨v, w, e1, k1, r, v1, e2, k2, ?_⟩
  rcases q2 with ⟨x, a, ra, ev, e10, b1, b2⟩ | ⟨e, a, ra, hf⟩
  · rcases q1 with ⟨x', b, va, ew⟩ | ⟨e', b, hf', va⟩
    · rw [a] at b
      cases b
      exact Or.inr ⟨x, va, ra, by rw [ev]; exact e10, b1, b2, by rw [ew]; exact hm, by rw [ev]; exact hc⟩
    · rw [a] at b
      cases b
  · rcases q1 with ⟨x', b, va, ew⟩ | ⟨e', b, hf', va⟩
    · rw [a] at b
      cases b
    · rw [a] at b
      cases b
      exact Or.inl ⟨e, hf', va, ra, hf⟩
theorem j_place {x : Nat} (hm : MS tb n S vM lt fr) (hc : CS0 tb n S.t vR j) (hRg : PRg S.h) (h2 : S.h 2 ≤ 4) (hx : x < S.h 2) (v2 : vH 2 = nI (S.h 2)) (hg : HG S.h srt plc) : ∃ v w, fX9_placeHere vM fr (nI x) = some (v, w) ∧ KM vM w ∧ fX4_placesOf vH plc (nI x) = some (nI (pl S.h x)) ∧ ∃ r v1, fX5_isWhole j vR (nI 0) (nI (pl S.h x) - nI 1) = some (r, v1) ∧ KC vR v1 ∧ ((∃ e, MF e w ∧ r = nI 0 ∧ CF e v1) ∨ ∃ y, v = nI (9 * x + y) ∧ r = nI 1 ∧ v1 10 = nI y ∧ y < pl S.h x ∧ MS tb n S w lt fr ∧ CS0 tb n S.t v1 j) := by
  obtain ⟨p0, p1, p2⟩ := hRg x hx
  obtain ⟨v, w, e1, k1, r, v1, e2, k2, q⟩ := j_here hm hc (lo := 0) (hi := pl S.h x - 1) (by omega) (by omega)
  have f := hm.2.2.2.2.1 (8 + 2 * x + 1) (by omega)
  refine ⟨nI (9 * x) + v, w, ?_, k1, ?_, r, v1, ?_, k2, ?_⟩
  · unfold fX9_placeHere
    simp (disch := omega) only [nlq, pk_mul, nI_add, ok_nI, gdT, nI_clamp, f]
    rw [show S.h (8 + 2 * x + 1) = pl S.h x from rfl, pk_sub (by omega), e1, bdS]
  · unfold fX4_placesOf fX4_placesOf_J18
    rw [c_hasRing_t h2 v2 hx, bdS]
    simp (disch := omega) only [nlq, n10, if_false, ok_nI, gdT, nI_clamp, (hg x hx).2]
  · rw [pk_sub (by omega)]
    exact e2
  · rcases q with ⟨e, hf, -, ra, hcf⟩ | ⟨y, va, ra, e10, b1, b2, s, t⟩
    · exact Or.inl ⟨e, hf, ra, hcf⟩
    · exact Or.inr ⟨y, by rw [va, nI_add], ra, e10, by omega, s, t⟩
theorem j_placeT {x : Nat} (ht : TPR tb n tc tm) (hm : MS tb n S vM lt fr) (hc : CS0 tb n S.t vR j) (hRg : PRg S.h) (h2 : S.h 2 ≤ 4) (hx : x < S.h 2) (v2 : vH 2 = nI (S.h 2)) (hg : HG S.h srt plc) : ∃ v w, fX9_placeHere vM fr (nI x) = some (v, w) ∧ KM vM w ∧ fX4_placesOf vH plc (nI x) = some (nI (pl S.h x)) ∧ ∃ r j1 v1, fX5_takeWhole j vR tc (nI 0) (nI (pl S.h x) - nI 1) = some (r, j1, v1) ∧ KC vR v1 ∧ ((∃ e, MF e w ∧ r = -1 ∧ CF e v1) ∨ ∃ y, v = nI (9 * x + y) ∧ r = nI y ∧ y < pl S.h x ∧ MS tb n S w lt fr ∧ CS0 tb n (nx tb n S).t v1 j1) := by
  obtain ⟨v, w, e1, k1, pe, r, v1, e2, k2, q⟩ := j_place (vH := vH) (plc := plc) (srt := srt) hm hc hRg h2 hx v2 hg
  refine ⟨v, w, e1, k1, pe, ?_⟩
  unfold fX5_takeWhole
  rw [e2, bdS]
  simp only
  rcases q with ⟨e, hf, ra, hcf⟩ | ⟨y, va, ra, e10, hy, s, t⟩
  · rw [ra, if_pos (show nI 0 = 0 from rfl)]
    exact ⟨_, j, v1, rfl, k2, Or.inl ⟨e, hf, rfl, hcf⟩⟩
  · obtain ⟨j3, v3, c3, t3, k3⟩ := c_st ht t
    rw [ra, if_neg (show ¬ nI 1 = 0 by decide), c3, bdS]
    exact ⟨_, j3, v3, rfl, k2.trans k3, Or.inr ⟨y, va, e10, hy, s, t3⟩⟩
theorem JT_b {S1 : Tk} {h' : Nat → Nat} {vM' lt' fr' vR' : Nat → Int32} {j' : Int64} {vH' vU' mn' mp' mf' ut' uc' un' uw' d1' d2' wd' : Nat → Int32} (hP : PI S.h) (hR : NR S.h rN tN (S.h 3)) (hH : HD S.h vH vU mn mp mf plc ut uc un uw fc kd sz d1 d2 wd srt nxt) (h5 : vR 5 = nI (if S.h 0 = 0 then 0 else 1)) (k5 : vR' 5 = vR 5) (h0 : 0 < S.h 0) (o : KB S.h h') (hm : MS tb n (S1, h') vM' lt' fr') (hc : CS0 tb n S1 vR' j') (p4 : h' 4 ≤ 6) (p5 : h' 5 ≤ 5) (p6 : h' 6 ≤ 6) (p7 : h' 7 ≤ 6) (pn : PN h') (pd : PD h') (pw : WFw h') (pm : WFm h') (ov : ∀ k, k ≠ 3 → k ≠ 4 → k ≠ 6 → vH' k = vH k) (v3 : vH' 3 = nI (h' 4)) (v4 : vH' 4 = nI (h' 5)) (v6 : vH' 6 = nI (h' 7)) (cw : CW h' vU' ut' uc' un' uw') (hw : HWd h' wd') (hd : HDo h' d1' d2') (hmm : HMk h' mn' mp' mf') : JT tb n (S1, h') vM' lt' fr' vR' j' rN tN vH' vU' mn' mp' mf' plc ut' uc' un' uw' fc kd sz d1' d2' wd' srt nxt := by
  obtain ⟨hA, hRg, hT, hN, hD, hW, hM, hNm⟩ := hP
  obtain ⟨⟨a0, a1, a2, a3, a4, a5, a6⟩, -, hg, hn, -, -, htt, -⟩ := hH
  obtain ⟨b0, b1, b2, b3, b4, b5, b6, b7, b8, b9⟩ := hA
  have o0 : h' 0 = S.h 0 := o 0 (by omega)
  have o1 : h' 1 = S.h 1 := o 1 (by omega)
  have o2 : h' 2 = S.h 2 := o 2 (by omega)
  have o3 : h' 3 = S.h 3 := o 3 (by omega)
  have er : ∀ g, g < S.h 2 → h' (8 + 2 * g) = S.h (8 + 2 * g) ∧ h' (8 + 2 * g + 1) = S.h (8 + 2 * g + 1) := fun g hgg => ⟨o _ (by omega), o _ (by omega)⟩
  have et : ∀ t, t < S.h 3 → h' (62 + 3 * t) = S.h (62 + 3 * t) ∧ h' (62 + 3 * t + 1) = S.h (62 + 3 * t + 1) ∧ h' (62 + 3 * t + 2) = S.h (62 + 3 * t + 2) := fun t htt => ⟨o _ (by omega), o _ (by omega), o _ (by omega)⟩
  refine ⟨hm, hc, ?_, ⟨⟨fun k hk => hm.2.2.2.2.2 k hk, ?_, ?_, ?_, ?_, p4, p5, p6, p7, fun q => ?_⟩, PRg_c o2 er hRg, PT_c o3 ?_ (fun g hgg => (er g hgg).2) et hT, pn, pd, pw, pm, ?_⟩, ?_, ⟨⟨?_, ?_, ?_, v3, v4, ?_, v6⟩, cw, HG_c o2 er hg, HX_c o2 er hn, hw, hd, HTh_c o3 et htt, hmm⟩⟩
  · show vR' 5 = nI (if h' 0 = 0 then 0 else 1)
    rw [o0, k5]
    exact h5
  · show h' 0 ≤ 5
    omega
  · show h' 1 ≤ 100
    omega
  · show h' 2 ≤ 4
    omega
  · show h' 3 ≤ 7
    omega
  · have q : h' 0 = 0 := q
    omega
  · show S.h 2 ≤ h' 2
    omega
  · show NMS h' (h' 3)
    rw [o3]
    exact NMS_c o2 (fun k q1 q2 => o k (by omega)) hNm
  · show NR h' rN tN (h' 3)
    rw [o3]
    exact NR_c hNm o2 (fun k q1 q2 => o k (by omega)) hR
  · show vH' 0 = nI (h' 0)
    rw [o0, ov 0 (by omega) (by omega) (by omega)]
    exact a0
  · show vH' 1 = nI (h' 1)
    rw [o1, ov 1 (by omega) (by omega) (by omega)]
    exact a1
  · show vH' 2 = nI (h' 2)
    rw [o2, ov 2 (by omega) (by omega) (by omega)]
    exact a2
  · show vH' 5 = nI (h' 3)
    rw [o3, ov 5 (by omega) (by omega) (by omega)]
    exact a5
theorem j_narrow (ht : TPR tb n tc tm) (hj : JK tb n S vM lt fr vR j rN tN vH vU mn mp mf plc ut uc un uw fc kd sz d1 d2 wd srt nxt) (h46 : S.h 4 < 6) : ∃ vM' lt' fr', fX9_narrowLine vM lt fr tm = some (vM', lt', fr') ∧ KM vM vM' ∧ ∃ r j' vR' vH' wd', fX5_readNarrow j vR tc vH rN plc wd = some (r, j', vR', vH', wd') ∧ KD vR vR' ∧ (JF vM' r vR' ∨ (r = nI 1 ∧ ∃ S', S.t.at_ ≤ S'.t.at_ ∧ JT tb n S' vM' lt' fr' vR' j' rN tN vH' vU mn mp mf plc ut uc un uw fc kd sz d1 d2 wd' srt nxt)) := by
  obtain ⟨hm, hc, h5, hP, hR, hH, h0⟩ := hj
  obtain ⟨hA, hRg, hT, hN, hD, hW, hM, hNm⟩ := id hP
  obtain ⟨⟨a0, a1, a2, a3, a4, a5, a6⟩, cw, hg, hn, hw, hd, htt, hmm⟩ := id hH
  obtain ⟨b0, b1, b2, b3, b4, b5, b6, b7, b8, b9⟩ := id hA
  obtain ⟨j1, v1, c1, t1, kc1⟩ := c_st ht hc
  obtain ⟨g2, w2, l2, e2, k2, r2, j2, v2, c2, kc2, q2⟩ := j_told (S := nx tb n S) ht hm t1 hNm hR
  have c2 : fX5_takeToldName j1 v1 tc 4 rN (nI (S.h 2)) = some (r2, j2, v2) := c2
  unfold fX9_narrowLine fX5_readNarrow
  rw [if_pos (show vM 13 = 0 from hm.1), e2, bdS, c1, bdS]
  simp only [nlq]
  rw [a2, c2, bdS]
  simp only
  rcases q2 with ⟨e, hf, rfl, rfl, hcf⟩ | ⟨x, rfl, rfl, hx, s2, t2⟩
  · rw [if_neg (mf_nn hf.1), if_pos (show (-1 : Int32) < nI 0 by decide)]
    exact ⟨w2, l2, fr, rfl, k2, nI 0, j2, v2, vH, wd, rfl, (kc1.trans kc2).d, Or.inl ⟨e, hf, rfl, hcf⟩⟩
  · have hx : x < S.h 2 := hx
    obtain ⟨g3, w3, e3, k3, pe, r3, v3, c3, kc3, q3⟩ := j_place (S := nx tb n (nx tb n S)) (vH := vH) (plc := plc) (srt := srt) s2 t2 hRg b3 hx a2 hg
    have pe : fX4_placesOf vH plc (nI x) = some (nI (pl S.h x)) := pe
    have c3 : fX5_isWhole j2 v2 (nI 0) (nI (pl S.h x) - nI 1) = some (r3, v3) := c3
    rw [if_pos (show w2 13 = nI 0 from s2.1), e3, bdS, if_neg (show ¬ nI x < nI 0 by rw [nI_ltI (by omega) (by omega)]; omega), pe, bdS, c3, bdS]
    simp only
    rcases q3 with ⟨e, hf, rfl, hcf⟩ | ⟨y, rfl, rfl, e10, hy, s3, t3⟩
    · rw [if_neg (mf_nn hf.1), if_pos rfl]
      unfold fX9_narrowLine_J55
      rw [if_neg (mf_ne hf.1)]
      exact ⟨w3, l2, fr, rfl, k2.trans k3, nI 0, j2, v3, vH, wd, rfl, (kc1.trans (kc2.trans kc3)).d, Or.inl ⟨e, hf, rfl, hcf⟩⟩
    · have hy : y < pl S.h x := hy
      have y9 : y < 9 := by have := (hRg x hx).2.2; omega
      have hX : 9 * x + y < 36 := by omega
      have f16 : fr (16 + (9 * x + y)) = nI (S.h (16 + (9 * x + y))) := s3.2.2.2.2.1 _ (by omega)
      have f4 : fr 4 = nI (S.h 4) := s3.2.2.2.2.1 4 (by omega)
      have bX := b0 (16 + (9 * x + y)) (by omega)
      have nX := hN (9 * x + y) hX
      have e4 : w3 4 = nI (nx tb n (nx tb n S)).t.at_ := s3.2.2.1.2.1
      rw [if_pos (show w3 13 = nI 0 from s3.1), if_neg (show ¬ nI 1 = nI 0 by decide), e10, c_cellAt, bdS, c_widthOf hX hw, bdS]
      simp (disch := omega) only [nI_add, ok_nI, gdT, nI_clamp, f16, nI_leI]
      by_cases z : S.h (16 + (9 * x + y)) = 0
      · rw [if_pos (show S.h (16 + (9 * x + y)) ≤ 0 by omega), if_pos z, if_pos rfl]
        obtain ⟨w4, l4, e5, s4, k4⟩ := m_nx ht s3
        obtain ⟨j4, v4, c4, t4, kc4⟩ := c_st ht t3
        unfold fX9_narrowLine_J55
        rw [if_pos (show w3 13 = 0 from s3.1), e5, bdS, c4, bdS]
        simp only [nlq]
        obtain ⟨b, w5, l5, e6, k5, r5, j5, v5, c5, kc5, q5⟩ := j_after ht s4 t4 (w := 3) (lo := 0) (hi := 9) (by omega) (by omega) (by omega)
        rw [e6, bdS, c5, bdS]
        simp only
        rcases q5 with ⟨e, hf, rfl, hcf⟩ | ⟨rfl, r6, j6, v6, c6, kc6, q6⟩
        · rw [if_neg (mf_nn hf.1), if_pos rfl]
          exact ⟨w5, l5, fr, rfl, k2.trans (k3.trans (k4.trans k5)), nI 0, j5, v5, vH, wd, rfl, (kc1.trans (kc2.trans (kc3.trans (kc4.trans kc5)))).d, Or.inl ⟨_, hf, rfl, hcf⟩⟩
        · rw [if_neg (show ¬ nI 1 = nI 0 by decide), c6, bdS]
          simp only
          rcases q6 with ⟨e, hf, rfl, hcf⟩ | ⟨u, rfl, rfl, u1, u9, s6, t6⟩
          · rw [if_neg (mf_nn hf.1), if_neg (show ¬ nI 0 ≤ (-1 : Int32) by decide)]
            exact ⟨w5, l5, fr, rfl, k2.trans (k3.trans (k4.trans k5)), nI 0, j6, v6, vH, wd, rfl, (kc1.trans (kc2.trans (kc3.trans (kc4.trans (kc5.trans kc6))))).d, Or.inl ⟨_, hf, rfl, hcf⟩⟩
          · have ea : fX4_addNarrow vH wd (nI (9 * x + y)) (nI u) = some (upd vH 3 (nI (S.h 4 + 1)), upd wd (9 * x + y) (nI u)) := by
              unfold fX4_addNarrow
              simp (disch := omega) only [nlq, nI_ltI, nI_leI, a3, ok_nI, gdT, nI_clamp, nI_add]
              rw [if_neg (by omega), if_neg (by omega), if_pos h46]
            rw [if_pos (show w5 13 = nI 0 from s6.1), if_pos (show nI 0 ≤ nI u by rw [nI_leI (by omega) (by omega)]; omega), ea, bdS]
            simp (disch := omega) only [nI_add, ok_nI, gdT, nI_clamp, upd_ne, f4]
            have hS : MS tb n ((nx tb n (nx tb n (nx tb n (nx tb n (nx tb n S))))).t, setN (setN S.h (16 + (9 * x + y)) (u + 1)) 4 (S.h 4 + 1)) w5 l5 (upd (upd fr (16 + (9 * x + y)) (nI (u + 1))) 4 (nI (S.h 4 + 1))) := MS.set (MS.set s6 (k := 16 + (9 * x + y)) (v := u + 1) (by omega)) (k := 4) (v := S.h 4 + 1) (by omega)
            have o : ∀ k, k ≠ 4 → k ≠ 16 + (9 * x + y) → setN (setN S.h (16 + (9 * x + y)) (u + 1)) 4 (S.h 4 + 1) k = S.h k := fun k q1 q2 => by rw [setN_ne q1, setN_ne q2]
            have o4 : setN (setN S.h (16 + (9 * x + y)) (u + 1)) 4 (S.h 4 + 1) 4 = S.h 4 + 1 := setN_eq _ _ _
            have oX : setN (setN S.h (16 + (9 * x + y)) (u + 1)) 4 (S.h 4 + 1) (16 + (9 * x + y)) = u + 1 := by rw [setN_ne (by omega), setN_eq]
            generalize hh : setN (setN S.h (16 + (9 * x + y)) (u + 1)) 4 (S.h 4 + 1) = h' at hS o o4 oX
            have n1 := nx_at (n := n) hc.2.1
            have n2 := nx_at n1.2.2
            have n3 := nx_at n2.2.2
            have n4 := nx_at n3.2.2
            have n5 := nx_at n4.2.2
            have kcx := kc1.trans (kc2.trans (kc3.trans (kc4.trans (kc5.trans kc6))))
            refine ⟨w5, l5, _, rfl, k2.trans (k3.trans (k4.trans k5)), nI 1, j6, v6, _, _, rfl, kcx.d, Or.inr ⟨rfl, ((nx tb n (nx tb n (nx tb n (nx tb n (nx tb n S))))).t, h'), ?_, ?_⟩⟩
            · show S.t.at_ ≤ (nx tb n (nx tb n (nx tb n (nx tb n (nx tb n S))))).t.at_
              omega
            · refine JT_b hP hR hH h5 (kcx 5 (by omega) (by omega) (by omega) (by omega) (by omega)) h0 (fun k q => o k (by omega) (by omega)) hS t6 (by omega) ?_ ?_ ?_ ?_ (PD_c (o 5 (by omega) (by omega)) (fun d hdd => ⟨o _ (by omega) (by omega), o _ (by omega) (by omega)⟩) hD) (WFw_c (o 6 (by omega) (by omega)) ?_ ?_ (fun g hgg => o _ (by omega) (by omega)) (fun w i _ _ => o _ (by omega) (by omega)) hW) (WFm_c (o 7 (by omega) (by omega)) (fun m _ => o _ (by omega) (by omega)) hM) (fun k q1 q2 q3 => upd_ne q1) ?_ ?_ ?_ (CW_c (o 6 (by omega) (by omega)) (fun w i _ _ => o _ (by omega) (by omega)) cw) ?_ (HDo_c (o 5 (by omega) (by omega)) (fun d hdd => ⟨o _ (by omega) (by omega), o _ (by omega) (by omega)⟩) hd) (HMk_c (o 7 (by omega) (by omega)) (fun m _ => ⟨o _ (by omega) (by omega), o _ (by omega) (by omega), o _ (by omega) (by omega)⟩) hmm)
              · rw [o 5 (by omega) (by omega)]; exact b6
              · rw [o 6 (by omega) (by omega)]; exact b7
              · rw [o 7 (by omega) (by omega)]; exact b8
              · intro q hq
                by_cases eq : q = 9 * x + y
                · rw [eq, oX]; omega
                · rw [o _ (by omega) (by omega)]; exact hN q hq
              · rw [o 3 (by omega) (by omega)]; exact Nat.le_refl _
              · rw [o 2 (by omega) (by omega)]; exact Nat.le_refl _
              · rw [o4]; exact upd_eq
              · rw [o 5 (by omega) (by omega)]; exact a4
              · rw [o 7 (by omega) (by omega)]; exact a6
              · intro q hq
                by_cases eq : q = 9 * x + y
                · rw [eq, oX, if_neg (by omega), upd_eq, Nat.add_sub_cancel]
                · rw [o _ (by omega) (by omega), upd_ne eq]; exact hw q hq
      · rw [if_neg (show ¬ S.h (16 + (9 * x + y)) ≤ 0 by omega), if_neg z, if_neg (show ¬ nI (S.h (16 + (9 * x + y)) - 1) = nI 10 by rw [nI_eq (by omega) (by omega)]; omega), e4]
        obtain ⟨w, ew, hf, hk⟩ := m_wrong s3.1 3 (nx tb n (nx tb n S)).t.at_
        obtain ⟨v', e', hf', hk'⟩ := c_fails t3 3
        rw [ew, bdS, e', bdS]
        unfold fX9_narrowLine_J55
        rw [if_neg (mf_ne hf.1)]
        exact ⟨w, l2, fr, rfl, k2.trans (k3.trans hk), nI 0, j2, v', vH, wd, rfl, (kc1.trans (kc2.trans (kc3.trans hk'))).d, Or.inl ⟨_, hf, rfl, hf'⟩⟩
end JL3
