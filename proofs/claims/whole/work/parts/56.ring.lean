/-! MATH 36: reading, a line on both sides: a ring -/
theorem mf_nn {vM : Nat → Int32} (h : vM 13 = nI 1) : ¬ vM 13 = nI 0 := by rw [h]; decide
theorem upd_ne {f : Nat → Int32} {k j : Nat} {x : Int32} (e : j ≠ k) : upd f k x j = f j := if_neg e
theorem upd_eq {f : Nat → Int32} {k : Nat} {x : Int32} : upd f k x k = x := if_pos rfl
/-- both sides behind a word that begins a line: the reference has passed it -/
def JK (tb : Nat → Nat) (n : Nat) (S : PS) (vM lt fr vR : Nat → Int32) (j : Int64) (rN tN : Nat → Int64) (vH vU mn mp mf plc ut uc un uw fc kd sz d1 d2 wd srt nxt : Nat → Int32) : Prop :=
  MS tb n (nx tb n S) vM lt fr ∧ CS0 tb n S.t vR j ∧ vR 5 = nI (if S.h 0 = 0 then 0 else 1) ∧ PI S.h ∧ NR S.h rN tN (S.h 3) ∧ HD S.h vH vU mn mp mf plc ut uc un uw fc kd sz d1 d2 wd srt nxt ∧ 0 < S.h 0
def aSort (tb : Nat → Nat) (t : Tk) : Option Nat := if isW tb t 17 then some 0 else if isW tb t 4 then some 1 else if isW tb t 1 then some 2 else none
def aKind (tb : Nat → Nat) (t : Tk) : Option Nat := if isW tb t 17 then some 0 else if isW tb t 15 then some 1 else if isW tb t 2 then some 2 else if isW tb t 14 then some 3 else none
def oKn (o : Option Nat) : Int32 := match o with
  | some s => nI s
  | none => -nI 1
section JL2
variable {tb : Nat → Nat} {n : Nat} {tc tm vR vM lt fr : Nat → Int32} {j : Int64} {S : PS} {rN tN : Nat → Int64}
variable {vH vU mn mp mf plc ut uc un uw fc kd sz d1 d2 wd srt nxt : Nat → Int32}
theorem iteT {α : Type} {x y : α} : (if nI (if true = true then 1 else 0) = nI 0 then x else y) = y := if_neg (show ¬ nI (if true = true then 1 else 0) = nI 0 by decide)
theorem iteF {α : Type} {x y : α} : (if nI (if false = true then 1 else 0) = nI 0 then x else y) = x := if_pos rfl
theorem m_sort {α : Type} (ht : TPR tb n tc tm) (hs : MS tb n S vM lt fr) (K : Int32 → Option α) : (Option.bind (fX9_isWord vM lt 17) fun r33 => (if r33 = nI 0 then (Option.bind (fX9_isWord vM lt 4) fun r46 => (if r46 = nI 0 then (Option.bind (fX9_isWord vM lt 1) fun r59 => (if r59 = nI 0 then K (-nI 1) else K (nI 2))) else K (nI 1))) else K (nI 0))) = K (oKn (aSort tb S.t)) := by
  unfold aSort
  rw [m_isW ht hs (show 17 < 22 by omega), bdS]
  cases isW tb S.t 17 with
  | true => rw [iteT]; rfl
  | false =>
    rw [iteF, m_isW ht hs (show 4 < 22 by omega), bdS]
    cases isW tb S.t 4 with
    | true => rw [iteT]; rfl
    | false =>
      rw [iteF, m_isW ht hs (show 1 < 22 by omega), bdS]
      cases isW tb S.t 1 with
      | true => rw [iteT]; rfl
      | false => rw [iteF]; rfl
theorem m_kind {α : Type} (ht : TPR tb n tc tm) (hs : MS tb n S vM lt fr) (K : Int32 → Option α) : (Option.bind (fX9_isWord vM lt 17) fun r35 => (if r35 = nI 0 then (Option.bind (fX9_isWord vM lt 15) fun r48 => (if r48 = nI 0 then (Option.bind (fX9_isWord vM lt 2) fun r61 => (if r61 = nI 0 then (Option.bind (fX9_isWord vM lt 14) fun r74 => (if r74 = nI 0 then K (-nI 1) else K (nI 3))) else K (nI 2))) else K (nI 1))) else K (nI 0))) = K (oKn (aKind tb S.t)) := by
  unfold aKind
  rw [m_isW ht hs (show 17 < 22 by omega), bdS]
  cases isW tb S.t 17 with
  | true => rw [iteT]; rfl
  | false =>
    rw [iteF, m_isW ht hs (show 15 < 22 by omega), bdS]
    cases isW tb S.t 15 with
    | true => rw [iteT]; rfl
    | false =>
      rw [iteF, m_isW ht hs (show 2 < 22 by omega), bdS]
      cases isW tb S.t 2 with
      | true => rw [iteT]; rfl
      | false =>
        rw [iteF, m_isW ht hs (show 14 < 22 by omega), bdS]
        cases isW tb S.t 14 with
        | true => rw [iteT]; rfl
        | false => rw [iteF]; rfl
theorem c_sortSaid (ht : TPR tb n tc tm) (hs : CS0 tb n S.t vR j) : fX5_sortSaid j vR tc = some (oKn (aSort tb S.t)) := by
  unfold fX5_sortSaid aSort
  simp only [nlq]
  rw [c_says ht hs.1 hs.2.1 (show 17 < 22 by omega), bdS]
  cases isW tb S.t 17 with
  | true => rw [iteT]; rfl
  | false =>
    rw [iteF, c_says ht hs.1 hs.2.1 (show 4 < 22 by omega), bdS]
    cases isW tb S.t 4 with
    | true => rw [iteT]; rfl
    | false =>
      rw [iteF, c_says ht hs.1 hs.2.1 (show 1 < 22 by omega), bdS]
      cases isW tb S.t 1 with
      | true => rw [iteT]; rfl
      | false => rw [iteF]; rfl
theorem c_kindSaid (ht : TPR tb n tc tm) (hs : CS0 tb n S.t vR j) : fX5_kindSaid j vR tc = some (oKn (aKind tb S.t)) := by
  unfold fX5_kindSaid aKind
  simp only [nlq]
  rw [c_says ht hs.1 hs.2.1 (show 17 < 22 by omega), bdS]
  cases isW tb S.t 17 with
  | true => rw [iteT]; rfl
  | false =>
    rw [iteF, c_says ht hs.1 hs.2.1 (show 15 < 22 by omega), bdS]
    cases isW tb S.t 15 with
    | true => rw [iteT]; rfl
    | false =>
      rw [iteF, c_says ht hs.1 hs.2.1 (show 2 < 22 by omega), bdS]
      cases isW tb S.t 2 with
      | true => rw [iteT]; rfl
      | false =>
        rw [iteF, c_says ht hs.1 hs.2.1 (show 14 < 22 by omega), bdS]
        cases isW tb S.t 14 with
        | true => rw [iteT]; rfl
        | false => rw [iteF]; rfl
theorem aSort_le {t : Tk} {s : Nat} (h : aSort tb t = some s) : s ≤ 2 := by
  unfold aSort at h
  split at h
  · cases h; omega
  · split at h
    · cases h; omega
    · split at h
      · cases h; omega
      · cases h
theorem aKind_le {t : Tk} {s : Nat} (h : aKind tb t = some s) : s ≤ 3 := by
  unfold aKind at h
  split at h
  · cases h; omega
  · split at h
    · cases h; omega
    · split at h
      · cases h; omega
      · split at h
        · cases h; omega
        · cases h
theorem ml0 : (nI 0 ≤ lg_cmp (-1) 0) = False := m1l
theorem encl0 {v : Nat} (hv : v < 2 ^ 40) : (nI 0 ≤ lg_cmp (Int64.ofNat v) 0) = True := encl hv
theorem n1lt : (-nI 1 < nI 0) = True := eq_true (by decide)
theorem n1ge : (nI 0 ≤ -nI 1) = False := eq_false (by decide)
theorem CS0.of {t : Tk} (h : CS0 tb n S.t vR j) (e : S.t = t) : CS0 tb n t vR j := e ▸ h
theorem j_ring (ht : TPR tb n tc tm) (hj : JK tb n S vM lt fr vR j rN tN vH vU mn mp mf plc ut uc un uw fc kd sz d1 d2 wd srt nxt) (h24 : S.h 2 < 4) : ∃ vM' fr' lt', fX9_ringLine vM fr lt tm = some (vM', fr', lt') ∧ KM vM vM' ∧ ∃ r j' vR' vH' rN' srt' plc' nxt', fX5_readRing j vR tc vH rN tN srt plc nxt = some (r, j', vR', vH', rN', srt', plc', nxt') ∧ KD vR vR' ∧ (JF vM' r vR' ∨ (r = nI 1 ∧ ∃ S', S.t.at_ ≤ S'.t.at_ ∧ JT tb n S' vM' lt' fr' vR' j' rN' tN vH' vU mn mp mf plc' ut uc un uw fc kd sz d1 d2 wd srt' nxt')) := by
  obtain ⟨hm, hc, h5, ⟨hA, hRg, hT, hN, hD, hW, hM, hNm⟩, hR, ⟨⟨a0, a1, a2, a3, a4, a5, a6⟩, cw, hg, hn, hw, hd, htt, hmm⟩, h0⟩ := hj
  have f2 : fr 2 = nI (S.h 2) := hm.2.2.2.2.1 2 (by omega)
  obtain ⟨w1, l1, fr1, e1, k1, q1⟩ := m_newName ht hm (x := S.h 2) (by omega)
  obtain ⟨j1, v1, c1, t1, kc1⟩ := c_st ht hc
  obtain ⟨r2, j2, v2, c2, kc2, q2⟩ := c_newName (x := S.h 2) (S := nx tb n S) ht hNm hR t1 a2 a5
  unfold fX9_ringLine fX5_readRing
  rw [if_pos (show vM 13 = 0 from hm.1), c1, bdS]
  simp (disch := omega) only [nlq, ok_nI, gdT, nI_clamp, f2]
  rw [e1, bdS, c2, bdS]
  simp only
  -- what the reference does once it has failed
  have mfail : ∀ (x : Int32) (w l f : Nat → Int32) (e : Nat × Nat), MF e w → fX9_ringLine_J84 fr tm x f l w = some (w, f, l) := by
    intro x w l f e hf
    unfold fX9_ringLine_J84
    rw [if_neg (mf_ne hf.1)]
  have cfail : ∀ (jj : Int64) (v : Nat → Int32), fX5_readRing_J39 vH rN srt plc nxt jj v = some (nI 0, jj, v, vH, rN, srt, plc, nxt) := fun _ _ => rfl
  have cfail2 : ∀ (jj : Int64) (v : Nat → Int32), fX5_readRing_J76 vH rN srt plc nxt jj v = some (nI 0, jj, v, vH, rN, srt, plc, nxt) := fun _ _ => rfl
  rcases q2 with ⟨an, rfl, t2, k22, hfn⟩ | ⟨e, an, rfl, hcf⟩
  · rw [an] at q1
    have s2 : MS tb n (nx tb n ((nx tb n S).t, setName tb S.h (S.h 2) (nx tb n S).t)) w1 l1 fr1 := q1
    have t2' : CS0 tb n (nx tb n ((nx tb n S).t, setName tb S.h (S.h 2) (nx tb n S).t)).t v2 j2 := t2
    rw [m_sort ht s2 (fun x => fX9_ringLine_J70 fr tm x fr1 l1 w1)]
    simp only [encl0 (tenc_lt t1.2.1 k22), if_true]
    rw [c_sortSaid ht t2', bdS]
    unfold fX9_ringLine_J70 fX5_takeChoice
    have e4 : w1 4 = nI (nx tb n ((nx tb n S).t, setName tb S.h (S.h 2) (nx tb n S).t)).t.at_ := s2.2.2.1.2.1
    cases hso : aSort tb (nx tb n ((nx tb n S).t, setName tb S.h (S.h 2) (nx tb n S).t)).t with
    | none =>
      obtain ⟨w, ew, hf, hk⟩ := m_wrong s2.1 1 (nx tb n ((nx tb n S).t, setName tb S.h (S.h 2) (nx tb n S).t)).t.at_
      obtain ⟨v', e', hf', hk'⟩ := c_fails t2' 1
      simp only [oKn, nlq, n1ge, if_false, e4]
      rw [ew, bdS, mfail _ w l1 fr1 _ hf, e', bdS]
      simp only [bdS, n1lt, if_true]
      exact ⟨w, fr1, l1, rfl, k1.trans hk, nI 0, j2, v', vH, rN, srt, plc, nxt, cfail _ _, (kc1.trans (kc2.trans hk')).d, Or.inl ⟨_, hf, rfl, hf'⟩⟩
    | some s =>
      have hs2 := aSort_le hso
      obtain ⟨w3, l3, e3, s3, k3⟩ := m_nx ht s2
      obtain ⟨j3, v3, c3, t3, kc3⟩ := c_st ht t2'
      simp (disch := omega) only [oKn, nlq, nI_leI, nI_ltI, Nat.zero_le, if_true]
      unfold fX9_ringLine_J84
      rw [if_pos (show w1 13 = 0 from s2.1), e3, bdS, c3, bdS]
      simp (disch := omega) only [bdS, nlq, nI_clamp, f2, pk_mul, nI_add, ok_nI, gdT, nI_ltI, Nat.not_lt_zero, if_false]
      obtain ⟨p, w4, l4, e5, k4, r4, j4, v4, c4, kc4, q4⟩ := j_after ht s3 t3 (w := 16) (lo := 2) (hi := 9) (by omega) (by omega) (by omega)
      rw [e5, bdS, c4, bdS]
      simp only
      rcases q4 with ⟨e, hf, rfl, hcf⟩ | ⟨rfl, r6, j6, v6, c6, kc6, q6⟩
      · rw [if_neg (mf_nn hf.1), if_pos rfl]
        exact ⟨w4, _, l4, rfl, (k1.trans k3).trans k4, nI 0, j4, v4, vH, rN, srt, plc, nxt, cfail _ _, (kc1.trans (kc2.trans (kc3.trans kc4))).d, Or.inl ⟨_, hf, rfl, hcf⟩⟩
      · simp only [n10, if_false]
        rw [c6, bdS]
        simp only
        rcases q6 with ⟨e, hf, rfl, hcf⟩ | ⟨y, rfl, rfl, y1, y5, s6, t6⟩
        · rw [if_neg (mf_nn hf.1), if_pos (show (-1 : Int32) < nI 0 by decide)]
          exact ⟨w4, _, l4, rfl, (k1.trans k3).trans k4, nI 0, j6, v6, vH, rN, srt, plc, nxt, cfail2 _ _, (kc1.trans (kc2.trans (kc3.trans (kc4.trans kc6)))).d, Or.inl ⟨_, hf, rfl, hcf⟩⟩
        · obtain ⟨nxt', ea, hx⟩ := c_addRing (vH := vH) (srt := srt) (plc := plc) (nxt := nxt) a2 h24 hs2 y1 y5
          have g2 : fr1 2 = nI (S.h 2) := by
            rw [s2.2.2.2.2.1 2 (by omega)]
            congr 1
            exact setName_o (by omega) (by omega)
          rw [if_pos (show w4 13 = nI 0 from s6.1)]
          simp (disch := omega) only [nI_ltI, a2, ok_nI, gdT, nI_clamp, Nat.not_lt_zero, if_false, h24, if_true, ea, bdS, upd_ne, g2, nI_add, fX9_ringLine_J137]
          obtain ⟨p1, p2⟩ := t1.2.1.2.2.2.2.1 k22
          have hS := MS.set (MS.set (MS.set s6 (k := 8 + 2 * S.h 2) (v := s) (by omega)) (k := 8 + 2 * S.h 2 + 1) (v := y) (by omega)) (k := 2) (v := S.h 2 + 1) (by omega)
          obtain ⟨nm1, nm2, nm3, nm4⟩ := name_more (x := S.h 2) hNm t1.2.1 k22 (by omega) (hNm.2.2.2.2.1 _ (Nat.le_refl _) h24) hfn
          have o : ∀ k, k ≠ 2 → k ≠ 8 + 2 * S.h 2 → k ≠ 8 + 2 * S.h 2 + 1 → k ≠ 125 + S.h 2 → ¬ (136 + 8 * S.h 2 ≤ k ∧ k < 136 + 8 * S.h 2 + 8) → setN (setN (setN (setName tb S.h (S.h 2) (nx tb n S).t) (8 + 2 * S.h 2) s) (8 + 2 * S.h 2 + 1) y) 2 (S.h 2 + 1) k = S.h k := fun k q1 q2 q3 q4 q5 => by rw [setN_ne q1, setN_ne q3, setN_ne q2, setName_o q4 (by omega)]
          have o2 : setN (setN (setN (setName tb S.h (S.h 2) (nx tb n S).t) (8 + 2 * S.h 2) s) (8 + 2 * S.h 2 + 1) y) 2 (S.h 2 + 1) 2 = S.h 2 + 1 := setN_eq _ _ _
          have os : setN (setN (setN (setName tb S.h (S.h 2) (nx tb n S).t) (8 + 2 * S.h 2) s) (8 + 2 * S.h 2 + 1) y) 2 (S.h 2 + 1) (8 + 2 * S.h 2) = s := by rw [setN_ne (by omega), setN_ne (by omega), setN_eq]
          have op : setN (setN (setN (setName tb S.h (S.h 2) (nx tb n S).t) (8 + 2 * S.h 2) s) (8 + 2 * S.h 2 + 1) y) 2 (S.h 2 + 1) (8 + 2 * S.h 2 + 1) = y := by rw [setN_ne (by omega), setN_eq]
          have on : ∀ k, 125 ≤ k → setN (setN (setN (setName tb S.h (S.h 2) (nx tb n S).t) (8 + 2 * S.h 2) s) (8 + 2 * S.h 2 + 1) y) 2 (S.h 2 + 1) k = setName tb S.h (S.h 2) (nx tb n S).t k := fun k q => by rw [setN_ne (by omega), setN_ne (by omega), setN_ne (by omega)]
          have hS' : MS tb n ((nx tb n (nx tb n (nx tb n (nx tb n (nx tb n S))))).t, setN (setN (setN (setName tb S.h (S.h 2) (nx tb n S).t) (8 + 2 * S.h 2) s) (8 + 2 * S.h 2 + 1) y) 2 (S.h 2 + 1)) w4 l4 (upd (upd (upd fr1 (8 + 2 * S.h 2) (nI s)) (8 + 2 * S.h 2 + 1) (nI y)) 2 (nI (S.h 2 + 1))) := hS
          have ee : ∀ x, x < 11 → setN (setN (setN (setName tb S.h (S.h 2) (nx tb n S).t) (8 + 2 * S.h 2) s) (8 + 2 * S.h 2 + 1) y) 2 (S.h 2 + 1) (125 + x) = setName tb S.h (S.h 2) (nx tb n S).t (125 + x) ∧ enc (setN (setN (setN (setName tb S.h (S.h 2) (nx tb n S).t) (8 + 2 * S.h 2) s) (8 + 2 * S.h 2 + 1) y) 2 (S.h 2 + 1)) x = enc (setName tb S.h (S.h 2) (nx tb n S).t) x ∧ nmOk (setN (setN (setN (setName tb S.h (S.h 2) (nx tb n S).t) (8 + 2 * S.h 2) s) (8 + 2 * S.h 2 + 1) y) 2 (S.h 2 + 1)) x := fun x hx => ⟨on _ (by omega), enc_c (on _ (by omega)) (fun i _ => on _ (by omega)), nmOk_c (on _ (by omega)) (fun i _ => on _ (by omega)) (nm2 x hx)⟩
          generalize hh : setN (setN (setN (setName tb S.h (S.h 2) (nx tb n S).t) (8 + 2 * S.h 2) s) (8 + 2 * S.h 2 + 1) y) 2 (S.h 2 + 1) = h' at hS' o o2 os op on ee
          clear hS
          have n1 := nx_at (n := n) hc.2.1
          have n2 := nx_at n1.2.2
          have n3 := nx_at n2.2.2
          have n4 := nx_at n3.2.2
          have n5 := nx_at n4.2.2
          have o0 : h' 0 = S.h 0 := o 0 (by omega) (by omega) (by omega) (by omega) (by omega)
          have o3 : h' 3 = S.h 3 := o 3 (by omega) (by omega) (by omega) (by omega) (by omega)
          have er : ∀ g, g < S.h 2 → h' (8 + 2 * g) = S.h (8 + 2 * g) ∧ h' (8 + 2 * g + 1) = S.h (8 + 2 * g + 1) := fun g hgg => ⟨o _ (by omega) (by omega) (by omega) (by omega) (by omega), o _ (by omega) (by omega) (by omega) (by omega) (by omega)⟩
          have ot : ∀ k, 16 ≤ k → k < 125 → h' k = S.h k := fun k q1 q2 => o k (by omega) (by omega) (by omega) (by omega) (by omega)
          have o4 : ∀ k, 3 ≤ k → k < 8 → h' k = S.h k := fun k q1 q2 => o k (by omega) (by omega) (by omega) (by omega) (by omega)
          obtain ⟨b0, b1, b2, b3, b4, b5, b6, b7, b8, b9⟩ := hA
          have kcx := kc1.trans (kc2.trans (kc3.trans (kc4.trans kc6)))
          refine ⟨w4, _, l4, rfl, (k1.trans k3).trans k4, nI 1, j6, v6, _, _, _, _, _, rfl, kcx.d, Or.inr ⟨rfl, ((nx tb n (nx tb n (nx tb n (nx tb n (nx tb n S))))).t, h'), ?_, hS', t6, ?_, ⟨?_, ?_, ?_, ?_, ?_, ?_, ?_, ?_⟩, ⟨?_, ?_⟩, ⟨?_, ?_, ?_, ?_, ?_, ?_, ?_, ?_⟩⟩⟩
          · show S.t.at_ ≤ (nx tb n (nx tb n (nx tb n (nx tb n (nx tb n S))))).t.at_
            omega
          · show v6 5 = nI (if h' 0 = 0 then 0 else 1)
            rw [o0, kcx 5 (by omega) (by omega) (by omega) (by omega) (by omega)]
            exact h5
          · refine ⟨fun k hk => hS'.2.2.2.2.2 k hk, by show h' 0 ≤ 5; omega, ?_, by show h' 2 ≤ 4; omega, by show h' 3 ≤ 7; omega, ?_, ?_, ?_, ?_, fun q => ?_⟩
            · show h' 1 ≤ 100
              rw [o 1 (by omega) (by omega) (by omega) (by omega) (by omega)]; exact b2
            · show h' 4 ≤ 6
              rw [o4 4 (by omega) (by omega)]; exact b5
            · show h' 5 ≤ 5
              rw [o4 5 (by omega) (by omega)]; exact b6
            · show h' 6 ≤ 6
              rw [o4 6 (by omega) (by omega)]; exact b7
            · show h' 7 ≤ 6
              rw [o4 7 (by omega) (by omega)]; exact b8
            · have q : h' 0 = 0 := q
              omega
          · intro g hgg
            have hgg : g < h' 2 := hgg
            show so h' g ≤ 2 ∧ 2 ≤ pl h' g ∧ pl h' g ≤ 9
            by_cases eg : g = S.h 2
            · subst eg
              unfold so pl
              rw [os, op]
              exact ⟨hs2, y1, y5⟩
            · rw [so_eq (er g (by omega)).1, pl_eq (er g (by omega)).2]
              exact hRg g (by omega)
          · exact PT_c o3 (by show S.h 2 ≤ h' 2; omega) (fun g hgg => (er g hgg).2) (fun t htl => ⟨ot _ (by omega) (by omega), ot _ (by omega) (by omega), ot _ (by omega) (by omega)⟩) hT
          · exact PN_c (fun x hx => ot _ (by omega) (by omega)) hN
          · exact PD_c (o4 5 (by omega) (by omega)) (fun d hdd => ⟨ot _ (by omega) (by omega), ot _ (by omega) (by omega)⟩) hD
          · exact WFw_c (o4 6 (by omega) (by omega)) (by show S.h 3 ≤ h' 3; omega) (by show S.h 2 ≤ h' 2; omega) (fun g hgg => (er g hgg).2) (fun w i hww hi => ot _ (by omega) (by omega)) hW
          · exact WFm_c (o4 7 (by omega) (by omega)) (fun m hml => ot _ (by omega) (by omega)) hM
          · show NMS h' (h' 3)
            rw [o3]
            obtain ⟨z2, z3, zk, zp, zz, zt, zu, zi⟩ := hNm
            refine ⟨by omega, z3, fun x hx => (ee x hx).2.2, fun x hx => ?_, fun x hx h4 => ?_, fun x hx => ?_, fun x hx h7 => ?_, fun x y hx hy q1 q2 eq => ?_⟩
            · rw [(ee x (by omega)).1]
              by_cases eg : x = S.h 2
              · subst eg; exact nm1
              · rw [(nm3 x (by omega) eg).1]; exact zp x (by omega)
            · rw [(ee x (by omega)).1, (nm3 x (by omega) (by omega)).1]; exact zz x (by omega) h4
            · rw [(ee (4 + x) (by omega)).1, (nm3 (4 + x) (by omega) (by omega)).1]; exact zt x hx
            · rw [(ee (4 + x) (by omega)).1, (nm3 (4 + x) (by omega) (by omega)).1]; exact zu x hx h7
            · rw [(ee x hx).1] at q1
              rw [(ee y hy).1] at q2
              rw [(ee x hx).2.1, (ee y hy).2.1] at eq
              exact nm4 x y hx hy q1 q2 eq
          · intro x hx
            have hx : x < h' 2 := hx
            show vp_updL rN (S.h 2) _ x = Int64.ofNat (enc h' x)
            rw [(ee x (by omega)).2.1]
            unfold vp_updL
            by_cases eg : x = S.h 2
            · rw [if_pos eg, eg, setName_enc]
            · rw [if_neg eg, (nm3 x (by omega) eg).2]
              exact hR.1 x (by omega)
          · intro x hx
            have hx : x < h' 3 := hx
            show tN x = Int64.ofNat (enc h' (4 + x))
            rw [(ee (4 + x) (by omega)).2.1, (nm3 (4 + x) (by omega) (by omega)).2]
            exact hR.2 x (by omega)
          · refine ⟨?_, ?_, ?_, ?_, ?_, ?_, ?_⟩
            · show vH 0 = nI (h' 0)
              rw [o0]; exact a0
            · show vH 1 = nI (h' 1)
              rw [o 1 (by omega) (by omega) (by omega) (by omega) (by omega)]; exact a1
            · show nI (S.h 2 + 1) = nI (h' 2)
              rw [o2]
            · show vH 3 = nI (h' 4)
              rw [o4 4 (by omega) (by omega)]; exact a3
            · show vH 4 = nI (h' 5)
              rw [o4 5 (by omega) (by omega)]; exact a4
            · show vH 5 = nI (h' 3)
              rw [o3]; exact a5
            · show vH 6 = nI (h' 7)
              rw [o4 7 (by omega) (by omega)]; exact a6
          · exact CW_c (o4 6 (by omega) (by omega)) (fun w i hww hi => ot _ (by omega) (by omega)) cw
          · intro g hgg
            have hgg : g < h' 2 := hgg
            show upd srt (S.h 2) (nI s) g = nI (so h' g) ∧ upd plc (S.h 2) (nI y) g = nI (pl h' g)
            by_cases eg : g = S.h 2
            · subst eg
              unfold so pl
              rw [os, op, upd_eq, upd_eq]
              exact ⟨rfl, rfl⟩
            · rw [so_eq (er g (by omega)).1, pl_eq (er g (by omega)).2, upd_ne eg, upd_ne eg]
              exact hg g (by omega)
          · intro x hxl hok
            have hok : okc h' x := hok
            show nxt' x = nI (ah h' x)
            rw [hx x]
            by_cases eg : x / 9 = S.h 2
            · have hpl : pl h' (x / 9) = y := by rw [eg]; exact op
              have hso : so h' (x / 9) = s := by rw [eg]; exact os
              have := hok.2
              rw [hpl] at this
              rw [if_pos (by omega)]
              unfold ah
              rw [hpl, hso, show x - 9 * S.h 2 = x % 9 by omega, eg]
            · have hlt : x / 9 < S.h 2 := by have := hok.1; omega
              have hok2 : okc S.h x := ⟨hlt, by rw [← pl_eq (er _ hlt).2]; exact hok.2⟩
              rw [if_neg (by omega), ah_mono (h := S.h) (fun g hgg => ⟨pl_eq (er g hgg).2, so_eq (er g hgg).1⟩) hok2]
              exact hn x hxl hok2
          · exact HWd_c (fun x hxx => ot _ (by omega) (by omega)) hw
          · exact HDo_c (o4 5 (by omega) (by omega)) (fun d hdd => ⟨ot _ (by omega) (by omega), ot _ (by omega) (by omega)⟩) hd
          · exact HTh_c o3 (fun t htl => ⟨ot _ (by omega) (by omega), ot _ (by omega) (by omega), ot _ (by omega) (by omega)⟩) htt
          · exact HMk_c (o4 7 (by omega) (by omega)) (fun m hml => ⟨ot _ (by omega) (by omega), ot _ (by omega) (by omega), ot _ (by omega) (by omega)⟩) hmm
  · rw [an] at q1
    have hf : MF e w1 := q1
    simp only [m_isWord_f hf.1, bdS, ↓reduceIte, ml0]
    unfold fX9_ringLine_J70
    simp only [nlq]
    rw [if_neg (show ¬ nI 0 ≤ -nI 1 by decide), m_wrong_f hf.1, bdS, mfail _ w1 l1 fr1 e hf]
    exact ⟨w1, fr1, l1, rfl, k1, nI 0, j2, v2, vH, rN, srt, plc, nxt, rfl, (kc1.trans kc2).d, Or.inl ⟨e, hf, rfl, hcf⟩⟩
end JL2
