/-! MATH 31: the reference's tokens; words -/
section LM
variable {tb : Nat → Nat} {n : Nat} {tc tm vR vM lt : Nat → Int32} {w : Int64}
theorem m_look1 (ht : TPR tb n tc tm) (h3 : vM 3 = nI n) {p : Nat} (hp : p ≤ 900) : fX9_look1 vM tm (nI p) = some (if p < n then nI (tb p) else -nI 1) := by
  have hn := ht.1
  simp (disch := omega) only [fX9_look1, fX9_look1_J18, h3, nI_leI, nlit]
  by_cases q : p < n
  · rw [if_neg (by omega), if_pos q]
    simp (disch := omega) only [ok_nI, gdT, nI_clamp, (ht.2 p q).2.2]
  · rw [if_pos (by omega), if_neg q]
theorem m_isSmall {x : Nat} (hx : x < 256) : fX9_isSmall (nI x) = some (nI (if small x then 1 else 0)) := by
  simp (disch := omega) only [fX9_isSmall, fX9_isSmall_J16, fX9_isSmall_J17, nlit, nI_ltI]
  by_cases q1 : x < 97
  · rw [if_pos q1, show small x = false by simp [small]; omega]; rfl
  · rw [if_neg q1]
    by_cases q2 : 122 < x
    · rw [if_pos q2, show small x = false by simp [small]; omega]; rfl
    · rw [if_neg q2, show small x = true by simp [small]; omega]; rfl
theorem m_isDigit {x : Nat} (hx : x < 256) : fX9_isDigit (nI x) = some (nI (if digit x then 1 else 0)) := by
  simp (disch := omega) only [fX9_isDigit, fX9_isDigit_J16, fX9_isDigit_J17, nlit, nI_ltI]
  by_cases q1 : x < 48
  · rw [if_pos q1, show digit x = false by simp [digit]; omega]; rfl
  · rw [if_neg q1]
    by_cases q2 : 57 < x
    · rw [if_pos q2, show digit x = false by simp [digit]; omega]; rfl
    · rw [if_neg q2, show digit x = true by simp [digit]; omega]; rfl
theorem m_isSmall_n : fX9_isSmall (-nI 1) = some (nI 0) := rfl
theorem m_isDigit_n : fX9_isDigit (-nI 1) = some (nI 0) := rfl
theorem m_smallAt (ht : TPR tb n tc tm) {p : Nat} (hp : p ≤ 900) : fX9_isSmall (if p < n then nI (tb p) else -nI 1) = some (nI (if p < n ∧ small (tb p) = true then 1 else 0)) := by
  by_cases q : p < n
  · rw [if_pos q, m_isSmall (ht.2 p q).1]
    simp [q]
  · rw [if_neg q, m_isSmall_n, if_neg (fun w => q w.1)]
theorem m_digitAt (ht : TPR tb n tc tm) {p : Nat} (hp : p ≤ 900) : fX9_isDigit (if p < n then nI (tb p) else -nI 1) = some (nI (if p < n ∧ digit (tb p) = true then 1 else 0)) := by
  by_cases q : p < n
  · rw [if_pos q, m_isDigit (ht.2 p q).1]
    simp [q]
  · rw [if_neg q, m_isDigit_n, if_neg (fun w => q w.1)]
theorem m_letters (ht : TPR tb n tc tm) (h3 : vM 3 = nI n) {k : Nat} (hk : k < n) (h8 : vM 8 = nI 0) : ∃ vM' lt', lp (fX9_next_B67 tm) 5000 (nI k, lt, vM) = some (vM', lt') ∧ vM' 5 = nI (runE small tb n k) ∧ vM' 6 = nI (if runE small tb n k - k ≤ 8 then 2 else 1) ∧ vM' 8 = nI (runE small tb n k - k) ∧ (∀ i, i < runE small tb n k - k → i < 8 → lt' i = nI (tb (k + i))) ∧ ∀ j, j ≠ 5 → j ≠ 6 → j ≠ 8 → vM' j = vM j := by
  have hn := ht.1
  obtain ⟨m, e1, a1, a2, a3⟩ := runE_spec small tb (Nat.le_of_lt hk)
  rw [e1, show k + m - k = m by omega]
  refine Exists.elim (lp_inv (f := fX9_next_B67 tm) (fun i s => ∃ l v, s = (nI (k + i), l, v) ∧ v 8 = nI i ∧ (∀ x, x < i → x < 8 → l x = nI (tb (k + x))) ∧ ∀ j, j ≠ 5 → j ≠ 6 → j ≠ 8 → v j = vM j) (fun res => ∃ vM' lt', res = (vM', lt') ∧ vM' 5 = nI (k + m) ∧ vM' 6 = nI (if m ≤ 8 then 2 else 1) ∧ vM' 8 = nI m ∧ (∀ i, i < m → i < 8 → lt' i = nI (tb (k + i))) ∧ ∀ j, j ≠ 5 → j ≠ 6 → j ≠ 8 → vM' j = vM j) m ?_ ?_ 5000 0 (nI k, lt, vM) (Nat.zero_le _) ⟨lt, vM, rfl, h8, fun x hx => by omega, fun _ _ _ _ => rfl⟩ (by omega)) (fun res hr => ?_)
  · rintro i s hi ⟨l, v, rfl, v8, vl, vo⟩
    left
    have v3 : v 3 = nI n := by rw [vo 3 (by omega) (by omega) (by omega)]; exact h3
    have q : k + i < n := by omega
    simp (disch := omega) only [fX9_next_B67, fX9_next_J101, nlit, m_look1 ht v3 (show k + i ≤ 900 by omega), bdS, m_smallAt ht (show k + i ≤ 900 by omega), v8, nI_leI, ok_nI, gdT, nI_clamp, nI_add]
    rw [if_pos (show k + i < n ∧ small (tb (k + i)) = true from ⟨q, a2 i hi⟩)]
    simp only [n10, if_false]
    by_cases q8 : 8 ≤ i
    · rw [if_pos q8]
      exact ⟨_, rfl, l, _, rfl, rfl, fun x hx hx8 => vl x (by omega) hx8, fun j q1 q2 q3 => by unfold upd; rw [if_neg q3]; exact vo j q1 q2 q3⟩
    · rw [if_neg q8, if_pos q]
      simp (disch := omega) only [ok_nI, gdT, nI_clamp]
      refine ⟨_, rfl, _, _, rfl, rfl, fun x hx hx8 => ?_, fun j q1 q2 q3 => by unfold upd; rw [if_neg q3]; exact vo j q1 q2 q3⟩
      unfold upd
      by_cases ex : x = i
      · rw [if_pos ex, ex]
      · rw [if_neg ex]; exact vl x (by omega) hx8
  · rintro s ⟨l, v, rfl, v8, vl, vo⟩
    have v3 : v 3 = nI n := by rw [vo 3 (by omega) (by omega) (by omega)]; exact h3
    simp (disch := omega) only [fX9_next_B67, fX9_next_J137, fX9_next_J241, nlit, m_look1 ht v3 (show k + m ≤ 900 by omega), bdS, m_smallAt ht (show k + m ≤ 900 by omega), v8, nI_leI]
    rw [if_neg (show ¬ (k + m < n ∧ small (tb (k + m)) = true) from fun q => by have q3 := a3 q.1; rw [q.2] at q3; cases q3)]
    simp only [↓reduceIte]
    by_cases q : m ≤ 8
    · rw [if_pos q, if_pos q, exS]
      exact ⟨_, rfl, _, l, rfl, rfl, rfl, v8, vl, fun j q1 q2 q3 => by unfold upd; rw [if_neg q2, if_neg q1]; exact vo j q1 q2 q3⟩
    · rw [if_neg q, if_neg q, exS]
      exact ⟨_, rfl, _, l, rfl, rfl, rfl, v8, vl, fun j q1 q2 q3 => by unfold upd; rw [if_neg q2, if_neg q1]; exact vo j q1 q2 q3⟩
  · obtain ⟨e, vM', lt', hr, q⟩ := hr
    exact ⟨vM', lt', e.trans (congrArg some hr), q⟩
theorem m_digits (ht : TPR tb n tc tm) (h3 : vM 3 = nI n) {k : Nat} (hk : k < n) (h7 : vM 7 = nI 0) : ∃ vM', lp (fX9_next_B152 tm lt) 5000 (nI k, nI 0, vM) = some (vM', lt) ∧ vM' 5 = nI (runE digit tb n k) ∧ vM' 6 = nI (if runE digit tb n k - k ≤ 3 then 3 else 1) ∧ vM' 7 = nI (dval tb k (runE digit tb n k - k)) ∧ ∀ j, j ≠ 5 → j ≠ 6 → j ≠ 7 → vM' j = vM j := by
  have hn := ht.1
  obtain ⟨m, e1, a1, a2, a3⟩ := runE_spec digit tb (Nat.le_of_lt hk)
  rw [e1, show k + m - k = m by omega]
  refine Exists.elim (lp_inv (f := fX9_next_B152 tm lt) (fun i s => ∃ v, s = (nI (k + i), nI i, v) ∧ v 7 = nI (dval tb k i) ∧ ∀ j, j ≠ 5 → j ≠ 6 → j ≠ 7 → v j = vM j) (fun res => ∃ vM', res = (vM', lt) ∧ vM' 5 = nI (k + m) ∧ vM' 6 = nI (if m ≤ 3 then 3 else 1) ∧ vM' 7 = nI (dval tb k m) ∧ ∀ j, j ≠ 5 → j ≠ 6 → j ≠ 7 → vM' j = vM j) m ?_ ?_ 5000 0 (nI k, nI 0, vM) (Nat.zero_le _) ⟨vM, rfl, h7, fun _ _ _ _ => rfl⟩ (by omega)) (fun res hr => ?_)
  · rintro i s hi ⟨v, rfl, v7, vo⟩
    left
    have v3 : v 3 = nI n := by rw [vo 3 (by omega) (by omega) (by omega)]; exact h3
    have q : k + i < n := by omega
    have hd := a2 i hi
    have hd2 : 48 ≤ tb (k + i) ∧ tb (k + i) ≤ 57 := by simpa [digit] using hd
    simp (disch := omega) only [fX9_next_B152, fX9_next_J188, nlit, m_look1 ht v3 (show k + i ≤ 900 by omega), bdS, m_digitAt ht (show k + i ≤ 900 by omega), nI_leI, nI_add]
    rw [if_pos (show k + i < n ∧ digit (tb (k + i)) = true from ⟨q, hd⟩)]
    simp only [n10, if_false]
    by_cases q3 : 3 ≤ i
    · rw [if_pos q3]
      exact ⟨_, rfl, v, rfl, by rw [dval, if_neg (by omega)]; exact v7, vo⟩
    · rw [if_neg q3, if_pos q]
      refine ⟨_, rfl, _, rfl, ?_, fun j q1 q2 q4 => by unfold upd; rw [if_neg q4]; exact vo j q1 q2 q4⟩
      show nI 10 * v 7 + nI (tb (k + i)) - nI 48 = _
      rw [v7, pk_mul, nI_add, pk_sub (by omega), dval, if_pos (by omega)]
      congr 1
      omega
  · rintro s ⟨v, rfl, v7, vo⟩
    have v3 : v 3 = nI n := by rw [vo 3 (by omega) (by omega) (by omega)]; exact h3
    simp (disch := omega) only [fX9_next_B152, fX9_next_J213, fX9_next_J241, nlit, m_look1 ht v3 (show k + m ≤ 900 by omega), bdS, m_digitAt ht (show k + m ≤ 900 by omega), nI_leI]
    rw [if_neg (show ¬ (k + m < n ∧ digit (tb (k + m)) = true) from fun q => by have q3 := a3 q.1; rw [q.2] at q3; cases q3)]
    simp only [↓reduceIte]
    by_cases q : m ≤ 3
    · rw [if_pos q, if_pos q, exS]
      exact ⟨_, rfl, _, rfl, rfl, rfl, v7, fun j q1 q2 q3 => by unfold upd; rw [if_neg q2, if_neg q1]; exact vo j q1 q2 q3⟩
    · rw [if_neg q, if_neg q, exS]
      exact ⟨_, rfl, _, rfl, rfl, rfl, v7, fun j q1 q2 q3 => by unfold upd; rw [if_neg q2, if_neg q1]; exact vo j q1 q2 q3⟩
  · obtain ⟨e, vM', hr, q⟩ := hr
    exact ⟨vM', e.trans (congrArg some hr), q⟩
theorem m_next (ht : TPR tb n tc tm) (h3 : vM 3 = nI n) {e : Nat} (he : e ≤ n) (h5 : vM 5 = nI e) : ∃ vM' lt', fX9_next vM tm lt = some (vM', lt') ∧ ML tb n (lex tb n e) vM' lt' ∧ ∀ j, j ≠ 4 → j ≠ 5 → j ≠ 6 → j ≠ 7 → j ≠ 8 → vM' j = vM j := by
  have hn := ht.1
  obtain ⟨m, e1, a1, a2, a3⟩ := runE_spec (· == 32) tb he
  unfold fX9_next
  rw [h5]
  refine Exists.elim (lp_inv (f := fX9_next_B5 vM tm lt) (fun i s => s = nI (e + i)) (fun res => ∃ vM' lt', res = (vM', lt') ∧ ML tb n (lex tb n e) vM' lt' ∧ ∀ j, j ≠ 4 → j ≠ 5 → j ≠ 6 → j ≠ 7 → j ≠ 8 → vM' j = vM j) m ?_ ?_ 5000 0 (nI e) (Nat.zero_le _) rfl (by omega)) (fun res hr => ?_)
  · rintro i s hi rfl
    left
    have hb : tb (e + i) = 32 := by simpa using a2 i hi
    simp (disch := omega) only [fX9_next_B5, m_look1 ht h3 (show e + i ≤ 900 by omega), bdS, nlit]
    rw [if_pos (show e + i < n by omega), hb]
    simp only [↓reduceIte, nI_add]
    exact ⟨_, rfl, rfl⟩
  · rintro s rfl
    have v3 : upd vM 4 (nI (e + m)) 3 = nI n := h3
    simp (disch := omega) only [fX9_next_B5, m_look1 ht h3 (show e + m ≤ 900 by omega), m_look1 ht v3 (show e + m ≤ 900 by omega), bdS, nlit, m_smallAt ht (show e + m ≤ 900 by omega), m_digitAt ht (show e + m ≤ 900 by omega)]
    unfold lex
    rw [e1]
    by_cases q : e + m < n
    · obtain ⟨b1, b2, b3⟩ := ht.2 (e + m) q
      have hne : ¬ nI (tb (e + m)) = nI 32 := by
        rw [nI_eq (by omega) (by omega)]
        simpa using a3 q
      have hneg : ¬ nI (tb (e + m)) = -nI 1 := nI_neg1 (by omega)
      rw [if_pos q, if_neg hne, if_neg (show ¬ n ≤ e + m by omega)]
      simp only [hneg, if_false, m_isSmall b1, m_isDigit b1, bdS]
      by_cases hs : small (tb (e + m)) = true
      · rw [if_pos (show e + m < n ∧ small (tb (e + m)) = true from ⟨q, hs⟩), if_pos hs]
        simp only [n10, if_false]
        obtain ⟨vM', lt', e2, r5, r6, r8, rl, ro⟩ := m_letters (vM := upd (upd (upd vM 4 (nI (e + m))) 7 (nI 0)) 8 (nI 0)) (lt := lt) ht h3 q rfl
        rw [e2, exS]
        refine ⟨_, rfl, vM', lt', rfl, ⟨?_, ?_, r5, ?_, fun qk => ?_, fun qk => ?_⟩, fun j q1 q2 q3 q4 q5 => ?_⟩
        · rw [ro 3 (by omega) (by omega) (by omega)]; exact h3
        · rw [ro 4 (by omega) (by omega) (by omega)]; rfl
        · rw [r6]
          show _ = nI (mtok (if _ then 2 else 1))
          split <;> rfl
        · have qk : (if runE small tb n (e + m) - (e + m) ≤ 8 then 2 else 1) = 2 := qk
          have q8 : runE small tb n (e + m) - (e + m) ≤ 8 := by split at qk <;> omega
          exact ⟨r8, fun i hi => rl i hi (by have hi : i < runE small tb n (e + m) - (e + m) := hi; omega)⟩
        · have qk : (if runE small tb n (e + m) - (e + m) ≤ 8 then 2 else 1) = 3 := qk
          split at qk <;> omega
        · rw [ro j q2 q3 q5]
          unfold upd
          rw [if_neg q5, if_neg q4, if_neg q1]
      · rw [if_neg (show ¬ (e + m < n ∧ small (tb (e + m)) = true) from fun w => hs w.2), if_neg hs]
        simp only [↓reduceIte]
        by_cases hd : digit (tb (e + m)) = true
        · rw [if_pos (show e + m < n ∧ digit (tb (e + m)) = true from ⟨q, hd⟩), if_pos hd]
          simp only [n10, if_false]
          obtain ⟨vM', e2, r5, r6, r7, ro⟩ := m_digits (vM := upd (upd (upd vM 4 (nI (e + m))) 7 (nI 0)) 8 (nI 0)) (lt := lt) ht h3 q rfl
          rw [e2, exS]
          refine ⟨_, rfl, vM', lt, rfl, ⟨?_, ?_, r5, ?_, fun qk => ?_, fun qk => r7⟩, fun j q1 q2 q3 q4 q5 => ?_⟩
          · rw [ro 3 (by omega) (by omega) (by omega)]; exact h3
          · rw [ro 4 (by omega) (by omega) (by omega)]; rfl
          · rw [r6]
            show _ = nI (mtok (if _ then 3 else 1))
            split <;> rfl
          · have qk : (if runE digit tb n (e + m) - (e + m) ≤ 3 then 3 else 1) = 2 := qk
            split at qk <;> omega
          · rw [ro j q2 q3 q4]
            unfold upd
            rw [if_neg q5, if_neg q4, if_neg q1]
        · rw [if_neg (show ¬ (e + m < n ∧ digit (tb (e + m)) = true) from fun w => hd w.2), if_neg hd]
          simp (disch := omega) only [↓reduceIte, nI_eq, fX9_next_J238, fX9_next_J241, nI_add]
          by_cases q59 : tb (e + m) = 59
          · rw [if_pos q59, if_pos q59, exS]
            exact ⟨_, rfl, _, lt, rfl, ⟨h3, rfl, rfl, by show nI (tb (e + m)) = _; rw [q59]; rfl, fun qk => (by cases qk), fun qk => (by cases qk)⟩, fun j q1 q2 q3 q4 q5 => by unfold upd; rw [if_neg q3, if_neg q5, if_neg q4, if_neg q2, if_neg q1]⟩
          · rw [if_neg q59, if_neg q59, exS]
            exact ⟨_, rfl, _, lt, rfl, ⟨h3, rfl, rfl, rfl, fun qk => (by cases qk), fun qk => (by cases qk)⟩, fun j q1 q2 q3 q4 q5 => by unfold upd; rw [if_neg q3, if_neg q5, if_neg q4, if_neg q2, if_neg q1]⟩
    · rw [if_neg q, if_pos (show n ≤ e + m by omega)]
      have h1 : ¬ (-nI 1 : Int32) = nI 32 := by decide
      simp only [h1, if_false, ↓reduceIte]
      exact ⟨_, rfl, _, lt, rfl, ⟨h3, rfl, rfl, rfl, fun qk => (by cases qk), fun qk => (by cases qk)⟩, fun j q1 q2 q3 q4 q5 => by unfold upd; rw [if_neg q5, if_neg q4, if_neg q3, if_neg q2, if_neg q1]⟩
  · obtain ⟨e, vM', lt', hr, q⟩ := hr
    exact ⟨vM', lt', e.trans (congrArg some hr), q⟩
end LM
/-! words -/
def sCh (w k : Nat) : Nat := (sByt w k).toNatClampNeg
theorem w_len : ∀ w, w < 22 → fJ0_length_8abf5 w = some (nI (sLen w)) := by decide +kernel
theorem w_len8 : ∀ w, w < 22 → sLen w ≤ 6 ∧ 2 ≤ sLen w := by decide +kernel
theorem w_ch : ∀ w, w < 22 → ∀ k, k < 6 → k < sLen w → fJ0_charAt_5068e w (nI k) = some (nI (sCh w k)) ∧ sCh w k < 128 := by decide +kernel
def isW (tb : Nat → Nat) (t : Tk) (w : Nat) : Bool := t.k == 2 && (t.en - t.at_ == sLen w) && (fnd (fun i => tb (t.at_ + i) != sCh w i) (sLen w)).isNone
section WD
variable {tb : Nat → Nat} {n : Nat} {tc tm vR vM lt : Nat → Int32} {wd : Int64} {t : Tk}
theorem c_says (ht : TPR tb n tc tm) (hl : CL tb n t vR wd) (ho : TkOk tb n t) {w : Nat} (hw : w < 22) : fX5_says wd vR tc w = some (nI (if isW tb t w then 1 else 0)) := by
  obtain ⟨c6, c7, c8, c9, cw, cv⟩ := hl
  obtain ⟨o1, o2, o3, o4, o5, o6⟩ := ho
  have hn := ht.1
  have hos : okS w = true := decide_eq_true hw
  have hck : ctok t.k ≤ 4 := by unfold ctok; split <;> (try split) <;> omega
  unfold fX5_says isW
  rw [hos, c7, c8, c9, w_len w hw]
  simp (disch := omega) only [nlit, nI_eq, gdT, bdS, pk_sub, fX5_says_J24]
  by_cases k2 : t.k = 2
  · rw [if_pos (by rw [k2]; rfl), k2]
    obtain ⟨p1, p2⟩ := o5 k2
    obtain ⟨l1, l2⟩ := w_len8 w hw
    simp (disch := omega) only [nI_eq]
    by_cases kl : t.en - t.at_ = sLen w
    · rw [if_pos kl, kl]
      refine Exists.elim (lp_find (f := fX5_says_B28 vR tc w) (fun i => tb (t.at_ + i) != sCh w i) (sLen w) (fun i s => s = nI i) (fun o res => res = nI (if o.isNone then 1 else 0)) ?_ ?_ rfl (show sLen w < 5000 by omega)) (fun res hr => ?_)
      · rintro i s hi rfl
        obtain ⟨q1, q2⟩ := w_ch w hw i (by omega) hi
        have hsm := p2 i (by omega)
        have hs2 : 97 ≤ tb (t.at_ + i) ∧ tb (t.at_ + i) ≤ 122 := by simpa [small] using hsm
        have hb := (ht.2 (t.at_ + i) (by omega)).2.1
        simp (disch := omega) only [fX5_says_B28, fX5_says_J68, hos, gdT, w_len w hw, bdS, nI_leI, c8, nlit, nI_add, nI_ltI, ok_nI, nI_clamp, q1, hb, sby_lo (show tb (t.at_ + i) < 128 by omega), nI_eq, exS]
        rw [if_neg (by omega), if_neg (by omega), if_neg (by omega)]
        by_cases qe : tb (t.at_ + i) = sCh w i
        · rw [if_pos qe]
          exact ⟨fun _ => ⟨_, rfl, rfl⟩, fun e => by simp [qe] at e⟩
        · rw [if_neg qe]
          exact ⟨fun e => by simp [qe] at e, fun _ => ⟨_, rfl, rfl⟩⟩
      · rintro s rfl
        simp (disch := omega) only [fX5_says_B28, hos, gdT, w_len w hw, bdS, nI_leI, nlit, exS]
        rw [if_pos (Nat.le_refl _)]
        exact ⟨_, rfl, rfl⟩
      · rw [hr.1, hr.2]
        simp
    · rw [if_neg kl, show (t.en - t.at_ == sLen w) = false by simpa using kl]
      simp
  · have : ¬ ctok t.k = 1 := by unfold ctok; split <;> (try split) <;> omega
    rw [if_neg this, show (t.k == 2) = false by simpa using k2]
    simp
theorem m_isWord (hm : ML tb n t vM lt) (ho : TkOk tb n t) (hn : n ≤ 900) (h13 : vM 13 = nI 0) {w : Nat} (hw : w < 22) (htb : ∀ p, p < n → tb p < 256) : fX9_isWord vM lt w = some (nI (if isW tb t w then 1 else 0)) := by
  obtain ⟨c3, c4, c5, c6, cw, cv⟩ := hm
  obtain ⟨o1, o2, o3, o4, o5, o6⟩ := ho
  have hos : okS w = true := decide_eq_true hw
  have hmk : mtok t.k ≤ 59 := by unfold mtok; split <;> omega
  unfold fX9_isWord isW
  rw [if_pos (show vM 13 = 0 from h13), hos, c6, w_len w hw]
  simp (disch := omega) only [nlit, nI_eq, gdT, bdS, fX9_isWord_J26]
  by_cases k2 : t.k = 2
  · rw [if_pos (by rw [k2]; rfl), k2]
    obtain ⟨p1, p2⟩ := o5 k2
    obtain ⟨l1, l2⟩ := w_len8 w hw
    obtain ⟨r8, rl⟩ := cw k2
    rw [r8]
    simp (disch := omega) only [nI_eq]
    by_cases kl : t.en - t.at_ = sLen w
    · rw [if_pos kl, kl]
      have lpe : lp (fX9_isWord_B32 vM lt w) 5000 (nI 1, nI 0) = some (nI (if (fnd (fun i => tb (t.at_ + i) != sCh w i) (sLen w)).isNone then 1 else 0)) := by
        refine lp_for (fun i => (nI (if (fnd (fun i => tb (t.at_ + i) != sCh w i) i).isNone then 1 else 0), nI i)) (sLen w) ?_ ?_ (by omega) rfl
        · intro i hi
          obtain ⟨q1, q2⟩ := w_ch w hw i (by omega) hi
          have hlt := htb (t.at_ + i) (by omega)
          rw [fnd_s]
          simp (disch := omega) only [fX9_isWord_B32, fX9_isWord_J62, fX9_isWord_J63, r8, kl, nlit, nI_leI, ok_nI, gdT, hos, q1, bdS, nI_clamp, rl i (by omega), nI_eq, nI_add]
          rw [if_neg (by omega)]
          cases hfn : fnd (fun i => tb (t.at_ + i) != sCh w i) i with
          | some u => rfl
          | none =>
            simp only [Option.isNone_none, if_true, n10, if_false]
            by_cases qe : tb (t.at_ + i) = sCh w i
            · rw [if_pos qe]; simp [qe]
            · rw [if_neg qe]; simp [qe]
        · simp (disch := omega) only [fX9_isWord_B32, r8, kl, nI_leI]
          rw [if_pos (Nat.le_refl _)]
          cases (fnd (fun i => tb (t.at_ + i) != sCh w i) (sLen w)).isNone <;> rfl
      rw [lpe]
      simp
    · rw [if_neg kl, show (t.en - t.at_ == sLen w) = false by simpa using kl]
      simp
  · have : ¬ mtok t.k = 2 := by unfold mtok; split <;> omega
    rw [if_neg this, show (t.k == 2) = false by simpa using k2]
    simp
theorem m_isWord_f (h13 : vM 13 = nI 1) (w : Nat) : fX9_isWord vM lt w = some (nI 0) := by
  unfold fX9_isWord
  rw [if_neg (show ¬ vM 13 = 0 by rw [h13]; decide)]
  rfl
end WD
