/-! MATH 30: reading: bytes and tokens -/
def sby (x : Nat) : Int32 := if x < 128 then nI x else nI x - nI 256
theorem sby_and : ∀ x, x < 256 → sby x &&& nI 255 = nI x := by decide +kernel
theorem sby_lo {x : Nat} (h : x < 128) : sby x = nI x := by unfold sby; rw [if_pos h]
theorem sby_hi : ∀ x, x < 256 → 128 ≤ x → sby x < nI 48 := by decide +kernel
abbrev Tk := Nat × Nat × Nat × Nat
abbrev Tk.at_ (t : Tk) : Nat := t.1
abbrev Tk.en (t : Tk) : Nat := t.2.1
abbrev Tk.k (t : Tk) : Nat := t.2.2.1
abbrev Tk.val (t : Tk) : Nat := t.2.2.2
def small (x : Nat) : Bool := decide (97 ≤ x) && decide (x ≤ 122)
def digit (x : Nat) : Bool := decide (48 ≤ x) && decide (x ≤ 57)
def runE (p : Nat → Bool) (tb : Nat → Nat) (n k : Nat) : Nat := k + (match fnd (fun i => !(decide (k + i < n) && p (tb (k + i)))) (n + 1 - k) with
  | some i => i
  | none => 0)
theorem runE_spec (p : Nat → Bool) (tb : Nat → Nat) {n k : Nat} (hk : k ≤ n) : ∃ m, runE p tb n k = k + m ∧ k + m ≤ n ∧ (∀ i, i < m → p (tb (k + i)) = true) ∧ (k + m < n → p (tb (k + m)) = false) := by
  unfold runE
  cases hf : fnd (fun i => !(decide (k + i < n) && p (tb (k + i)))) (n + 1 - k) with
  | none =>
    have := fnd_none hf (n - k) (by omega)
    simp at this
    omega
  | some m =>
    obtain ⟨h1, h2, h3⟩ := fnd_some hf
    refine ⟨m, rfl, by omega, fun i hi => ?_, fun hlt => ?_⟩
    · have := h3 i hi
      simp at this
      exact this.2
    · simpa [hlt] using h2
/-- a run's end, told by its letters -/
theorem runE_eq {p : Nat → Bool} {tb : Nat → Nat} {n k m : Nat} (h1 : k + m ≤ n) (h2 : ∀ i, i < m → p (tb (k + i)) = true) (h3 : k + m < n → p (tb (k + m)) = false) : runE p tb n k = k + m := by
  obtain ⟨m', e, a1, a2, a3⟩ := runE_spec p tb (n := n) (k := k) (by omega)
  rw [e]
  rcases Nat.lt_trichotomy m m' with q | q | q
  · have := a2 m q; rw [h3 (by omega)] at this; cases this
  · rw [q]
  · have := h2 m' q; rw [a3 (by omega)] at this; cases this
def dval (tb : Nat → Nat) (a : Nat) : Nat → Nat
  | 0 => 0
  | m + 1 => if m < 3 then 10 * dval tb a m + (tb (a + m) - 48) else dval tb a m
theorem dval_le {tb : Nat → Nat} {a : Nat} : ∀ m, (∀ i, i < m → digit (tb (a + i)) = true) → dval tb a m ≤ 999 ∧ (m = 1 → dval tb a m ≤ 9) ∧ (m = 2 → dval tb a m ≤ 99) ∧ (m = 0 → dval tb a m = 0) := by
  intro m
  induction m with
  | zero => intro _; exact ⟨Nat.zero_le _, fun e => by omega, fun e => by omega, fun _ => rfl⟩
  | succ m ih =>
    intro h
    obtain ⟨a1, a2, a3, a4⟩ := ih (fun i hi => h i (by omega))
    have hd := h m (by omega)
    simp [digit] at hd
    rw [dval]
    split
    · have : m = 0 ∨ m = 1 ∨ m = 2 := by omega
      rcases this with q | q | q
      · have := a4 q; omega
      · have := a2 q; omega
      · have := a3 q; omega
    · omega
/-- a word as a number -/
def encp (f : Nat → Nat) : Nat → Nat
  | 0 => 0
  | m + 1 => 32 * encp f m + (f m - 96)
theorem encp_ext {f g : Nat → Nat} {m : Nat} (e : ∀ i, i < m → f i = g i) : encp f m = encp g m := by
  induction m with
  | zero => rfl
  | succ m ih => rw [encp, encp, ih (fun i hi => e i (by omega)), e m (by omega)]
theorem encp_inj {f g : Nat → Nat} : ∀ {a b : Nat}, (∀ i, i < a → small (f i) = true) → (∀ i, i < b → small (g i) = true) → encp f a = encp g b → a = b ∧ ∀ i, i < a → f i = g i := by
  intro a
  induction a with
  | zero =>
    intro b _ h2 e
    cases b with
    | zero => exact ⟨rfl, fun i hi => by omega⟩
    | succ b =>
      have := h2 b (by omega)
      simp [small] at this
      rw [encp, encp] at e
      omega
  | succ a ih =>
    intro b h1 h2 e
    have ha := h1 a (by omega)
    simp [small] at ha
    cases b with
    | zero => rw [encp, encp] at e; omega
    | succ b =>
      have hb := h2 b (by omega)
      simp [small] at hb
      rw [encp, encp] at e
      obtain ⟨e1, e2⟩ := ih (b := b) (fun i hi => h1 i (by omega)) (fun i hi => h2 i (by omega)) (by omega)
      subst e1
      refine ⟨rfl, fun i hi => ?_⟩
      rcases Nat.lt_or_ge i a with q | q
      · exact e2 i q
      · obtain rfl : i = a := by omega
        omega
theorem encp_lt {f : Nat → Nat} : ∀ {a : Nat}, (∀ i, i < a → small (f i) = true) → encp f a < 32 ^ a := by
  intro a
  induction a with
  | zero => intro _; exact Nat.one_pos
  | succ a ih =>
    intro h
    have := ih (fun i hi => h i (by omega))
    have ha := h a (by omega)
    simp [small] at ha
    rw [encp, Nat.pow_succ]
    omega
def lex (tb : Nat → Nat) (n e : Nat) : Tk :=
  if n ≤ runE (· == 32) tb n e then ⟨runE (· == 32) tb n e, runE (· == 32) tb n e, 0, 0⟩
  else if small (tb (runE (· == 32) tb n e)) then ⟨runE (· == 32) tb n e, runE small tb n (runE (· == 32) tb n e), if runE small tb n (runE (· == 32) tb n e) - runE (· == 32) tb n e ≤ 8 then 2 else 1, 0⟩
  else if digit (tb (runE (· == 32) tb n e)) then ⟨runE (· == 32) tb n e, runE digit tb n (runE (· == 32) tb n e), if runE digit tb n (runE (· == 32) tb n e) - runE (· == 32) tb n e ≤ 3 then 3 else 1, dval tb (runE (· == 32) tb n e) (runE digit tb n (runE (· == 32) tb n e) - runE (· == 32) tb n e)⟩
  else ⟨runE (· == 32) tb n e, runE (· == 32) tb n e + 1, if tb (runE (· == 32) tb n e) = 59 then 4 else 1, 0⟩
/-- what holds of a token -/
def TkOk (tb : Nat → Nat) (n : Nat) (t : Tk) : Prop := t.at_ ≤ t.en ∧ t.en ≤ n ∧ t.k ≤ 4 ∧ (t.k ≠ 0 → t.at_ < t.en) ∧ (t.k = 2 → t.en - t.at_ ≤ 8 ∧ ∀ i, i < t.en - t.at_ → small (tb (t.at_ + i)) = true) ∧ t.val ≤ 999
theorem lex_ok (tb : Nat → Nat) {n e : Nat} (he : e ≤ n) : TkOk tb n (lex tb n e) ∧ e ≤ (lex tb n e).at_ := by
  obtain ⟨m, e1, a1, a2, a3⟩ := runE_spec (· == 32) tb he
  unfold lex
  rw [e1]
  split
  · exact ⟨⟨Nat.le_refl _, a1, by show 0 ≤ 4; omega, fun q => absurd rfl q, fun q => (by cases q), Nat.zero_le _⟩, by show e ≤ e + m; omega⟩
  · split
    · rename_i hs
      obtain ⟨m2, e2, b1, b2, b3⟩ := runE_spec small tb a1
      rw [e2]
      have : 0 < m2 := by
        rcases Nat.eq_zero_or_pos m2 with q | q
        · subst q; have b3 := b3 (by omega); rw [Nat.add_zero, hs] at b3; cases b3
        · exact q
      refine ⟨⟨by show e + m ≤ e + m + m2; omega, b1, ?_, fun _ => by show e + m < e + m + m2; omega, fun q => ?_, Nat.zero_le _⟩, by show e ≤ e + m; omega⟩
      · show (if _ then 2 else 1) ≤ 4
        split <;> omega
      · have q : (if e + m + m2 - (e + m) ≤ 8 then 2 else 1) = 2 := q
        refine ⟨?_, fun i hi => b2 i ?_⟩
        · show e + m + m2 - (e + m) ≤ 8
          split at q <;> omega
        · have hi : i < e + m + m2 - (e + m) := hi
          omega
    · split
      · rename_i hs
        obtain ⟨m2, e2, b1, b2, b3⟩ := runE_spec digit tb a1
        rw [e2]
        have : 0 < m2 := by
          rcases Nat.eq_zero_or_pos m2 with q | q
          · subst q; have b3 := b3 (by omega); rw [Nat.add_zero, hs] at b3; cases b3
          · exact q
        refine ⟨⟨by show e + m ≤ e + m + m2; omega, b1, ?_, fun _ => by show e + m < e + m + m2; omega, fun q => ?_, ?_⟩, by show e ≤ e + m; omega⟩
        · show (if _ then 3 else 1) ≤ 4
          split <;> omega
        · have q : (if e + m + m2 - (e + m) ≤ 3 then 3 else 1) = 2 := q
          split at q <;> omega
        · have e3 : e + m + m2 - (e + m) = m2 := by omega
          show dval tb (e + m) (e + m + m2 - (e + m)) ≤ 999
          rw [e3]
          exact (dval_le m2 b2).1
      · refine ⟨⟨by show e + m ≤ e + m + 1; omega, by show e + m + 1 ≤ n; omega, ?_, fun _ => by show e + m < e + m + 1; omega, fun q => ?_, Nat.zero_le _⟩, by show e ≤ e + m; omega⟩
        · show (if _ then 4 else 1) ≤ 4
          split <;> omega
        · have q : (if tb (e + m) = 59 then 4 else 1) = 2 := q
          split at q <;> omega
/-- the text on both sides' tapes -/
def TPR (tb : Nat → Nat) (n : Nat) (tc tm : Nat → Int32) : Prop := n ≤ 900 ∧ (∀ p, p < n → tb p < 256 ∧ tc p = sby (tb p) ∧ tm p = nI (tb p))
def ctok (k : Nat) : Nat := if k = 0 then 0 else if k = 1 then 4 else k - 1
def mtok (k : Nat) : Nat := if k = 4 then 59 else k
def CL (tb : Nat → Nat) (n : Nat) (t : Tk) (vR : Nat → Int32) (w : Int64) : Prop := vR 6 = nI n ∧ vR 7 = nI (ctok t.k) ∧ vR 8 = nI t.at_ ∧ vR 9 = nI t.en ∧ (t.k = 2 → w = Int64.ofNat (encp (fun i => tb (t.at_ + i)) (t.en - t.at_))) ∧ (t.k = 3 → vR 10 = nI t.val)
def ML (tb : Nat → Nat) (n : Nat) (t : Tk) (vM lt : Nat → Int32) : Prop := vM 3 = nI n ∧ vM 4 = nI t.at_ ∧ vM 5 = nI t.en ∧ vM 6 = nI (mtok t.k) ∧ (t.k = 2 → vM 8 = nI (t.en - t.at_) ∧ ∀ i, i < t.en - t.at_ → lt i = nI (tb (t.at_ + i))) ∧ (t.k = 3 → vM 7 = nI t.val)
section LX
variable {tb : Nat → Nat} {n : Nat} {tc tm vR vM lt : Nat → Int32} {w : Int64}
theorem c_byteAt (ht : TPR tb n tc tm) (h6 : vR 6 = nI n) {p : Nat} (hp : p ≤ 900) : fX5_byteAt w vR tc (nI p) = some (if p < n then nI (tb p) else -1) := by
  obtain ⟨hn, ht⟩ := ht
  simp (disch := omega) only [fX5_byteAt, fX5_byteAt_J32, fX5_byteAt_J33, h6, nlit, nI_ltI, nI_leI]
  rw [if_neg (by omega)]
  by_cases q : p < n
  · obtain ⟨b1, b2, b3⟩ := ht p q
    rw [if_neg (by omega), if_neg (by omega), if_pos q]
    simp (disch := omega) only [ok_nI, gdT, nI_clamp, b2]
    rw [sby_and _ b1]
  · rw [if_pos (by omega), if_neg q]
theorem l64_letter : ∀ x, x < 123 → 97 ≤ x → ((nI x - nI 97) + nI 1).toInt64 = Int64.ofNat (x - 96) := by decide +kernel
theorem small_c (ht : TPR tb n tc tm) {p : Nat} (hp : p < n) : (small (tb p) = true ↔ ¬ tc p < nI 97 ∧ tc p ≤ nI 122) := by
  obtain ⟨b1, b2, b3⟩ := ht.2 p hp
  rw [b2]
  by_cases q : tb p < 128
  · rw [sby_lo q, nI_ltI (by omega) (by omega), nI_leI (by omega) (by omega)]
    simp [small]
  · have := sby_hi _ b1 (by omega)
    constructor
    · intro e; simp [small] at e; omega
    · rintro ⟨e1, -⟩
      exact absurd (show sby (tb p) < nI 97 by rw [Int32.lt_iff_toInt_lt] at *; have : (nI 48).toInt = 48 := by decide
                                               have : (nI 97).toInt = 97 := by decide
                                               omega) e1
theorem digit_c (ht : TPR tb n tc tm) {p : Nat} (hp : p < n) : (digit (tb p) = true ↔ ¬ tc p < nI 48 ∧ tc p ≤ nI 57) := by
  obtain ⟨b1, b2, b3⟩ := ht.2 p hp
  rw [b2]
  by_cases q : tb p < 128
  · rw [sby_lo q, nI_ltI (by omega) (by omega), nI_leI (by omega) (by omega)]
    simp [digit]
  · have := sby_hi _ b1 (by omega)
    constructor
    · intro e; simp [digit] at e; omega
    · rintro ⟨e1, -⟩; exact absurd this e1
theorem c_takeLetters (ht : TPR tb n tc tm) (h6 : vR 6 = nI n) {k : Nat} (hk : k < n) (h8 : vR 8 = nI k) (h9 : vR 9 = nI k) : ∃ w' vR', fX5_takeLetters w vR tc = some (w', vR') ∧ w' = Int64.ofNat (encp (fun i => tb (k + i)) (runE small tb n k - k)) ∧ vR' 9 = nI (runE small tb n k) ∧ vR' 7 = nI (if runE small tb n k - k ≤ 8 then 1 else 4) ∧ ∀ j, j ≠ 7 → j ≠ 9 → vR' j = vR j := by
  have hn := ht.1
  obtain ⟨m, e1, a1, a2, a3⟩ := runE_spec small tb (Nat.le_of_lt hk)
  rw [e1, show k + m - k = m by omega]
  unfold fX5_takeLetters
  rw [h8]
  refine Exists.elim (lp_inv (f := fX5_takeLetters_B10 tc) (fun i s => ∃ v, s = (nI (k + i), Int64.ofNat (encp (fun i => tb (k + i)) i), v) ∧ v 9 = nI (k + i) ∧ ∀ j, j ≠ 7 → j ≠ 9 → v j = vR j) (fun res => ∃ w' vR', res = (w', vR') ∧ w' = Int64.ofNat (encp (fun i => tb (k + i)) m) ∧ vR' 9 = nI (k + m) ∧ vR' 7 = nI (if m ≤ 8 then 1 else 4) ∧ ∀ j, j ≠ 7 → j ≠ 9 → vR' j = vR j) m ?_ ?_ 5000 0 (nI k, Int64.ofNat 0, vR) (Nat.zero_le _) ⟨vR, rfl, h9, fun _ _ _ => rfl⟩ (by omega)) (fun res hr => ?_)
  · rintro i s hi ⟨v, rfl, v9, vo⟩
    left
    obtain ⟨b1, b2, b3⟩ := ht.2 (k + i) (by omega)
    have hs := a2 i hi
    obtain ⟨s1, s2⟩ := (small_c ht (show k + i < n by omega)).mp hs
    have hs2 : 97 ≤ tb (k + i) ∧ tb (k + i) ≤ 122 := by simpa [small] using hs
    have v6 : v 6 = nI n := by rw [vo 6 (by omega) (by omega)]; exact h6
    simp (disch := omega) only [fX5_takeLetters_B10, nlit, v6, nI_ltI, nI_leI, ok_nI, gdT, nI_clamp, nI_add]
    rw [if_neg (by omega), if_neg (by omega), if_neg (by omega), if_neg s1, if_pos s2, b2, sby_lo (by omega), l64_letter _ (by omega) hs2.1]
    refine ⟨_, rfl, upd v 9 (nI (k + (i + 1))), ?_, rfl, fun j q1 q2 => ?_⟩
    · rw [encp]
      show (_, Int64.ofNat _ * Int64.ofNat 32 + Int64.ofNat _, _) = _
      rw [← Int64.ofNat_mul, ← Int64.ofNat_add, Nat.mul_comm]
      rfl
    · unfold upd; rw [if_neg q2]; exact vo j q1 q2
  · rintro s ⟨v, rfl, v9, vo⟩
    have v6 : v 6 = nI n := by rw [vo 6 (by omega) (by omega)]; exact h6
    have v8 : v 8 = nI k := by rw [vo 8 (by omega) (by omega)]; exact h8
    have fin : ∃ r, fX5_takeLetters_J92 (Int64.ofNat (encp (fun i => tb (k + i)) m)) v = some r ∧ ∃ w' vR', r = (w', vR') ∧ w' = Int64.ofNat (encp (fun i => tb (k + i)) m) ∧ vR' 9 = nI (k + m) ∧ vR' 7 = nI (if m ≤ 8 then 1 else 4) ∧ ∀ j, j ≠ 7 → j ≠ 9 → vR' j = vR j := by
      simp (disch := omega) only [fX5_takeLetters_J92, fX5_takeLetters_J112, nlit, v9, v8, pk_sub, nI_ltI]
      by_cases q : m ≤ 8
      · rw [if_neg (by omega), if_pos q]
        exact ⟨_, rfl, _, _, rfl, rfl, v9, rfl, fun j q1 q2 => by unfold upd; rw [if_neg q1]; exact vo j q1 q2⟩
      · rw [if_pos (by omega), if_neg q]
        exact ⟨_, rfl, _, _, rfl, rfl, v9, rfl, fun j q1 q2 => by unfold upd; rw [if_neg q1]; exact vo j q1 q2⟩
    obtain ⟨r, er, hr⟩ := fin
    simp (disch := omega) only [fX5_takeLetters_B10, nlit, v6, nI_ltI, nI_leI, er, exS]
    rw [if_neg (by omega)]
    by_cases q : k + m < n
    · rw [if_neg (by omega), if_neg (by omega)]
      simp (disch := omega) only [ok_nI, gdT, nI_clamp]
      have hs := a3 q
      by_cases s1 : tc (k + m) < nI 97
      · rw [if_pos s1]; exact ⟨_, rfl, hr⟩
      · rw [if_neg s1]
        by_cases s2 : tc (k + m) ≤ nI 122
        · rw [(small_c ht q).mpr ⟨s1, s2⟩] at hs; cases hs
        · rw [if_neg s2]; exact ⟨_, rfl, hr⟩
    · rw [if_pos (by omega)]; exact ⟨_, rfl, hr⟩
  · obtain ⟨e, w', vR', hr, q⟩ := hr
    exact ⟨w', vR', e.trans (congrArg some hr), q⟩
/-- all digits of a number, as the class adds them up -/
def dvc (tb : Nat → Nat) (a : Nat) : Nat → Int32
  | 0 => nI 0
  | m + 1 => dvc tb a m * nI 10 + (sby (tb (a + m)) - nI 48)
theorem dvc_eq {tb : Nat → Nat} {a : Nat} : ∀ m, m ≤ 3 → (∀ i, i < m → digit (tb (a + i)) = true) → dvc tb a m = nI (dval tb a m) := by
  intro m
  induction m with
  | zero => intro _ _; rfl
  | succ m ih =>
    intro hm h
    have hd := h m (by omega)
    simp [digit] at hd
    rw [dvc, ih (by omega) (fun i hi => h i (by omega)), dval, if_pos (by omega), sby_lo (by omega), pk_mul, pk_sub hd.1, nI_add, Nat.mul_comm]
theorem c_takeDigits (ht : TPR tb n tc tm) (h6 : vR 6 = nI n) {k : Nat} (hk : k < n) (h8 : vR 8 = nI k) (h9 : vR 9 = nI k) : ∃ vR', fX5_takeDigits w vR tc = some vR' ∧ vR' 9 = nI (runE digit tb n k) ∧ vR' 7 = nI (if runE digit tb n k - k ≤ 3 then 2 else 4) ∧ vR' 10 = dvc tb k (runE digit tb n k - k) ∧ ∀ j, j ≠ 7 → j ≠ 9 → j ≠ 10 → vR' j = vR j := by
  have hn := ht.1
  obtain ⟨m, e1, a1, a2, a3⟩ := runE_spec digit tb (Nat.le_of_lt hk)
  rw [e1, show k + m - k = m by omega]
  unfold fX5_takeDigits
  rw [h8]
  simp only [nlit]
  refine Exists.elim (lp_inv (f := fX5_takeDigits_B10 tc) (fun i s => ∃ v, s = (nI (k + i), v) ∧ v 9 = nI (k + i) ∧ v 10 = dvc tb k i ∧ ∀ j, j ≠ 7 → j ≠ 9 → j ≠ 10 → v j = vR j) (fun res => res 9 = nI (k + m) ∧ res 7 = nI (if m ≤ 3 then 2 else 4) ∧ res 10 = dvc tb k m ∧ ∀ j, j ≠ 7 → j ≠ 9 → j ≠ 10 → res j = vR j) m ?_ ?_ 5000 0 (nI k, upd vR 10 (nI 0)) (Nat.zero_le _) ⟨_, rfl, h9, rfl, fun j _ _ q => by unfold upd; rw [if_neg q]⟩ (by omega)) (fun res hr => ⟨res, hr⟩)
  · rintro i s hi ⟨v, rfl, v9, v10, vo⟩
    left
    obtain ⟨b1, b2, b3⟩ := ht.2 (k + i) (by omega)
    obtain ⟨s1, s2⟩ := (digit_c ht (show k + i < n by omega)).mp (a2 i hi)
    have v6 : v 6 = nI n := by rw [vo 6 (by omega) (by omega) (by omega)]; exact h6
    simp (disch := omega) only [fX5_takeDigits_B10, nlit, v6, nI_ltI, nI_leI, ok_nI, gdT, nI_clamp, nI_add]
    rw [if_neg (by omega), if_neg (by omega), if_neg (by omega), if_neg s1, if_pos s2, b2, v10]
    exact ⟨_, rfl, _, rfl, rfl, rfl, fun j q1 q2 q3 => by unfold upd; rw [if_neg q3, if_neg q2]; exact vo j q1 q2 q3⟩
  · rintro s ⟨v, rfl, v9, v10, vo⟩
    have v6 : v 6 = nI n := by rw [vo 6 (by omega) (by omega) (by omega)]; exact h6
    have v8 : v 8 = nI k := by rw [vo 8 (by omega) (by omega) (by omega)]; exact h8
    have fin : ∃ r, fX5_takeDigits_J88 v = some r ∧ r 9 = nI (k + m) ∧ r 7 = nI (if m ≤ 3 then 2 else 4) ∧ r 10 = dvc tb k m ∧ ∀ j, j ≠ 7 → j ≠ 9 → j ≠ 10 → r j = vR j := by
      simp (disch := omega) only [fX5_takeDigits_J88, fX5_takeDigits_J107, nlit, v9, v8, pk_sub, nI_ltI]
      by_cases q : m ≤ 3
      · rw [if_neg (by omega), if_pos q]
        exact ⟨_, rfl, v9, rfl, v10, fun j q1 q2 q3 => by unfold upd; rw [if_neg q1]; exact vo j q1 q2 q3⟩
      · rw [if_pos (by omega), if_neg q]
        exact ⟨_, rfl, v9, rfl, v10, fun j q1 q2 q3 => by unfold upd; rw [if_neg q1]; exact vo j q1 q2 q3⟩
    obtain ⟨r, er, hr⟩ := fin
    simp (disch := omega) only [fX5_takeDigits_B10, nlit, v6, nI_ltI, nI_leI, er, exS]
    rw [if_neg (by omega)]
    by_cases q : k + m < n
    · rw [if_neg (by omega), if_neg (by omega)]
      simp (disch := omega) only [ok_nI, gdT, nI_clamp]
      have hs := a3 q
      by_cases s1 : tc (k + m) < nI 48
      · rw [if_pos s1]; exact ⟨_, rfl, hr⟩
      · rw [if_neg s1]
        by_cases s2 : tc (k + m) ≤ nI 57
        · rw [(digit_c ht q).mpr ⟨s1, s2⟩] at hs; cases hs
        · rw [if_neg s2]; exact ⟨_, rfl, hr⟩
    · rw [if_pos (by omega)]; exact ⟨_, rfl, hr⟩
theorem c_step (ht : TPR tb n tc tm) (h6 : vR 6 = nI n) {e : Nat} (he : e ≤ n) (h9 : vR 9 = nI e) : ∃ w' vR', fX5_step w vR tc = some (w', vR') ∧ CL tb n (lex tb n e) vR' w' ∧ ∀ j, j ≠ 7 → j ≠ 8 → j ≠ 9 → j ≠ 10 → vR' j = vR j := by
  have hn := ht.1
  obtain ⟨m, e1, a1, a2, a3⟩ := runE_spec (· == 32) tb he
  unfold fX5_step
  rw [h9]
  -- behind the blanks
  have fin : ∃ w' vR', fX5_step_J29 w vR tc (nI (e + m)) = some (w', vR') ∧ CL tb n (lex tb n e) vR' w' ∧ ∀ j, j ≠ 7 → j ≠ 8 → j ≠ 9 → j ≠ 10 → vR' j = vR j := by
    unfold fX5_step_J29
    rw [c_byteAt ht (show upd (upd vR 8 (nI (e + m))) 9 (nI (e + m)) 6 = nI n from h6) (by omega), bdS]
    unfold lex
    rw [e1]
    by_cases q : e + m < n
    · obtain ⟨b1, b2, b3⟩ := ht.2 (e + m) q
      rw [if_pos q, if_neg (show ¬ n ≤ e + m by omega)]
      simp (disch := omega) only [nlit, nI_leI, nI_ltI]
      rw [if_pos (by omega)]
      have J : ¬ small (tb (e + m)) = true → ∃ w' vR', fX5_step_J76 w tc (nI (e + m)) (nI (tb (e + m))) (upd (upd vR 8 (nI (e + m))) 9 (nI (e + m))) = some (w', vR') ∧ CL tb n (if digit (tb (e + m)) then ⟨e + m, runE digit tb n (e + m), if runE digit tb n (e + m) - (e + m) ≤ 3 then 3 else 1, dval tb (e + m) (runE digit tb n (e + m) - (e + m))⟩ else ⟨e + m, e + m + 1, if tb (e + m) = 59 then 4 else 1, 0⟩) vR' w' ∧ ∀ j, j ≠ 7 → j ≠ 8 → j ≠ 9 → j ≠ 10 → vR' j = vR j := by
        intro _
        simp (disch := omega) only [fX5_step_J76, fX5_step_J95, fX5_step_J107, fX5_step_J117, nlit, nI_ltI, nI_eq, nI_add]
        have K : ¬ digit (tb (e + m)) = true → ∃ w' vR', (if tb (e + m) = 59 then some (w, upd (upd (upd (upd vR 8 (nI (e + m))) 9 (nI (e + m))) 7 (nI 3)) 9 (nI (e + m + 1))) else some (w, upd (upd (upd (upd vR 8 (nI (e + m))) 9 (nI (e + m))) 7 (nI 4)) 9 (nI (e + m + 1)))) = some (w', vR') ∧ CL tb n (⟨e + m, e + m + 1, if tb (e + m) = 59 then 4 else 1, 0⟩) vR' w' ∧ ∀ j, j ≠ 7 → j ≠ 8 → j ≠ 9 → j ≠ 10 → vR' j = vR j := by
          intro _
          by_cases q59 : tb (e + m) = 59
          · rw [if_pos q59, if_pos q59]
            exact ⟨w, _, rfl, ⟨h6, rfl, rfl, rfl, fun q => (by cases q), fun q => (by cases q)⟩, fun j q1 q2 q3 q4 => by unfold upd; rw [if_neg q3, if_neg q1, if_neg q3, if_neg q2]⟩
          · rw [if_neg q59, if_neg q59]
            exact ⟨w, _, rfl, ⟨h6, rfl, rfl, rfl, fun q => (by cases q), fun q => (by cases q)⟩, fun j q1 q2 q3 q4 => by unfold upd; rw [if_neg q3, if_neg q1, if_neg q3, if_neg q2]⟩
        by_cases d1 : tb (e + m) < 48
        · have hd : ¬ digit (tb (e + m)) = true := by simp [digit]; omega
          rw [if_pos d1, if_neg hd]
          exact K hd
        · rw [if_neg d1]
          by_cases d2 : 57 < tb (e + m)
          · have hd : ¬ digit (tb (e + m)) = true := by simp [digit]; omega
            rw [if_pos d2, if_neg hd]
            exact K hd
          · have hd : digit (tb (e + m)) = true := by simp [digit]; omega
            rw [if_neg d2, if_pos hd]
            obtain ⟨vR', e2, r9, r7, r10, ro⟩ := c_takeDigits (w := w) (vR := upd (upd vR 8 (nI (e + m))) 9 (nI (e + m))) ht h6 q rfl rfl
            rw [e2, bdS]
            refine ⟨w, vR', rfl, ⟨?_, ?_, ?_, r9, fun q => ?_, fun q => ?_⟩, fun j q1 q2 q3 q4 => ?_⟩
            · rw [ro 6 (by omega) (by omega) (by omega)]; exact h6
            · rw [r7]
              show _ = nI (ctok (if _ then 3 else 1))
              split <;> rfl
            · rw [ro 8 (by omega) (by omega) (by omega)]; rfl
            · have q : (if runE digit tb n (e + m) - (e + m) ≤ 3 then 3 else 1) = 2 := q
              split at q <;> omega
            · have q : (if runE digit tb n (e + m) - (e + m) ≤ 3 then 3 else 1) = 3 := q
              have q3 : runE digit tb n (e + m) - (e + m) ≤ 3 := by split at q <;> omega
              obtain ⟨m2, e3, c1, c2, c3⟩ := runE_spec digit tb a1
              rw [r10]
              show _ = nI (dval tb (e + m) _)
              apply dvc_eq _ q3
              intro i hi
              exact c2 i (by omega)
            · rw [ro j q1 q3 q4]
              unfold upd
              rw [if_neg q3, if_neg q2]
      by_cases s1 : tb (e + m) < 97
      · have hs : ¬ small (tb (e + m)) = true := by simp [small]; omega
        rw [if_pos s1, if_neg hs]
        exact J hs
      · rw [if_neg s1]
        by_cases s2 : 122 < tb (e + m)
        · have hs : ¬ small (tb (e + m)) = true := by simp [small]; omega
          rw [if_pos s2, if_neg hs]
          exact J hs
        · have hs : small (tb (e + m)) = true := by simp [small]; omega
          rw [if_neg s2, if_pos hs]
          obtain ⟨w', vR', e2, rw_, r9, r7, ro⟩ := c_takeLetters (w := w) (vR := upd (upd vR 8 (nI (e + m))) 9 (nI (e + m))) ht h6 q rfl rfl
          rw [e2, bdS]
          refine ⟨w', vR', rfl, ⟨?_, ?_, ?_, r9, fun q => rw_, fun q => ?_⟩, fun j q1 q2 q3 q4 => ?_⟩
          · rw [ro 6 (by omega) (by omega)]; exact h6
          · rw [r7]
            show _ = nI (ctok (if _ then 2 else 1))
            split <;> rfl
          · rw [ro 8 (by omega) (by omega)]; rfl
          · have q : (if runE small tb n (e + m) - (e + m) ≤ 8 then 2 else 1) = 3 := q
            split at q <;> omega
          · rw [ro j q1 q3]
            unfold upd
            rw [if_neg q3, if_neg q2]
    · rw [if_neg q, if_pos (show n ≤ e + m by omega), if_neg (show ¬ (0 : Int32) ≤ -1 by decide)]
      exact ⟨w, _, rfl, ⟨h6, rfl, rfl, rfl, fun q => (by cases q), fun q => (by cases q)⟩, fun j q1 q2 q3 q4 => by unfold upd; rw [if_neg q3, if_neg q2, if_neg q1]⟩
  obtain ⟨w', vR', ef, hf⟩ := fin
  refine Exists.elim (lp_inv (f := fX5_step_B5 w vR tc) (fun i s => s = nI (e + i)) (fun res => res = (w', vR')) m ?_ ?_ 5000 0 (nI e) (Nat.zero_le _) rfl (by omega)) (fun res hr => ?_)
  · rintro i s hi rfl
    left
    have hb := a2 i hi
    have hb : tb (e + i) = 32 := by simpa using hb
    simp (disch := omega) only [fX5_step_B5, h6, nI_leI, c_byteAt ht h6 (show e + i ≤ 900 by omega), bdS, nlit]
    rw [if_neg (by omega), if_pos (show e + i < n by omega), hb]
    simp only [↓reduceIte, nI_add]
    exact ⟨_, rfl, rfl⟩
  · rintro s rfl
    simp (disch := omega) only [fX5_step_B5, h6, nI_leI, c_byteAt ht h6 (show e + m ≤ 900 by omega), bdS, nlit, ef, exS]
    by_cases q : e + m < n
    · rw [if_neg (by omega), if_pos q]
      have := a3 q
      have hne : ¬ nI (tb (e + m)) = nI 32 := by
        have := (ht.2 (e + m) q).1
        rw [nI_eq (by omega) (by omega)]
        simpa using a3 q
      rw [if_neg hne]
      exact ⟨_, rfl, rfl⟩
    · rw [if_pos (by omega)]
      exact ⟨_, rfl, rfl⟩
  · exact ⟨w', vR', by rw [hr.1, hr.2], hf⟩
end LX
