/-! MATH 32: what a text says; the reference's pieces -/
abbrev PS := Tk × (Nat → Nat)
abbrev PS.t (S : PS) : Tk := S.1
abbrev PS.h (S : PS) : Nat → Nat := S.2
abbrev PR (α : Type) := Except (Nat × Nat) α
def setN (h : Nat → Nat) (k v : Nat) : Nat → Nat := fun j => if j = k then v else h j
def nmq (tb h : Nat → Nat) (t : Tk) (x : Nat) : Bool := decide (0 < h (125 + x)) && (h (125 + x) == t.en - t.at_) && (fnd (fun k => h (136 + 8 * x + k) != tb (t.at_ + k)) (t.en - t.at_)).isNone
def afind (tb h : Nat → Nat) (t : Tk) : Option Nat := fnd (nmq tb h t) 11
def isKey (tb : Nat → Nat) (t : Tk) : Bool := isW tb t 8 || isW tb t 18 || isW tb t 11 || isW tb t 6 || isW tb t 20 || isW tb t 21 || isW tb t 7 || isW tb t 10
def isNm (tb : Nat → Nat) (t : Tk) : Bool := t.k == 2 && !isKey tb t
def setName (tb h : Nat → Nat) (x : Nat) (t : Tk) : Nat → Nat := fun j => if j = 125 + x then t.en - t.at_ else if 136 + 8 * x ≤ j ∧ j < 136 + 8 * x + (t.en - t.at_) then tb (t.at_ + (j - (136 + 8 * x))) else h j
def nx (tb : Nat → Nat) (n : Nat) (S : PS) : PS := ⟨lex tb n S.t.en, S.h⟩
def aFail {α : Type} (S : PS) (f : Nat) : PR α := .error (f, S.t.at_)
def aMust (tb : Nat → Nat) (n w : Nat) (S : PS) : PR PS := if isW tb S.t w then .ok (nx tb n S) else aFail S 1
def aHere (lo hi : Nat) (S : PS) : PR Nat := if S.t.k = 3 then (if lo ≤ S.t.val ∧ S.t.val ≤ hi then .ok S.t.val else aFail S 4) else aFail S 1
def aNum (tb : Nat → Nat) (n lo hi : Nat) (S : PS) : PR (Nat × PS) := if S.t.k = 3 then (if lo ≤ S.t.val ∧ S.t.val ≤ hi then .ok (S.t.val, nx tb n S) else aFail S 4) else aFail S 1
def aNew (tb : Nat → Nat) (n x : Nat) (S : PS) : PR PS := if isNm tb S.t then (if (afind tb S.h S.t).isSome then aFail S 3 else .ok (nx tb n ⟨S.t, setName tb S.h x S.t⟩)) else aFail S 1
def aNamed (tb : Nat → Nat) (n lo hi : Nat) (S : PS) : PR (Nat × PS) := if isNm tb S.t then (match afind tb S.h S.t with
  | some k => if lo ≤ k ∧ k ≤ hi then .ok (k - lo, nx tb n S) else aFail S 2
  | none => aFail S 2) else aFail S 1
/-- where the reference stands, if nothing was wrong -/
def MS (tb : Nat → Nat) (n : Nat) (S : PS) (vM lt fr : Nat → Int32) : Prop := vM 13 = nI 0 ∧ vM 9 = nI 0 ∧ ML tb n S.t vM lt ∧ TkOk tb n S.t ∧ (∀ k, k < 224 → fr k = nI (S.h k)) ∧ ∀ k, k < 224 → S.h k < 1000
/-- if something was -/
def MF (e : Nat × Nat) (vM : Nat → Int32) : Prop := vM 13 = nI 1 ∧ vM 9 = nI e.1 ∧ vM 10 = nI e.2
/-- what reading leaves alone -/
def KM (vM vM' : Nat → Int32) : Prop := ∀ j, j ≠ 4 → j ≠ 5 → j ≠ 6 → j ≠ 7 → j ≠ 8 → j ≠ 9 → j ≠ 10 → j ≠ 13 → vM' j = vM j
theorem KM.refl (v : Nat → Int32) : KM v v := fun _ _ _ _ _ _ _ _ _ => rfl
theorem KM.trans {a b c : Nat → Int32} (h1 : KM a b) (h2 : KM b c) : KM a c := fun j q1 q2 q3 q4 q5 q6 q7 q8 => (h2 j q1 q2 q3 q4 q5 q6 q7 q8).trans (h1 j q1 q2 q3 q4 q5 q6 q7 q8)
section MP
variable {tb : Nat → Nat} {n : Nat} {tc tm vM lt fr : Nat → Int32} {S : PS}
theorem mf_ne (h : vM 13 = nI 1) : ¬ vM 13 = 0 := by rw [h]; decide
theorem m_wrong (h13 : vM 13 = nI 0) (f p : Nat) : ∃ v, fX9_wrong vM (nI f) (nI p) = some v ∧ MF (f, p) v ∧ KM vM v := by
  refine ⟨_, by unfold fX9_wrong; rw [if_pos (show vM 13 = 0 from h13)], ⟨rfl, rfl, rfl⟩, fun j q1 q2 q3 q4 q5 q6 q7 q8 => ?_⟩
  unfold upd
  rw [if_neg q8, if_neg q7, if_neg q6]
theorem m_wrong_f (h13 : vM 13 = nI 1) (f p : Int32) : fX9_wrong vM f p = some vM := by
  unfold fX9_wrong
  rw [if_neg (mf_ne h13)]
theorem m_must_f (h13 : vM 13 = nI 1) (w : Nat) : fX9_must vM lt tm w = some (vM, lt) := by
  unfold fX9_must
  rw [if_neg (mf_ne h13)]
  rfl
theorem m_here_f (h13 : vM 13 = nI 1) (a b : Int32) : fX9_numberHere vM a b = some (a, vM) := by
  unfold fX9_numberHere
  rw [if_neg (mf_ne h13)]
theorem m_number_f (h13 : vM 13 = nI 1) (a b : Int32) : fX9_number vM tm lt a b = some (a, vM, lt) := by
  unfold fX9_number
  rw [m_here_f h13, bdS]
  simp only
  rw [if_neg (mf_ne h13)]
  rfl
theorem m_after_f (h13 : vM 13 = nI 1) (w : Nat) (a b : Int32) : fX9_after vM lt tm w a b = some (a, vM, lt) := by
  unfold fX9_after
  rw [m_must_f h13, bdS]
  simp only
  rw [m_number_f h13, bdS]
theorem m_named_f (h13 : vM 13 = nI 1) (a b : Int32) : fX9_named vM lt fr tm a b = some (0, vM, lt) := by
  unfold fX9_named
  rw [if_neg (mf_ne h13)]
theorem m_ringName_f (h13 : vM 13 = nI 1) : fX9_ringName vM lt fr tm = some (0, vM, lt) := by
  unfold fX9_ringName
  rw [m_named_f h13, bdS]
theorem m_nx (ht : TPR tb n tc tm) (hs : MS tb n S vM lt fr) : ∃ vM' lt', fX9_next vM tm lt = some (vM', lt') ∧ MS tb n (nx tb n S) vM' lt' fr ∧ KM vM vM' := by
  obtain ⟨s13, s9, sl, so, sf, sb⟩ := hs
  obtain ⟨vM', lt', e, hl, ho⟩ := m_next (lt := lt) ht sl.1 so.2.1 sl.2.2.1
  exact ⟨vM', lt', e, ⟨by rw [ho 13 (by omega) (by omega) (by omega) (by omega) (by omega)]; exact s13, by rw [ho 9 (by omega) (by omega) (by omega) (by omega) (by omega)]; exact s9, hl, (lex_ok tb so.2.1).1, sf, sb⟩, fun j q1 q2 q3 q4 q5 q6 q7 q8 => ho j q1 q2 q3 q4 q5⟩
theorem m_isW (ht : TPR tb n tc tm) (hs : MS tb n S vM lt fr) {w : Nat} (hw : w < 22) : fX9_isWord vM lt w = some (nI (if isW tb S.t w then 1 else 0)) :=
  m_isWord hs.2.2.1 hs.2.2.2.1 ht.1 hs.1 hw (fun p hp => (ht.2 p hp).1)
def MR (tb : Nat → Nat) (n : Nat) (x : PR PS) (vM lt fr : Nat → Int32) : Prop := match x with
  | .ok S => MS tb n S vM lt fr
  | .error e => MF e vM
theorem m_must (ht : TPR tb n tc tm) (hs : MS tb n S vM lt fr) {w : Nat} (hw : w < 22) : ∃ vM' lt', fX9_must vM lt tm w = some (vM', lt') ∧ MR tb n (aMust tb n w S) vM' lt' fr ∧ KM vM vM' := by
  unfold fX9_must fX9_takesWord aMust
  rw [if_pos (show vM 13 = 0 from hs.1), m_isW ht hs hw, bdS]
  cases hq : isW tb S.t w with
  | false =>
    obtain ⟨v, e, hf, hk⟩ := m_wrong hs.1 1 S.t.at_
    have e4 : vM 4 = nI S.t.at_ := hs.2.2.1.2.1
    refine ⟨v, lt, ?_, hf, hk⟩
    simp only [Bool.false_eq_true, if_false, nlit, ↓reduceIte, bdS, e4, e]
    rfl
  | true =>
    obtain ⟨v, l, e, hf, hk⟩ := m_nx ht hs
    refine ⟨v, l, ?_, hf, hk⟩
    simp only [if_true, nlit, n10, if_false]
    rw [e, bdS, bdS]
    simp only [n10, if_false]
    rfl
theorem m_inR {v lo hi : Nat} (hv : v < 2000) (hlo : lo < 2000) (hhi : hi < 2000) : fX9_in (nI v) (nI lo) (nI hi) = some (nI (if lo ≤ v ∧ v ≤ hi then 1 else 0)) := by
  simp (disch := omega) only [fX9_in, fX9_in_J14, fX9_in_J15, nlit, nI_ltI]
  by_cases q1 : v < lo
  · rw [if_pos q1, if_neg (by omega)]; rfl
  · rw [if_neg q1]
    by_cases q2 : hi < v
    · rw [if_pos q2, if_neg (by omega)]; rfl
    · rw [if_neg q2, if_pos ⟨by omega, by omega⟩]; rfl
theorem m_here (hs : MS tb n S vM lt fr) {lo hi : Nat} (hlo : lo < 1000) (hhi : hi < 1000) : ∃ v vM', fX9_numberHere vM (nI lo) (nI hi) = some (v, vM') ∧ KM vM vM' ∧ ((∃ x, aHere lo hi S = .ok x ∧ v = nI x ∧ vM' = vM) ∨ ∃ e, aHere lo hi S = .error e ∧ MF e vM' ∧ v = nI lo) := by
  obtain ⟨s13, s9, sl, so, sf, sb⟩ := hs
  have e4 : vM 4 = nI S.t.at_ := sl.2.1
  have hmk : mtok S.t.k ≤ 59 := by have := so.2.2.1; unfold mtok; split <;> omega
  have bad : ∀ f, ∃ v, fX9_wrong vM (nI f) (nI S.t.at_) = some v ∧ MF (f, S.t.at_) v ∧ KM vM v ∧ fX9_numberHere_J50 (nI lo) v = some (nI lo, v) := fun f => by
    obtain ⟨v, e, hf, hk⟩ := m_wrong s13 f S.t.at_
    refine ⟨v, e, hf, hk, ?_⟩
    unfold fX9_numberHere_J50
    rw [if_neg (mf_ne hf.1)]
    rfl
  unfold fX9_numberHere aHere
  rw [if_pos (show vM 13 = 0 from s13), sl.2.2.2.1, e4]
  simp (disch := omega) only [nlit, nI_eq]
  by_cases k3 : S.t.k = 3
  · rw [if_pos (by rw [k3]; rfl), if_pos k3, sl.2.2.2.2.2 k3, m_inR (by have := so.2.2.2.2.2; omega) (by omega) (by omega), bdS]
    by_cases hin : lo ≤ S.t.val ∧ S.t.val ≤ hi
    · rw [if_pos hin, if_pos hin]
      simp only [n10, if_false]
      refine ⟨nI S.t.val, vM, ?_, KM.refl _, Or.inl ⟨_, rfl, rfl, rfl⟩⟩
      unfold fX9_numberHere_J50
      rw [if_pos (show vM 13 = 0 from s13), sl.2.2.2.2.2 k3]
      rfl
    · rw [if_neg hin, if_neg hin]
      obtain ⟨v, e, hf, hk, hJ⟩ := bad 4
      simp only [↓reduceIte]
      rw [e, bdS]
      exact ⟨nI lo, v, hJ, hk, Or.inr ⟨_, rfl, hf, rfl⟩⟩
  · have : ¬ mtok S.t.k = 3 := by unfold mtok; split <;> omega
    rw [if_neg this, if_neg k3]
    obtain ⟨v, e, hf, hk, hJ⟩ := bad 1
    rw [e, bdS]
    exact ⟨nI lo, v, hJ, hk, Or.inr ⟨_, rfl, hf, rfl⟩⟩
theorem aNum_eq (lo hi : Nat) (S : PS) : aNum tb n lo hi S = (aHere lo hi S).bind (fun v => .ok (v, nx tb n S)) := by
  unfold aNum aHere
  split
  · split <;> rfl
  · rfl
theorem m_number (ht : TPR tb n tc tm) (hs : MS tb n S vM lt fr) {lo hi : Nat} (hlo : lo < 1000) (hhi : hi < 1000) : ∃ v vM' lt', fX9_number vM tm lt (nI lo) (nI hi) = some (v, vM', lt') ∧ KM vM vM' ∧ ((∃ x S', aNum tb n lo hi S = .ok (x, S') ∧ v = nI x ∧ MS tb n S' vM' lt' fr) ∨ ∃ e, aNum tb n lo hi S = .error e ∧ MF e vM') := by
  obtain ⟨v, v1, e1, k1, q⟩ := m_here hs hlo hhi
  unfold fX9_number
  rw [e1, bdS, aNum_eq]
  simp only
  rcases q with ⟨x, ex, rfl, rfl⟩ | ⟨e, ee, hf, rfl⟩
  · obtain ⟨v2, l2, e2, s2, k2⟩ := m_nx ht hs
    rw [if_pos (show v1 13 = 0 from hs.1), e2, bdS, ex]
    exact ⟨nI x, v2, l2, rfl, k2, Or.inl ⟨x, _, rfl, rfl, s2⟩⟩
  · rw [if_neg (mf_ne hf.1), ee]
    exact ⟨nI lo, v1, lt, rfl, k1, Or.inr ⟨e, rfl, hf⟩⟩
/-- a word, and a number behind it -/
def aAfter (tb : Nat → Nat) (n w lo hi : Nat) (S : PS) : PR (Nat × PS) := (aMust tb n w S).bind (aNum tb n lo hi)
theorem m_after (ht : TPR tb n tc tm) (hs : MS tb n S vM lt fr) {w lo hi : Nat} (hw : w < 22) (hlo : lo < 1000) (hhi : hi < 1000) : ∃ v vM' lt', fX9_after vM lt tm w (nI lo) (nI hi) = some (v, vM', lt') ∧ KM vM vM' ∧ ((∃ x S', aAfter tb n w lo hi S = .ok (x, S') ∧ v = nI x ∧ MS tb n S' vM' lt' fr) ∨ ∃ e, aAfter tb n w lo hi S = .error e ∧ MF e vM') := by
  obtain ⟨v1, l1, e1, q1, k1⟩ := m_must ht hs hw
  unfold fX9_after aAfter
  rw [e1, bdS]
  simp only
  cases hx : aMust tb n w S with
  | error e =>
    rw [hx] at q1
    rw [m_number_f q1.1, bdS]
    exact ⟨nI lo, v1, l1, rfl, k1, Or.inr ⟨e, rfl, q1⟩⟩
  | ok S1 =>
    rw [hx] at q1
    obtain ⟨v, v2, l2, e2, k2, q⟩ := m_number ht q1 hlo hhi
    rw [e2, bdS]
    refine ⟨v, v2, l2, rfl, k1.trans k2, ?_⟩
    rcases q with ⟨x, S', ex, r⟩ | ⟨e, ee, hf⟩
    · exact Or.inl ⟨x, S', ex, r⟩
    · exact Or.inr ⟨e, ee, hf⟩
theorem m_find (ht : TPR tb n tc tm) (hs : MS tb n S vM lt fr) (k2 : S.t.k = 2) : fX9_find vM fr lt = some (match afind tb S.h S.t with | some k => nI k | none => -1) := by
  obtain ⟨s13, s9, sl, so, sf, sb⟩ := hs
  obtain ⟨p1, p2⟩ := so.2.2.2.2.1 k2
  have hpos := so.2.2.2.1 (by omega)
  have hen := so.2.1
  have hn := ht.1
  obtain ⟨r8, rl⟩ := sl.2.2.2.2.1 k2
  unfold fX9_find afind
  simp only [nlit]
  refine Exists.elim (lp_find (f := fX9_find_B2 vM fr lt) (nmq tb S.h S.t) 11 (fun i s => s = nI i) (fun o res => res = match o with | some k => nI k | none => -1) ?_ ?_ rfl (show 11 < 5000 by omega)) (fun res hr => ?_)
  · rintro x s hx rfl
    have hb := sb (125 + x) (by omega)
    -- not the same
    have no : fX9_find_J40 vM fr lt (nI x) = some (.inr (nI (x + 1))) := by
      unfold fX9_find_J40 fX9_find_J41
      rw [lp]
      simp (disch := omega) only [fX9_find_B44, fX9_find_J92, r8, nlit, nI_leI]
      rw [if_neg (by omega)]
      simp only [↓reduceIte, nI_add]
      rfl
    have yes : fX9_find_J41 vM fr lt (nI x) (nI 1) = some (if (fnd (fun k => S.h (136 + 8 * x + k) != tb (S.t.at_ + k)) (S.t.en - S.t.at_)).isNone then .inl (nI x) else .inr (nI (x + 1))) := by
      unfold fX9_find_J41
      simp only [nlit]
      have mono : ∀ i N u, i ≤ N → fnd (fun k => S.h (136 + 8 * x + k) != tb (S.t.at_ + k)) i = some u → fnd (fun k => S.h (136 + 8 * x + k) != tb (S.t.at_ + k)) N = some u := by
        intro i N u hi e
        obtain ⟨q1, q2, q3⟩ := fnd_some e
        exact fnd_eq (by omega) q2 q3
      refine Exists.elim (lp_inv (f := fX9_find_B44 vM fr lt (nI x)) (fun i s => s = (nI (if (fnd (fun k => S.h (136 + 8 * x + k) != tb (S.t.at_ + k)) i).isNone then 1 else 0), nI i)) (fun res => res = if (fnd (fun k => S.h (136 + 8 * x + k) != tb (S.t.at_ + k)) (S.t.en - S.t.at_)).isNone then .inl (nI x) else .inr (nI (x + 1))) (S.t.en - S.t.at_) ?_ ?_ 5000 0 (nI 1, nI 0) (Nat.zero_le _) rfl (by omega)) (fun res hr => ?_)
      · rintro i s hi rfl
        have hb2 := sb (136 + 8 * x + i) (by omega)
        have hlt := (ht.2 (S.t.at_ + i) (by omega)).1
        simp (disch := omega) only [fX9_find_B44, fX9_find_J92, fX9_find_J85, r8, nlit, nI_leI, pk_mul, nI_add, ok_nI, gdT, nI_clamp, sf, rl i hi, nI_eq]
        rw [if_neg (by omega)]
        cases hf : fnd (fun k => S.h (136 + 8 * x + k) != tb (S.t.at_ + k)) i with
        | some u =>
          right
          rw [mono i _ u (by omega) hf]
          exact ⟨_, rfl, rfl⟩
        | none =>
          left
          rw [fnd_s, hf]
          simp only [Option.isNone_none, if_true, n10, if_false]
          by_cases qe : S.h (136 + 8 * x + i) = tb (S.t.at_ + i)
          · rw [if_pos qe]
            exact ⟨_, rfl, by simp [qe]⟩
          · rw [if_neg qe]
            exact ⟨_, rfl, by simp [qe]⟩
      · rintro s rfl
        simp (disch := omega) only [fX9_find_B44, fX9_find_J92, r8, nlit, nI_leI, nI_add]
        rw [if_pos (Nat.le_refl _)]
        cases (fnd (fun k => S.h (136 + 8 * x + k) != tb (S.t.at_ + k)) (S.t.en - S.t.at_)).isNone with
        | false => exact ⟨_, rfl, rfl⟩
        | true =>
          simp only [if_true, n10, if_false, exS]
          exact ⟨_, rfl, rfl⟩
      · rw [hr.1, hr.2]
    simp (disch := omega) only [fX9_find_B2, nlit, nI_leI, nI_add, ok_nI, gdT, nI_clamp, sf, r8, nI_eq, no, yes]
    rw [if_neg (by omega)]
    unfold nmq
    by_cases z : S.h (125 + x) ≤ 0
    · rw [if_pos z]
      have : ¬ 0 < S.h (125 + x) := by omega
      exact ⟨fun _ => ⟨_, rfl, rfl⟩, fun e => by simp [this] at e⟩
    · rw [if_neg z]
      have z' : 0 < S.h (125 + x) := by omega
      by_cases y : S.h (125 + x) = S.t.en - S.t.at_
      · rw [if_pos y]
        cases hq : (fnd (fun k => S.h (136 + 8 * x + k) != tb (S.t.at_ + k)) (S.t.en - S.t.at_)).isNone with
        | false => exact ⟨fun _ => ⟨_, rfl, rfl⟩, fun e => by simp at e⟩
        | true =>
          refine ⟨fun e => ?_, fun _ => ⟨_, rfl, rfl⟩⟩
          rw [y] at e
          have : 0 < S.t.en - S.t.at_ := by omega
          simp at e
          omega
      · rw [if_neg y]
        exact ⟨fun _ => ⟨_, rfl, rfl⟩, fun e => by simp [y] at e⟩
  · rintro s rfl
    simp (disch := omega) only [fX9_find_B2, nlit, nI_leI, exS]
    rw [if_pos (by omega)]
    exact ⟨_, rfl, rfl⟩
  · rw [hr.1, hr.2]
    rfl
theorem m_mustName (ht : TPR tb n tc tm) (hs : MS tb n S vM lt fr) : ∃ vM', fX9_mustName vM lt = some vM' ∧ KM vM vM' ∧ ((isNm tb S.t = true ∧ vM' = vM ∧ S.t.k = 2) ∨ (isNm tb S.t = false ∧ MF (1, S.t.at_) vM')) := by
  have sl := hs.2.2.1
  have e4 : vM 4 = nI S.t.at_ := sl.2.1
  have hmk : mtok S.t.k ≤ 59 := by have := hs.2.2.2.1.2.2.1; unfold mtok; split <;> omega
  obtain ⟨v, e, hf, hk⟩ := m_wrong hs.1 1 S.t.at_
  have bad : fX9_mustName_J80 vM = some v := by
    unfold fX9_mustName_J80
    rw [e4, nlit, e, bdS]
    rfl
  unfold fX9_mustName
  rw [sl.2.2.2.1]
  by_cases k2 : S.t.k = 2
  · rw [if_pos (show nI (mtok S.t.k) = 2 by rw [k2]; rfl)]
    have tt : ∀ {x : Option (Nat → Int32)}, (if nI (if true = true then 1 else 0) = 0 then x else fX9_mustName_J80 vM) = some v := fun {x} => (if_neg (show ¬ nI (if true = true then 1 else 0) = 0 by decide)).trans bad
    have ff : ∀ {x y : Option (Nat → Int32)}, (if nI (if false = true then 1 else 0) = 0 then x else y) = x := fun {x y} => if_pos rfl
    rw [m_isW ht hs (show 8 < 22 by omega), bdS]
    cases h0 : isW tb S.t 8 with
    | true => exact ⟨v, tt, hk, Or.inr ⟨by unfold isNm isKey; simp [h0], hf⟩⟩
    | false =>
      rw [ff]
      rw [m_isW ht hs (show 18 < 22 by omega), bdS]
      cases h1 : isW tb S.t 18 with
      | true => exact ⟨v, tt, hk, Or.inr ⟨by unfold isNm isKey; simp [h1], hf⟩⟩
      | false =>
        rw [ff]
        rw [m_isW ht hs (show 11 < 22 by omega), bdS]
        cases h2 : isW tb S.t 11 with
        | true => exact ⟨v, tt, hk, Or.inr ⟨by unfold isNm isKey; simp [h2], hf⟩⟩
        | false =>
          rw [ff]
          rw [m_isW ht hs (show 6 < 22 by omega), bdS]
          cases h3 : isW tb S.t 6 with
          | true => exact ⟨v, tt, hk, Or.inr ⟨by unfold isNm isKey; simp [h3], hf⟩⟩
          | false =>
            rw [ff]
            rw [m_isW ht hs (show 20 < 22 by omega), bdS]
            cases h4 : isW tb S.t 20 with
            | true => exact ⟨v, tt, hk, Or.inr ⟨by unfold isNm isKey; simp [h4], hf⟩⟩
            | false =>
              rw [ff]
              rw [m_isW ht hs (show 21 < 22 by omega), bdS]
              cases h5 : isW tb S.t 21 with
              | true => exact ⟨v, tt, hk, Or.inr ⟨by unfold isNm isKey; simp [h5], hf⟩⟩
              | false =>
                rw [ff]
                rw [m_isW ht hs (show 7 < 22 by omega), bdS]
                cases h6 : isW tb S.t 7 with
                | true => exact ⟨v, tt, hk, Or.inr ⟨by unfold isNm isKey; simp [h6], hf⟩⟩
                | false =>
                  rw [ff]
                  rw [m_isW ht hs (show 10 < 22 by omega), bdS]
                  cases h7 : isW tb S.t 10 with
                  | true => exact ⟨v, tt, hk, Or.inr ⟨by unfold isNm isKey; simp [h7], hf⟩⟩
                  | false =>
                    rw [ff]
                    exact ⟨vM, rfl, KM.refl _, Or.inl ⟨by unfold isNm isKey; simp [k2, h0, h1, h2, h3, h4, h5, h6, h7], rfl, k2⟩⟩
  · have : ¬ nI (mtok S.t.k) = 2 := by
      rw [show (2 : Int32) = nI 2 from rfl, nI_eq (by omega) (by omega)]
      unfold mtok
      split <;> omega
    rw [if_neg this]
    exact ⟨v, bad, hk, Or.inr ⟨by unfold isNm; simp [k2], hf⟩⟩
theorem m_named (ht : TPR tb n tc tm) (hs : MS tb n S vM lt fr) {lo hi : Nat} (hlo : lo ≤ 10) (hhi : hi ≤ 10) : ∃ v vM' lt', fX9_named vM lt fr tm (nI lo) (nI hi) = some (v, vM', lt') ∧ KM vM vM' ∧ ((∃ x S', aNamed tb n lo hi S = .ok (x, S') ∧ v = nI x ∧ MS tb n S' vM' lt' fr) ∨ ∃ e, aNamed tb n lo hi S = .error e ∧ MF e vM' ∧ v = nI 0) := by
  obtain ⟨v1, e1, k1, q1⟩ := m_mustName ht hs
  unfold fX9_named aNamed
  rw [if_pos (show vM 13 = 0 from hs.1), e1, bdS]
  rcases q1 with ⟨hN, rfl, k2⟩ | ⟨hN, hf⟩
  · rw [if_pos (show v1 13 = 0 from hs.1), m_find ht hs k2, bdS, hN]
    simp only [if_true]
    have bad : ∃ v, fX9_wrong v1 (nI 2) (nI S.t.at_) = some v ∧ MF (2, S.t.at_) v ∧ KM v1 v ∧ ∀ a b, fX9_named_J45 lt tm a b v = some (nI 0, v, lt) := by
      obtain ⟨v, e, hf, hk⟩ := m_wrong hs.1 2 S.t.at_
      refine ⟨v, e, hf, hk, fun a b => ?_⟩
      unfold fX9_named_J45
      rw [if_neg (mf_ne hf.1)]
      rfl
    have e4 : v1 4 = nI S.t.at_ := hs.2.2.1.2.1
    obtain ⟨v, eb, hf, hk, hJ⟩ := bad
    cases hfd : afind tb S.h S.t with
    | none =>
      have hin : fX9_in (-nI 1) (nI lo) (nI hi) = some (nI 0) := by
        unfold fX9_in
        have q : -nI 1 < nI lo := by
          show (-1 : Int32) < nI lo
          rw [Int32.lt_iff_toInt_lt, nI_toInt (by omega)]
          have : (-1 : Int32).toInt = -1 := by decide
          omega
        rw [if_pos q]
        rfl
      simp only [hin, bdS, nlit, ↓reduceIte, e4, eb, hJ]
      exact ⟨nI 0, v, lt, rfl, hk, Or.inr ⟨_, rfl, hf, rfl⟩⟩
    | some k =>
      have hk11 : k < 11 := (fnd_some hfd).1
      simp only
      rw [m_inR (by omega) (by omega) (by omega), bdS]
      by_cases hin : lo ≤ k ∧ k ≤ hi
      · rw [if_pos hin, if_pos hin]
        simp only [nlit, n10, if_false]
        obtain ⟨v2, l2, e2, s2, kk2⟩ := m_nx ht hs
        unfold fX9_named_J45
        rw [if_pos (show v1 13 = 0 from hs.1), e2, bdS, pk_sub hin.1]
        exact ⟨_, v2, l2, rfl, kk2, Or.inl ⟨k - lo, _, rfl, rfl, s2⟩⟩
      · rw [if_neg hin, if_neg hin]
        simp only [nlit, ↓reduceIte, e4, eb, bdS, hJ]
        exact ⟨nI 0, v, lt, rfl, hk, Or.inr ⟨_, rfl, hf, rfl⟩⟩
  · rw [if_neg (mf_ne hf.1), hN]
    exact ⟨0, v1, lt, rfl, k1, Or.inr ⟨_, rfl, hf, rfl⟩⟩
theorem m_ringName (ht : TPR tb n tc tm) (hs : MS tb n S vM lt fr) : ∃ v vM' lt', fX9_ringName vM lt fr tm = some (v, vM', lt') ∧ KM vM vM' ∧ ((∃ x S', aNamed tb n 0 3 S = .ok (x, S') ∧ v = nI x ∧ MS tb n S' vM' lt' fr) ∨ ∃ e, aNamed tb n 0 3 S = .error e ∧ MF e vM' ∧ v = nI 0) := by
  obtain ⟨v, vM', lt', e, q⟩ := m_named ht hs (lo := 0) (hi := 3) (by omega) (by omega)
  refine ⟨v, vM', lt', ?_, q⟩
  unfold fX9_ringName
  simp only [nlit]
  rw [e, bdS]
theorem m_newName (ht : TPR tb n tc tm) (hs : MS tb n S vM lt fr) {x : Nat} (hx : x < 11) : ∃ vM' lt' fr', fX9_newName vM lt fr tm (nI x) = some (vM', lt', fr') ∧ KM vM vM' ∧ MR tb n (aNew tb n x S) vM' lt' fr' := by
  obtain ⟨v1, e1, k1, q1⟩ := m_mustName ht hs
  unfold fX9_newName aNew
  rw [if_pos (show vM 13 = 0 from hs.1), e1, bdS]
  rcases q1 with ⟨hN, rfl, k2⟩ | ⟨hN, hf⟩
  · rw [if_pos (show v1 13 = 0 from hs.1), m_find ht hs k2, bdS, hN]
    simp only [if_true]
    have e4 : v1 4 = nI S.t.at_ := hs.2.2.1.2.1
    cases hfd : afind tb S.h S.t with
    | some k =>
      have hk11 : k < 11 := (fnd_some hfd).1
      obtain ⟨v, eb, hf, hk⟩ := m_wrong hs.1 3 S.t.at_
      simp (disch := omega) only [nlit, nI_ltI, e4, eb, bdS]
      rw [if_neg (by omega)]
      unfold fX9_newName_J35
      rw [if_neg (mf_ne hf.1)]
      exact ⟨v, lt, fr, rfl, hk, hf⟩
    | none =>
      simp only
      rw [if_pos (show (-1 : Int32) < 0 by decide)]
      unfold fX9_newName_J35
      rw [if_pos (show v1 13 = 0 from hs.1)]
      obtain ⟨s13, s9, sl, so, sf, sb⟩ := hs
      obtain ⟨p1, p2⟩ := so.2.2.2.2.1 k2
      have hpos := so.2.2.2.1 (by omega)
      have hen := so.2.1
      have hn := ht.1
      obtain ⟨r8, rl⟩ := sl.2.2.2.2.1 k2
      simp only [nlit]
      refine Exists.elim (lp_inv (f := fX9_newName_B45 lt tm (nI x)) (fun i s => ∃ f, s = (nI i, f, v1) ∧ ∀ j, j < 224 → f j = nI (if 136 + 8 * x ≤ j ∧ j < 136 + 8 * x + i then tb (S.t.at_ + (j - (136 + 8 * x))) else S.h j)) (fun res => ∃ vM' lt' fr', res = (vM', lt', fr') ∧ KM v1 vM' ∧ MS tb n (nx tb n ⟨S.t, setName tb S.h x S.t⟩) vM' lt' fr') (S.t.en - S.t.at_) ?_ ?_ 5000 0 (nI 0, fr, v1) (Nat.zero_le _) ⟨fr, rfl, fun j hj => by rw [if_neg (by omega)]; exact sf j hj⟩ (by omega)) (fun res hr => ?_)
      · rintro i s hi ⟨f, rfl, hf⟩
        left
        simp (disch := omega) only [fX9_newName_B45, r8, nlit, nI_leI, ok_nI, gdT, nI_clamp, rl i hi, pk_mul, nI_add]
        rw [if_neg (by omega)]
        refine ⟨_, rfl, _, rfl, fun j hj => ?_⟩
        unfold upd
        by_cases ej : j = 136 + 8 * x + i
        · rw [if_pos ej, if_pos (by omega)]
          congr 2
          omega
        · rw [if_neg ej, hf j hj]
          congr 1
          by_cases q : 136 + 8 * x ≤ j ∧ j < 136 + 8 * x + i
          · rw [if_pos q, if_pos (by omega)]
          · rw [if_neg q, if_neg (by omega)]
      · rintro s ⟨f, rfl, hf⟩
        have hf2 : ∀ k, k < 224 → upd f (125 + x) (nI (S.t.en - S.t.at_)) k = nI (setName tb S.h x S.t k) := by
          intro k hk
          unfold upd setName
          by_cases ek : k = 125 + x
          · rw [if_pos ek, if_pos ek]
          · rw [if_neg ek, if_neg ek, hf k hk]
        have hb2 : ∀ k, k < 224 → setName tb S.h x S.t k < 1000 := by
          intro k hk
          unfold setName
          split
          · omega
          · split
            · rename_i q
              have := (ht.2 (S.t.at_ + (k - (136 + 8 * x))) (by omega)).1
              omega
            · exact sb k hk
        obtain ⟨v2, l2, e2, s2, kk2⟩ := m_nx (S := ⟨S.t, setName tb S.h x S.t⟩) (fr := upd f (125 + x) (nI (S.t.en - S.t.at_))) ht ⟨s13, s9, sl, so, hf2, hb2⟩
        simp (disch := omega) only [fX9_newName_B45, r8, nlit, nI_leI, ok_nI, gdT, nI_clamp, nI_add, e2, bdS, exS]
        rw [if_pos (Nat.le_refl _)]
        exact ⟨_, rfl, v2, l2, _, rfl, kk2, s2⟩
      · obtain ⟨e, vM', lt', fr', hr, q1, q2⟩ := hr
        exact ⟨vM', lt', fr', e.trans (congrArg some hr), q1, q2⟩
  · rw [if_neg (mf_ne hf.1), hN]
    unfold fX9_newName_J35
    rw [if_neg (mf_ne hf.1)]
    exact ⟨v1, lt, fr, rfl, k1, hf⟩
end MP
