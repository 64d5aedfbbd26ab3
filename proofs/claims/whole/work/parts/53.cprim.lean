/-! MATH 33: reading, the class's pieces -/
/-- as nlit, but with a proof: so that a test's decision is found anew -/
theorem nlq (n : Nat) : (OfNat.ofNat n : Int32) = nI n := (nlit n).trans (Eq.refl (nI n))
def enc (h : Nat → Nat) (x : Nat) : Nat := encp (fun i => h (136 + 8 * x + i)) (h (125 + x))
def tenc (tb : Nat → Nat) (t : Tk) : Nat := encp (fun i => tb (t.at_ + i)) (t.en - t.at_)
def nmOk (h : Nat → Nat) (x : Nat) : Prop := h (125 + x) ≤ 8 ∧ ∀ i, i < h (125 + x) → small (h (136 + 8 * x + i)) = true
/-- the names told: m of things -/
def NMS (h : Nat → Nat) (m : Nat) : Prop := h 2 ≤ 4 ∧ m ≤ 7 ∧ (∀ x, x < 11 → nmOk h x) ∧ (∀ x, x < h 2 → 0 < h (125 + x)) ∧ (∀ x, h 2 ≤ x → x < 4 → h (125 + x) = 0) ∧ (∀ x, x < m → 0 < h (125 + (4 + x))) ∧ (∀ x, m ≤ x → x < 7 → h (125 + (4 + x)) = 0) ∧ ∀ x y, x < 11 → y < 11 → 0 < h (125 + x) → 0 < h (125 + y) → enc h x = enc h y → x = y
theorem enc_lt {h : Nat → Nat} {x : Nat} (hn : nmOk h x) : enc h x < 2 ^ 40 := by
  have h1 := encp_lt (f := fun i => h (136 + 8 * x + i)) (a := h (125 + x)) hn.2
  have h2 : 32 ^ h (125 + x) ≤ 32 ^ 8 := Nat.pow_le_pow_right (by omega) hn.1
  have h3 : (32 : Nat) ^ 8 = 2 ^ 40 := by decide
  unfold enc
  omega
theorem tenc_lt {tb : Nat → Nat} {n : Nat} {t : Tk} (ht : TkOk tb n t) (k2 : t.k = 2) : tenc tb t < 2 ^ 40 := by
  obtain ⟨p1, p2⟩ := ht.2.2.2.2.1 k2
  have h1 := encp_lt (f := fun i => tb (t.at_ + i)) (a := t.en - t.at_) p2
  have h2 : 32 ^ (t.en - t.at_) ≤ 32 ^ 8 := Nat.pow_le_pow_right (by omega) p1
  have h3 : (32 : Nat) ^ 8 = 2 ^ 40 := by decide
  unfold tenc
  omega
theorem nmq_enc {tb h : Nat → Nat} {n : Nat} {t : Tk} {x : Nat} (hx : 0 < h (125 + x)) (hn : nmOk h x) (ht : TkOk tb n t) (k2 : t.k = 2) : nmq tb h t x = true ↔ enc h x = tenc tb t := by
  obtain ⟨p1, p2⟩ := ht.2.2.2.2.1 k2
  unfold nmq enc tenc
  constructor
  · intro e
    simp only [Bool.and_eq_true, decide_eq_true_eq, beq_iff_eq, Option.isNone_iff_eq_none] at e
    obtain ⟨⟨-, e1⟩, e2⟩ := e
    rw [e1]
    refine encp_ext (fun i hi => ?_)
    have := fnd_none e2 i hi
    simpa using this
  · intro e
    obtain ⟨e1, e2⟩ := encp_inj hn.2 p2 e
    simp only [Bool.and_eq_true, decide_eq_true_eq, beq_iff_eq, Option.isNone_iff_eq_none]
    refine ⟨⟨hx, e1⟩, fnd_no (fun i hi => ?_)⟩
    have := e2 i (by omega)
    simpa using this
theorem nmq_0 {tb h : Nat → Nat} {t : Tk} {x : Nat} (hx : h (125 + x) = 0) : nmq tb h t x = false := by
  unfold nmq
  rw [hx]
  rfl
theorem i64_inj {a b : Nat} (ha : a < 2 ^ 40) (hb : b < 2 ^ 40) (e : Int64.ofNat a = Int64.ofNat b) : a = b := by
  have h1 : (Int64.ofNat a).toInt = (a : Int) := Int64.toInt_ofNat_of_lt (by omega)
  have h2 : (Int64.ofNat b).toInt = (b : Int) := Int64.toInt_ofNat_of_lt (by omega)
  have := congrArg Int64.toInt e
  omega
theorem c_placeOfName {N m : Nat} {p : Nat → Int64} {e : Nat → Nat} {v : Nat} (hN : N ≤ 7) (hm : m ≤ N) (hp : ∀ x, x < m → p x = Int64.ofNat (e x)) (he : ∀ x, x < m → e x < 2 ^ 40) (hv : v < 2 ^ 40) : fX5_placeOfName N p (Int64.ofNat v) (nI m) = some (match fnd (fun x => e x == v) m with | some k => nI k | none => -1) := by
  unfold fX5_placeOfName
  simp only [nlit]
  refine Exists.elim (lp_find (f := fX5_placeOfName_B3 N p (Int64.ofNat v) (nI m)) (fun x => e x == v) m (fun i s => s = nI i) (fun o res => res = match o with | some k => nI k | none => -1) ?_ ?_ rfl (show m < 5000 by omega)) (fun res hr => ?_)
  · rintro i s hi rfl
    simp (disch := omega) only [fX5_placeOfName_B3, nlit, nI_leI, ok_nI, gdT, nI_clamp, hp i hi, nI_add]
    rw [if_neg (by omega), if_neg (by omega)]
    by_cases q : e i = v
    · rw [if_pos (show lg_cmp (Int64.ofNat (e i)) (Int64.ofNat v) = nI 0 from (lg_cmp_eq _ _).mpr (by rw [q]))]
      refine ⟨fun h => ?_, fun _ => ⟨_, rfl, rfl⟩⟩
      simp [q] at h
    · rw [if_neg (show ¬ lg_cmp (Int64.ofNat (e i)) (Int64.ofNat v) = nI 0 from fun h => q (i64_inj (he i hi) hv ((lg_cmp_eq _ _).mp h)))]
      refine ⟨fun _ => ⟨_, rfl, rfl⟩, fun h => ?_⟩
      simp [q] at h
  · rintro s rfl
    simp (disch := omega) only [fX5_placeOfName_B3, fX5_placeOfName_J34, nlit, nI_leI, exS]
    rw [if_pos (Nat.le_refl _)]
    exact ⟨_, rfl, rfl⟩
  · rw [hr.1, hr.2]
    rfl
def CS0 (tb : Nat → Nat) (n : Nat) (t : Tk) (vR : Nat → Int32) (j : Int64) : Prop := CL tb n t vR j ∧ TkOk tb n t ∧ vR 12 = nI 0
def CF (e : Nat × Nat) (vR : Nat → Int32) : Prop := vR 12 = nI e.1 ∧ vR 8 = nI e.2
def KC (vR vR' : Nat → Int32) : Prop := ∀ j, j ≠ 7 → j ≠ 8 → j ≠ 9 → j ≠ 10 → j ≠ 12 → vR' j = vR j
theorem KC.refl (v : Nat → Int32) : KC v v := fun _ _ _ _ _ _ => rfl
theorem KC.trans {a b c : Nat → Int32} (h1 : KC a b) (h2 : KC b c) : KC a c := fun j q1 q2 q3 q4 q5 => (h2 j q1 q2 q3 q4 q5).trans (h1 j q1 q2 q3 q4 q5)
section CP
variable {tb : Nat → Nat} {n : Nat} {tc tm vR : Nat → Int32} {j : Int64} {S : PS}
theorem c_fails (hs : CS0 tb n S.t vR j) (f : Nat) : ∃ v, fX5_fails j vR (nI f) = some (nI 0, v) ∧ CF (f, S.t.at_) v ∧ KC vR v := by
  refine ⟨_, rfl, ⟨rfl, ?_⟩, fun k q1 q2 q3 q4 q5 => ?_⟩
  · show upd vR 12 (nI f) 8 = _
    unfold upd
    rw [if_neg (by omega)]
    exact hs.1.2.2.1
  · unfold upd
    rw [if_neg q5]
theorem c_st (ht : TPR tb n tc tm) (hs : CS0 tb n S.t vR j) : ∃ j' vR', fX5_step j vR tc = some (j', vR') ∧ CS0 tb n (nx tb n S).t vR' j' ∧ KC vR vR' := by
  obtain ⟨j', v', e, hl, hk⟩ := c_step (w := j) ht hs.1.1 hs.2.1.2.1 hs.1.2.2.2.1
  exact ⟨j', v', e, ⟨hl, (lex_ok tb hs.2.1.2.1).1, by rw [hk 12 (by omega) (by omega) (by omega) (by omega)]; exact hs.2.2⟩, fun k q1 q2 q3 q4 _ => hk k q1 q2 q3 q4⟩
theorem c_passes (ht : TPR tb n tc tm) (hs : CS0 tb n S.t vR j) {w : Nat} (hw : w < 22) : ∃ r j' vR', fX5_passes j vR tc w = some (r, j', vR') ∧ KC vR vR' ∧ ((aMust tb n w S = .ok (nx tb n S) ∧ r = nI 1 ∧ CS0 tb n (nx tb n S).t vR' j') ∨ ∃ e, aMust tb n w S = .error e ∧ r = nI 0 ∧ CF e vR') := by
  unfold fX5_passes aMust
  rw [c_says ht hs.1 hs.2.1 hw, bdS]
  cases hq : isW tb S.t w with
  | false =>
    obtain ⟨v, e, hf, hk⟩ := c_fails hs 1
    refine ⟨nI 0, j, v, ?_, hk, Or.inr ⟨_, rfl, rfl, hf⟩⟩
    simp only [Bool.false_eq_true, if_false, nlit, ↓reduceIte, e, bdS]
    rfl
  | true =>
    obtain ⟨j', v, e, hf, hk⟩ := c_st ht hs
    refine ⟨nI 1, j', v, ?_, hk, Or.inl ⟨rfl, rfl, hf⟩⟩
    simp only [if_true, nlit, n10, if_false]
    rw [e, bdS]
theorem ctok_2 {k : Nat} (hk : k ≤ 4) : ctok k = 2 ↔ k = 3 := by
  unfold ctok
  split
  · omega
  · split <;> omega
theorem ctok_1 {k : Nat} (hk : k ≤ 4) : ctok k = 1 ↔ k = 2 := by
  unfold ctok
  split
  · omega
  · split <;> omega
theorem ctok_le {k : Nat} (hk : k ≤ 4) : ctok k ≤ 4 := by
  unfold ctok
  split
  · omega
  · split <;> omega
theorem c_isWhole (hs : CS0 tb n S.t vR j) {lo hi : Nat} (hlo : lo < 1000) (hhi : hi < 1000) : ∃ r vR', fX5_isWhole j vR (nI lo) (nI hi) = some (r, vR') ∧ KC vR vR' ∧ ((∃ x, aHere lo hi S = .ok x ∧ r = nI 1 ∧ vR' = vR ∧ vR 10 = nI x ∧ lo ≤ x ∧ x ≤ hi) ∨ ∃ e, aHere lo hi S = .error e ∧ r = nI 0 ∧ CF e vR') := by
  have hk4 := hs.2.1.2.2.1
  have e7 : vR 7 = nI (ctok S.t.k) := hs.1.2.1
  have hc4 := ctok_le hk4
  have bad : fX5_isWhole_J30 j vR = some (nI 0, upd vR 12 (nI 4)) := rfl
  have good : fX5_isWhole_J38 vR = some (nI 1, vR) := rfl
  unfold fX5_isWhole aHere
  rw [e7]
  simp (disch := omega) only [nlit, nI_eq]
  by_cases k3 : S.t.k = 3
  · rw [if_pos ((ctok_2 hk4).mpr k3), if_pos k3, hs.1.2.2.2.2.2 k3]
    have hv := hs.2.1.2.2.2.2.2
    simp (disch := omega) only [nI_ltI, nI_leI]
    obtain ⟨v, e, hf, hk⟩ := c_fails hs 4
    obtain rfl : upd vR 12 (nI 4) = v := by cases e; rfl
    by_cases q1 : S.t.val < lo
    · rw [if_pos q1, bad, if_neg (by omega)]
      exact ⟨_, _, rfl, hk, Or.inr ⟨_, rfl, rfl, hf⟩⟩
    · rw [if_neg q1]
      by_cases q2 : S.t.val ≤ hi
      · rw [if_pos q2, good, if_pos ⟨by omega, q2⟩]
        exact ⟨_, _, rfl, KC.refl _, Or.inl ⟨_, rfl, rfl, rfl, rfl, by omega, q2⟩⟩
      · rw [if_neg q2, bad, if_neg (by omega)]
        exact ⟨_, _, rfl, hk, Or.inr ⟨_, rfl, rfl, hf⟩⟩
  · rw [if_neg (fun q => k3 ((ctok_2 hk4).mp q)), if_neg k3]
    obtain ⟨v, e, hf, hk⟩ := c_fails hs 1
    rw [e, bdS]
    exact ⟨_, v, rfl, hk, Or.inr ⟨_, rfl, rfl, hf⟩⟩
theorem c_takeWhole (ht : TPR tb n tc tm) (hs : CS0 tb n S.t vR j) {lo hi : Nat} (hlo : lo < 1000) (hhi : hi < 1000) : ∃ r j' vR', fX5_takeWhole j vR tc (nI lo) (nI hi) = some (r, j', vR') ∧ KC vR vR' ∧ ((∃ x, aNum tb n lo hi S = .ok (x, nx tb n S) ∧ r = nI x ∧ CS0 tb n (nx tb n S).t vR' j' ∧ lo ≤ x ∧ x ≤ hi) ∨ ∃ e, aNum tb n lo hi S = .error e ∧ r = -1 ∧ CF e vR') := by
  obtain ⟨r, v, e, hk, q⟩ := c_isWhole (j := j) hs hlo hhi
  unfold fX5_takeWhole
  rw [e, bdS, aNum_eq]
  simp only
  rcases q with ⟨x, ex, rfl, rfl, e10, b1, b2⟩ | ⟨e', ee, rfl, hf⟩
  · obtain ⟨j', v', e2, s2, k2⟩ := c_st ht hs
    simp only [nlit, n10, if_false]
    rw [e2, bdS, ex]
    exact ⟨_, j', v', rfl, k2, Or.inl ⟨x, rfl, e10, s2, b1, b2⟩⟩
  · rw [if_pos (show nI 0 = 0 from rfl), ee]
    exact ⟨_, j, v, rfl, hk, Or.inr ⟨e', rfl, rfl, hf⟩⟩
theorem c_isName (ht : TPR tb n tc tm) (hs : CS0 tb n S.t vR j) : fX5_isName j vR tc = some (nI (if isNm tb S.t then 1 else 0)) := by
  have hk4 := hs.2.1.2.2.1
  have e7 : vR 7 = nI (ctok S.t.k) := hs.1.2.1
  have hc4 := ctok_le hk4
  have tt : ∀ {x y : Option Int32}, (if nI (if true = true then 1 else 0) = 0 then x else y) = y := fun {x y} => if_neg (show ¬ nI (if true = true then 1 else 0) = 0 by decide)
  have ff : ∀ {x y : Option Int32}, (if nI (if false = true then 1 else 0) = 0 then x else y) = x := fun {x y} => if_pos rfl
  have J83 : ∀ a b : Bool, fX5_isName_J83 vR (nI (if a then 1 else 0)) (nI (if b then 1 else 0)) = some (nI (if S.t.k == 2 && !a && !b then 1 else 0)) := by
    intro a b
    unfold fX5_isName_J83
    rw [e7]
    simp (disch := omega) only [nlit, nI_eq]
    by_cases k2 : S.t.k = 2
    · rw [if_pos ((ctok_1 hk4).mpr k2)]
      cases a <;> cases b <;> simp [k2] <;> rfl
    · rw [if_neg (fun q => k2 ((ctok_1 hk4).mp q))]
      simp [k2]
      rfl
  have J41 : ∀ a : Bool, fX5_isName_J41 j vR tc (nI (if a then 1 else 0)) = some (nI (if S.t.k == 2 && !a && !(isW tb S.t 20 || isW tb S.t 21 || isW tb S.t 7 || isW tb S.t 10) then 1 else 0)) := by
    intro a
    have hT : fX5_isName_J78 vR (nI (if a then 1 else 0)) = some (nI (if S.t.k == 2 && !a && !true then 1 else 0)) := J83 a true
    unfold fX5_isName_J41
    rw [c_says ht hs.1 hs.2.1 (show 20 < 22 by omega), bdS, c_says ht hs.1 hs.2.1 (show 21 < 22 by omega), bdS, c_says ht hs.1 hs.2.1 (show 7 < 22 by omega), bdS, c_says ht hs.1 hs.2.1 (show 10 < 22 by omega), bdS]
    cases isW tb S.t 20 with
    | true => rw [tt, hT]; rfl
    | false =>
      rw [ff]
      cases isW tb S.t 21 with
      | true => rw [tt, hT]; rfl
      | false =>
        rw [ff]
        cases isW tb S.t 7 with
        | true => rw [tt, hT]; rfl
        | false =>
          rw [ff]
          cases isW tb S.t 10 with
          | true => rw [tt, hT]; rfl
          | false =>
            rw [ff]
            exact J83 a false
  have hT : fX5_isName_J36 j vR tc = some (nI (if S.t.k == 2 && !true && !(isW tb S.t 20 || isW tb S.t 21 || isW tb S.t 7 || isW tb S.t 10) then 1 else 0)) := J41 true
  have key : fX5_isName j vR tc = some (nI (if S.t.k == 2 && !(isW tb S.t 8 || isW tb S.t 18 || isW tb S.t 11 || isW tb S.t 6) && !(isW tb S.t 20 || isW tb S.t 21 || isW tb S.t 7 || isW tb S.t 10) then 1 else 0)) := by
    unfold fX5_isName
    rw [c_says ht hs.1 hs.2.1 (show 8 < 22 by omega), bdS, c_says ht hs.1 hs.2.1 (show 18 < 22 by omega), bdS, c_says ht hs.1 hs.2.1 (show 11 < 22 by omega), bdS, c_says ht hs.1 hs.2.1 (show 6 < 22 by omega), bdS]
    cases isW tb S.t 8 with
    | true => rw [tt, hT]; rfl
    | false =>
      rw [ff]
      cases isW tb S.t 18 with
      | true => rw [tt, hT]; rfl
      | false =>
        rw [ff]
        cases isW tb S.t 11 with
        | true => rw [tt, hT]; rfl
        | false =>
          rw [ff]
          cases isW tb S.t 6 with
          | true => rw [tt, hT]; rfl
          | false =>
            rw [ff]
            exact J41 false
  rw [key]
  unfold isNm isKey
  congr 4
  cases (S.t.k == 2) <;> cases isW tb S.t 8 <;> cases isW tb S.t 18 <;> cases isW tb S.t 11 <;> cases isW tb S.t 6 <;> cases isW tb S.t 20 <;> cases isW tb S.t 21 <;> cases isW tb S.t 7 <;> cases isW tb S.t 10 <;> rfl
/-- a ring's name looked up among those told -/
theorem find_ring {h : Nat → Nat} {m : Nat} (hN : NMS h m) {t : Tk} (ho : TkOk tb n t) (k2 : t.k = 2) : fnd (fun x => enc h x == tenc tb t) (h 2) = match afind tb h t with | some k => if k ≤ 3 then some k else none | none => none := by
  obtain ⟨n2, n3, nk, np, nz, tp, tz, ni⟩ := hN
  have nq : ∀ x, x < h 2 → nmq tb h t x = (enc h x == tenc tb t) := fun x hx => by
    have := nmq_enc (np x hx) (nk x (by omega)) ho k2
    cases hq : nmq tb h t x with
    | true => simp [this.mp hq]
    | false =>
      have : ¬ enc h x = tenc tb t := fun e => by rw [this.mpr e] at hq; cases hq
      simp [this]
  cases hf : afind tb h t with
  | none =>
    have := fnd_none hf
    exact fnd_no (fun v hv => by rw [← nq v hv]; exact this v (by omega))
  | some k =>
    obtain ⟨g1, g2, g3⟩ := fnd_some hf
    by_cases hk : k ≤ 3
    · simp only [if_pos hk]
      have hk2 : k < h 2 := by
        rcases Nat.lt_or_ge k (h 2) with q | q
        · exact q
        · rw [nmq_0 (nz k q (by omega))] at g2; cases g2
      exact fnd_eq hk2 (by rw [← nq k hk2]; exact g2) (fun v hv => by rw [← nq v (by omega)]; exact g3 v hv)
    · simp only [if_neg hk]
      exact fnd_no (fun v hv => by rw [← nq v hv]; exact g3 v (by omega))
theorem find_thing {h : Nat → Nat} {m : Nat} (hN : NMS h m) {t : Tk} (ho : TkOk tb n t) (k2 : t.k = 2) : fnd (fun x => enc h (4 + x) == tenc tb t) m = match afind tb h t with | some k => if 4 ≤ k then some (k - 4) else none | none => none := by
  obtain ⟨n2, n3, nk, np, nz, tp, tz, ni⟩ := hN
  have nq : ∀ x, x < m → nmq tb h t (4 + x) = (enc h (4 + x) == tenc tb t) := fun x hx => by
    have := nmq_enc (tp x hx) (nk (4 + x) (by omega)) ho k2
    cases hq : nmq tb h t (4 + x) with
    | true => simp [this.mp hq]
    | false =>
      have : ¬ enc h (4 + x) = tenc tb t := fun e => by rw [this.mpr e] at hq; cases hq
      simp [this]
  cases hf : afind tb h t with
  | none =>
    have := fnd_none hf
    exact fnd_no (fun v hv => by rw [← nq v hv]; exact this (4 + v) (by omega))
  | some k =>
    obtain ⟨g1, g2, g3⟩ := fnd_some hf
    by_cases hk : 4 ≤ k
    · simp only [if_pos hk]
      have ek : 4 + (k - 4) = k := by omega
      have hk2 : k - 4 < m := by
        rcases Nat.lt_or_ge (k - 4) m with q | q
        · exact q
        · have := tz (k - 4) q (by omega)
          rw [ek] at this
          rw [nmq_0 this] at g2; cases g2
      exact fnd_eq hk2 (by rw [← nq _ hk2, ek]; exact g2) (fun v hv => by rw [← nq v (by omega)]; exact g3 (4 + v) (by omega))
    · simp only [if_neg hk]
      have hk2 : k < h 2 := by
        rcases Nat.lt_or_ge k (h 2) with q | q
        · exact q
        · rw [nmq_0 (nz k q (by omega))] at g2; cases g2
      have e1 := (nmq_enc (np k hk2) (nk k (by omega)) ho k2).mp g2
      refine fnd_no (fun v hv => ?_)
      have : ¬ enc h (4 + v) = tenc tb t := fun e => by
        have := ni k (4 + v) (by omega) (by omega) (np k hk2) (tp v hv) (e1.trans e.symm)
        omega
      simp [this]
/-- class's tables of names -/
def NR (h : Nat → Nat) (rN tN : Nat → Int64) (m : Nat) : Prop := (∀ x, x < h 2 → rN x = Int64.ofNat (enc h x)) ∧ ∀ x, x < m → tN x = Int64.ofNat (enc h (4 + x))
theorem c_word (hs : CS0 tb n S.t vR j) (k2 : S.t.k = 2) : j = Int64.ofNat (tenc tb S.t) := hs.1.2.2.2.2.1 k2
theorem isNm_k {t : Tk} (h : isNm tb t = true) : t.k = 2 := by
  unfold isNm at h
  simp only [Bool.and_eq_true, beq_iff_eq] at h
  exact h.1
theorem c_ringPlace {h : Nat → Nat} {m : Nat} {rN tN : Nat → Int64} (hN : NMS h m) (hR : NR h rN tN m) (hs : CS0 tb n S.t vR j) (k2 : S.t.k = 2) : fX5_placeOfName 4 rN j (nI (h 2)) = some (match afind tb h S.t with | some k => if k ≤ 3 then nI k else -1 | none => -1) := by
  rw [c_word hs k2, c_placeOfName (e := enc h) (by omega) hN.1 hR.1 (fun x hx => enc_lt (hN.2.2.1 x (by have := hN.1; omega))) (tenc_lt hs.2.1 k2), find_ring hN hs.2.1 k2]
  cases afind tb h S.t with
  | none => rfl
  | some k =>
    simp only
    by_cases hk : k ≤ 3
    · rw [if_pos hk, if_pos hk]
    · rw [if_neg hk, if_neg hk]
theorem c_thingPlace {h : Nat → Nat} {m : Nat} {rN tN : Nat → Int64} (hN : NMS h m) (hR : NR h rN tN m) (hs : CS0 tb n S.t vR j) (k2 : S.t.k = 2) : fX5_placeOfName 7 tN j (nI m) = some (match afind tb h S.t with | some k => if 4 ≤ k then nI (k - 4) else -1 | none => -1) := by
  have hm := hN.2.1
  rw [c_word hs k2, c_placeOfName (e := fun x => enc h (4 + x)) (by omega) hN.2.1 hR.2 (fun x hx => enc_lt (hN.2.2.1 (4 + x) (by omega))) (tenc_lt hs.2.1 k2), find_thing hN hs.2.1 k2]
  cases afind tb h S.t with
  | none => rfl
  | some k =>
    simp only
    by_cases hk : 4 ≤ k
    · rw [if_pos hk, if_pos hk]
    · rw [if_neg hk, if_neg hk]
theorem m1_lt0 : ((-1 : Int32) < 0) = True := eq_true (by decide)
theorem m1_ge0 : ((0 : Int32) ≤ -1) = False := eq_false (by decide)
theorem c_toldRing {m : Nat} {rN tN : Nat → Int64} (ht : TPR tb n tc tm) (hN : NMS S.h m) (hR : NR S.h rN tN m) (hs : CS0 tb n S.t vR j) : ∃ r j' vR', fX5_takeToldName j vR tc 4 rN (nI (S.h 2)) = some (r, j', vR') ∧ KC vR vR' ∧ ((∃ x, aNamed tb n 0 3 S = .ok (x, nx tb n S) ∧ r = nI x ∧ CS0 tb n (nx tb n S).t vR' j' ∧ x < S.h 2) ∨ ∃ e, aNamed tb n 0 3 S = .error e ∧ r = -1 ∧ CF e vR') := by
  unfold fX5_takeToldName aNamed
  rw [c_isName ht hs, bdS]
  cases hn : isNm tb S.t with
  | false =>
    obtain ⟨v, e, hf, hk⟩ := c_fails hs 1
    simp only [Bool.false_eq_true, if_false, nlit, ↓reduceIte, e, bdS]
    exact ⟨_, j, v, rfl, hk, Or.inr ⟨_, rfl, rfl, hf⟩⟩
  | true =>
    have k2 := isNm_k hn
    simp only [if_true, nlit, n10, if_false]
    rw [c_ringPlace hN hR hs k2, bdS]
    obtain ⟨v, e, hf, hk⟩ := c_fails hs 2
    cases hq : afind tb S.h S.t with
    | none =>
      simp only [← nlit, m1_ge0, if_false]
      simp only [nlit, e, bdS]
      exact ⟨_, j, v, rfl, hk, Or.inr ⟨_, rfl, rfl, hf⟩⟩
    | some k =>
      obtain ⟨g1, g2, g3⟩ := fnd_some hq
      by_cases hk3 : k ≤ 3
      · have hk2 : k < S.h 2 := by
          rcases Nat.lt_or_ge k (S.h 2) with q | q
          · exact q
          · rw [nmq_0 (hN.2.2.2.2.1 k q (by omega))] at g2; cases g2
        obtain ⟨j', v', e2, s2, kk2⟩ := c_st ht hs
        simp only [if_pos hk3]
        rw [if_pos (show nI 0 ≤ nI k by rw [nI_leI (by omega) (by omega)]; omega), e2, bdS, if_pos ⟨Nat.zero_le _, hk3⟩]
        exact ⟨_, j', v', rfl, kk2, Or.inl ⟨k, rfl, rfl, s2, hk2⟩⟩
      · simp only [if_neg hk3, if_neg (show ¬ (0 ≤ k ∧ k ≤ 3) by omega)]
        simp only [← nlit, m1_ge0, if_false]
        simp only [nlit, e, bdS]
        exact ⟨_, j, v, rfl, hk, Or.inr ⟨_, rfl, rfl, hf⟩⟩
theorem c_toldThing {m : Nat} {rN tN : Nat → Int64} (ht : TPR tb n tc tm) (hN : NMS S.h m) (hR : NR S.h rN tN m) (hs : CS0 tb n S.t vR j) : ∃ r j' vR', fX5_takeToldName j vR tc 7 tN (nI m) = some (r, j', vR') ∧ KC vR vR' ∧ ((∃ x, aNamed tb n 4 10 S = .ok (x, nx tb n S) ∧ r = nI x ∧ CS0 tb n (nx tb n S).t vR' j' ∧ x < m) ∨ ∃ e, aNamed tb n 4 10 S = .error e ∧ r = -1 ∧ CF e vR') := by
  unfold fX5_takeToldName aNamed
  rw [c_isName ht hs, bdS]
  cases hn : isNm tb S.t with
  | false =>
    obtain ⟨v, e, hf, hk⟩ := c_fails hs 1
    simp only [Bool.false_eq_true, if_false, nlit, ↓reduceIte, e, bdS]
    exact ⟨_, j, v, rfl, hk, Or.inr ⟨_, rfl, rfl, hf⟩⟩
  | true =>
    have k2 := isNm_k hn
    simp only [if_true, nlit, n10, if_false]
    rw [c_thingPlace hN hR hs k2, bdS]
    obtain ⟨v, e, hf, hk⟩ := c_fails hs 2
    cases hq : afind tb S.h S.t with
    | none =>
      simp only [← nlit, m1_ge0, if_false]
      simp only [nlit, e, bdS]
      exact ⟨_, j, v, rfl, hk, Or.inr ⟨_, rfl, rfl, hf⟩⟩
    | some k =>
      obtain ⟨g1, g2, g3⟩ := fnd_some hq
      by_cases hk3 : 4 ≤ k
      · have hk2 : k - 4 < m := by
          rcases Nat.lt_or_ge (k - 4) m with q | q
          · exact q
          · have := hN.2.2.2.2.2.2.1 (k - 4) q (by omega)
            rw [show 4 + (k - 4) = k by omega] at this
            rw [nmq_0 this] at g2; cases g2
        obtain ⟨j', v', e2, s2, kk2⟩ := c_st ht hs
        simp only [if_pos hk3]
        rw [if_pos (show nI 0 ≤ nI (k - 4) by rw [nI_leI (by omega) (by omega)]; omega), e2, bdS, if_pos ⟨hk3, by omega⟩]
        exact ⟨_, j', v', rfl, kk2, Or.inl ⟨k - 4, rfl, rfl, s2, hk2⟩⟩
      · simp only [if_neg hk3, if_neg (show ¬ (4 ≤ k ∧ k ≤ 10) by omega)]
        simp only [← nlit, m1_ge0, if_false]
        simp only [nlit, e, bdS]
        exact ⟨_, j, v, rfl, hk, Or.inr ⟨_, rfl, rfl, hf⟩⟩
/-- a new name: the class keeps its number for itself -/
theorem c_newName {m x : Nat} {rN tN : Nat → Int64} {vH : Nat → Int32} (ht : TPR tb n tc tm) (hN : NMS S.h m) (hR : NR S.h rN tN m) (hs : CS0 tb n S.t vR j) (h2 : vH 2 = nI (S.h 2)) (h5 : vH 5 = nI m) : ∃ r j' vR', fX5_takeNewName j vR tc vH rN tN = some (r, j', vR') ∧ KC vR vR' ∧ ((aNew tb n x S = .ok (nx tb n ⟨S.t, setName tb S.h x S.t⟩) ∧ r = Int64.ofNat (tenc tb S.t) ∧ CS0 tb n (nx tb n S).t vR' j' ∧ S.t.k = 2 ∧ afind tb S.h S.t = none) ∨ ∃ e, aNew tb n x S = .error e ∧ r = -1 ∧ CF e vR') := by
  unfold fX5_takeNewName aNew
  rw [c_isName ht hs, bdS]
  cases hn : isNm tb S.t with
  | false =>
    obtain ⟨v, e, hf, hk⟩ := c_fails hs 1
    simp only [Bool.false_eq_true, if_false, nlit, ↓reduceIte, e, bdS]
    exact ⟨_, j, v, rfl, hk, Or.inr ⟨_, rfl, rfl, hf⟩⟩
  | true =>
    have k2 := isNm_k hn
    simp only [if_true, nlq, n10, if_false]
    rw [h2]
    have rp := c_ringPlace hN hR hs k2
    have tp := c_thingPlace hN hR hs k2
    obtain ⟨v, e, hf, hk⟩ := c_fails hs 3
    have bad : fX5_takeNewName_J69 j vR = some (-1, j, v) := by
      unfold fX5_takeNewName_J69
      rw [nlit, e, bdS]
    have J1 : fX5_takeNewName_J43 j vR tc vH tN (nI 1) = some (-1, j, v) := by
      unfold fX5_takeNewName_J43
      rw [if_neg (show ¬ nI 1 = 0 by decide), bad]
    cases hq : afind tb S.h S.t with
    | none =>
      rw [hq] at rp tp
      have rp : fX5_placeOfName 4 rN j (nI (S.h 2)) = some (-1) := rp
      have tp : fX5_placeOfName 7 tN j (nI m) = some (-1) := tp
      obtain ⟨j', v', e2, s2, kk2⟩ := c_st ht hs
      rw [rp, bdS, if_pos (show (-1 : Int32) < nI 0 by decide)]
      unfold fX5_takeNewName_J43
      rw [if_pos (show nI 0 = 0 from rfl), h5, tp, bdS, if_pos (show (-1 : Int32) < 0 by decide), e2, bdS]
      exact ⟨_, j', v', rfl, kk2, Or.inl ⟨rfl, c_word hs k2, s2, k2, rfl⟩⟩
    | some k =>
      obtain ⟨g1, g2, g3⟩ := fnd_some hq
      rw [hq] at rp tp
      refine ⟨-1, j, v, ?_, hk, Or.inr ⟨_, rfl, rfl, hf⟩⟩
      by_cases hk3 : k ≤ 3
      · have rp : fX5_placeOfName 4 rN j (nI (S.h 2)) = some (nI k) := by rw [rp]; simp only [if_pos hk3]
        rw [rp, bdS, if_neg (show ¬ nI k < nI 0 by rw [nI_ltI (by omega) (by omega)]; omega), J1]
      · have rp : fX5_placeOfName 4 rN j (nI (S.h 2)) = some (-1) := by rw [rp]; simp only [if_neg hk3]
        have tp : fX5_placeOfName 7 tN j (nI m) = some (nI (k - 4)) := by rw [tp]; simp only [if_pos (show 4 ≤ k by omega)]
        rw [rp, bdS, if_pos (show (-1 : Int32) < nI 0 by decide)]
        unfold fX5_takeNewName_J43
        rw [if_pos (show nI 0 = 0 from rfl), h5, tp, bdS, if_neg (show ¬ nI (k - 4) < 0 by rw [show (0 : Int32) = nI 0 from rfl, nI_ltI (by omega) (by omega)]; omega), bad]
end CP
