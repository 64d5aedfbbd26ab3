/-! MATH 24: holds, holdsToMeet -/
/-- the fewest, the smallest of them -/
def MNp (R : Nat → Bool) (n : Nat) (r : Int32) : Prop := (r = -2 ∧ ∀ S, S < n → R S = false) ∨ ∃ S, S < n ∧ r = nI S ∧ R S = true ∧ ∀ T, T < n → R T = true → popc S < popc T ∨ (popc S = popc T ∧ S ≤ T)
theorem MNp_un {R : Nat → Bool} {n : Nat} {r s : Int32} (h1 : MNp R n r) (h2 : MNp R n s) : r = s := by
  rcases h1 with ⟨a, b⟩ | ⟨q, a, b, c, d⟩ <;> rcases h2 with ⟨a', b'⟩ | ⟨q', a', b', c', d'⟩
  · rw [a, a']
  · rw [b q' a'] at c'; cases c'
  · rw [b' q a] at c; cases c
  · rw [b, b']
    congr 1
    have := d q' a' c'
    have := d' q a c
    omega
theorem popc_and (S F : Nat) : popc (S &&& F) ≤ popc S := by
  apply cnt_mono
  intro t _ h
  rw [Nat.testBit_and] at h
  revert h
  cases S.testBit t <;> simp
def sub (S F : Nat) : Bool := S &&& F == S
theorem sub_iff {S F : Nat} : sub S F = true ↔ ∀ t, S.testBit t = true → F.testBit t = true := by
  unfold sub
  constructor
  · intro e t ht
    have e : S &&& F = S := by simpa using e
    rw [← e, Nat.testBit_and] at ht
    revert ht
    cases F.testBit t <;> simp
  · intro e
    have : S &&& F = S := by
      apply Nat.eq_of_testBit_eq
      intro t
      rw [Nat.testBit_and]
      cases hs : S.testBit t with
      | false => rfl
      | true => rw [e t hs]; rfl
    simpa using this
theorem sub_le {S F : Nat} (h : sub S F = true) : S ≤ F := by
  have e : S &&& F = S := by simpa [sub] using h
  rw [← e]
  exact Nat.and_le_right
theorem andn_0 {S F : Nat} (hS : S < 128) : (nI S &&& (nI F ^^^ (-nI 1)) = nI 0) ↔ sub S F = true := by
  rw [andn7 (n := 7) hS (by omega), nI_eq (Nat.lt_of_lt_of_le (bm_lt _ _) (by decide)) (by omega), sub_iff]
  constructor
  · intro e t ht
    have hb := bm_bit (fun t => S.testBit t && !F.testBit t) 7 t
    rw [e, Nat.zero_testBit] at hb
    by_cases h7 : t < 7
    · simp only [h7, decide_true, Bool.true_and, ht] at hb
      cases hF : F.testBit t with
      | true => rfl
      | false => rw [hF] at hb; cases hb
    · have : S < 2 ^ t := Nat.lt_of_lt_of_le hS (show 2 ^ 7 ≤ 2 ^ t from Nat.pow_le_pow_right (by omega) (by omega))
      rw [Nat.testBit_lt_two_pow this] at ht
      cases ht
  · intro e
    apply bm_0
    intro t _
    cases hs : S.testBit t with
    | false => rfl
    | true => rw [e t hs]; rfl
theorem c_isOfThese {S m F : Nat} (hS : S < 128) (hm : m < 1000) : fX3_isOfThese (nI S) (nI m) (nI F) = some (nI (if sub S F && popc S == m then 1 else 0)) := by
  have hp := popc_le S
  unfold fX3_isOfThese fX3_isOfThese_J20 fX3_isOfThese_J21
  have key : (nI S &&& (nI F ^^^ (-1 : Int32)) = 0) ↔ sub S F = true := andn_0 hS
  by_cases h1 : sub S F = true
  · rw [if_pos (key.mpr h1), bc_nI S hS, bdS, h1]
    simp (disch := omega) only [nlit, nI_eq]
    by_cases h2 : popc S = m
    · rw [if_pos h2]
      simp [h2]
      rfl
    · rw [if_neg h2]
      simp [h2]
      rfl
  · rw [if_neg (fun q => h1 (key.mp q))]
    have : sub S F = false := by simpa using h1
    rw [this]
    rfl
def hitb (h c : Nat → Nat) (k t u x S : Nat) : Bool := if t = u then nights h (held c S) k t == x else doorb h (nights h (held c S) k t) (nights h (held c S) k u)
/-- what the reference tries -/
def Rb (h c : Nat → Nat) (k t u x S : Nat) : Bool := (S &&& c 7 == 0) && hitb h c k t u x S
/-- those that could go in two rings -/
def Fm (h c : Nat → Nat) (a b : Nat) : Nat := bm (fun t => freeb h c a t || freeb h c b t) (h 3)
section HO
variable {h c : Nat → Nat} {vH nx wd sz kd srt plc d1 d2 vD now vN vW cl who fro vG vM r st trial : Nat → Int32} {aH aW : Nat} {x0 : Option Nat}
theorem hit_and (hw : WFh h) (hc : okRow h c) (hj : injC h c) (h8 : c 8 ≤ 1000) {k t u x S : Nat} (hk : k ≤ 1000) (ht : t < h 3) (hu : u < h 3) (hS : S < 2 ^ h 3) : hitb h c k t u x (S &&& Fm h c (c t / 9) (c u / 9)) = hitb h c k t u x S := by
  have h3 := hw.2.2.2.2.2.1
  have hS2 : S &&& Fm h c (c t / 9) (c u / 9) < 2 ^ h 3 := Nat.lt_of_le_of_lt Nat.and_le_left hS
  have key : ∀ v, v < h 3 → (c v / 9 = c t / 9 ∨ c v / 9 = c u / 9) → nights h (held c (S &&& Fm h c (c t / 9) (c u / 9))) k v = nights h (held c S) k v := by
    intro v hv hg
    have ag : agr h c (c v / 9) (held c (S &&& Fm h c (c t / 9) (c u / 9))) (held c S) := by
      apply agr_held h3
      intro w hwl hf
      rw [Nat.testBit_and]
      have : (Fm h c (c t / 9) (c u / 9)).testBit w = true := by
        unfold Fm
        rw [bm_bit]
        simp only [hwl, decide_true, Bool.true_and]
        rcases hg with e | e
        · rw [← e, hf]; rfl
        · rw [← e, hf, Bool.or_true]
      rw [this, Bool.and_true]
    have e8 : ∀ S, held c S 8 ≤ 1000 := fun S => by unfold held; rw [if_neg (by omega)]; exact h8
    have := agr_nights hw ag (held_okRow hc h3 hS2) (held_okRow hc h3 hS) (held_inj h3 hj) (held_inj h3 hj) (e8 _) (e8 _) k hk
    exact (this.2.2 v hv rfl).1
  unfold hitb
  rw [key t ht (Or.inl rfl), key u hu (Or.inr rfl)]
theorem Fm_free {t a b : Nat} (ht : t < h 3) (e : (Fm h c a b).testBit t = true) : (c 7).testBit t = false := by
  unfold Fm freeb at e
  rw [bm_bit] at e
  simp only [ht, decide_true, Bool.true_and] at e
  cases hq : (c 7).testBit t with
  | false => rfl
  | true => rw [hq] at e; simp at e
theorem sub_and0 (hn : h 3 ≤ 7) {S a b : Nat} (hS : S < 2 ^ h 3) (hs : sub S (Fm h c a b) = true) : S &&& c 7 = 0 := by
  apply Nat.eq_of_testBit_eq
  intro t
  rw [Nat.testBit_and, Nat.zero_testBit]
  cases hb : S.testBit t with
  | false => rfl
  | true =>
    have ht : t < h 3 := by
      rcases Nat.lt_or_ge t (h 3) with q | q
      · exact q
      · have : S < 2 ^ t := Nat.lt_of_lt_of_le hS (Nat.pow_le_pow_right (by omega) q)
        rw [Nat.testBit_lt_two_pow this] at hb
        cases hb
    rw [Fm_free ht ((sub_iff.mp hs) t hb)]
    rfl
theorem c_isHeld (hn : h 3 ≤ 7) (hc : okRow h c) (hd : DR h c now) {t : Nat} (ht : t < h 3) : fX1_isHeld vD now (nI t) = some (nI (if (c 7).testBit t then 1 else 0)) := by
  have : c 7 < 2 ^ 31 := Nat.lt_of_lt_of_le hc.2.1 (Nat.pow_le_pow_right (by omega) (by omega))
  unfold fX1_isHeld fX1_isHeld_J19
  simp (disch := omega) only [nlit, ok_nI, gdT, nI_clamp, hd.2.1, bit_nI]
  cases (c 7).testBit t
  · rfl
  · simp only [if_true, n10, if_false]
    rfl
theorem c_freeIn (hw : WFh h) (hh : HC h vH nx wd sz kd srt x0) (hc : okRow h c) (hd : DR h c now) {a b : Nat} (ha : a < 4) (hb : b < 4) : fX3_freeIn vH vD now kd (isl (nI 1) (nI a) ||| isl (nI 1) (nI b)) = some (nI (Fm h c a b)) := by
  have h3 := hw.2.2.2.2.2.1
  rw [isl_1 (by omega), isl_1 (by omega), nI_or]
  unfold fX3_freeIn Fm
  simp only [nlit]
  have hm : 2 ^ a ||| 2 ^ b < 2 ^ 31 := Nat.lt_of_lt_of_le (Nat.or_lt_two_pow (n := 4) (Nat.pow_lt_pow_right (by omega) ha) (Nat.pow_lt_pow_right (by omega) hb)) (by decide)
  refine lp_for (fun i => (nI (bm (fun t => freeb h c a t || freeb h c b t) i), nI i)) (h 3) ?_ ?_ (by omega) rfl
  · intro i hi
    have hct := okc_lt hw (hc.1 i hi)
    have hkb : h (62 + 3 * i) < 1000 := hw.1 _ (by omega)
    have e : bm (fun t => freeb h c a t || freeb h c b t) (i + 1) = bm (fun t => freeb h c a t || freeb h c b t) i ||| (if (freeb h c a i || freeb h c b i) = true then 2 ^ i else 0) := rfl
    have ebit : (2 ^ a ||| 2 ^ b).testBit (c i / 9) = (c i / 9 == a || c i / 9 == b) := by
      rw [Nat.testBit_or, Nat.testBit_two_pow, Nat.testBit_two_pow]
      by_cases e1 : a = c i / 9
      · simp [e1]
      · by_cases e2 : b = c i / 9
        · simp [e2]
        · have e1' : ¬ c i / 9 = a := fun q => e1 q.symm
          have e2' : ¬ c i / 9 = b := fun q => e2 q.symm
          simp [e1, e2, e1', e2']
    simp (disch := omega) only [fX3_freeIn_B5, fX3_freeIn_J35, fX3_freeIn_J68, hh.2.2.1, nlit, nI_leI, c_dcell hw hd hi, bdS, c_ring, bit_nI hm, c_isHeld h3 hc hd hi, c_kindOf hw hh hi, nI_eq, isl_1, nI_or, nI_add]
    rw [if_neg (by omega), ebit, e]
    unfold freeb
    cases h1 : (c i / 9 == a) <;> cases h2 : (c i / 9 == b) <;> cases h4 : (c 7).testBit i <;> by_cases h5 : h (62 + 3 * i) = 2 <;> simp [h5, n10]
  · simp (disch := omega) only [fX3_freeIn_B5, hh.2.2.1, nI_leI, exS]
    rw [if_pos (Nat.le_refl _)]
theorem Fm_lt (h c : Nat → Nat) (a b : Nat) : Fm h c a b < 2 ^ h 3 := bm_lt _ _
/-- the place to be reached, as an int -/
def xI (t u x : Nat) : Int32 := if t = u then nI x else -1
theorem c_isReached (hw : WFh h) (v4 : vH 4 = nI (h 5)) (hdr : ∀ d, d < h 5 → d1 d = nI (h (52 + 2 * d)) ∧ d2 d = nI (h (52 + 2 * d + 1)) ∧ h (52 + 2 * d) < 36 ∧ h (52 + 2 * d + 1) < 36) (hc : okRow h c) (hwr : WR h c vW cl who x0) {t u x : Nat} (ht : t < h 3) (hu : u < h 3) (hx : x < 36) : fX3_isReached vG vW cl vH d1 d2 (nI t) (nI u) (xI t u x) = some (nI (if (if t = u then c t == x else doorb h (c t) (c u)) then 1 else 0)) := by
  have h3 := hw.2.2.2.2.2.1
  have hct := okc_lt hw (hc.1 t ht)
  unfold fX3_isReached fX3_isReached_J34 xI
  simp (disch := omega) only [nI_eq]
  by_cases e : t = u
  · rw [if_pos e, if_pos e, if_pos e, c_wcell h3 hwr ht, bdS]
    simp (disch := omega) only [nI_eq]
    by_cases q : c t = x
    · rw [if_pos q, show (c t == x) = true by simpa using q]; rfl
    · rw [if_neg q, show (c t == x) = false by simpa using q]; rfl
  · rw [if_neg e, if_neg e, c_atDoor hw v4 hdr hc hwr ht hu, bdS]
    cases doorb h (c t) (c u) <;> rfl
theorem c_fewest (hx : CX h c vH nx wd sz kd srt plc d1 d2 now) {t u x k : Nat} (ht : t < h 3) (hu : u < h 3) (hx36 : x < 36) (hk : k ≤ 30) :
    ∃ a vW' who' cl' fro' aW', fX3_fewest aH aW vD now vH kd vG vW who cl srt nx fro sz wd d1 d2 (nI t) (nI u) (xI t u x) (nI k) = some (a, vW', who', cl', fro', aW') ∧ MNp (Rb h c k t u x) (2 ^ h 3) a := by
  obtain ⟨hw, hh, hc, hj, h8, hd, h1, v4, hpl, hdr⟩ := hx
  have h3 := hw.2.2.2.2.2.1
  have hct := okc_lt hw (hc.1 t ht)
  have hcu := okc_lt hw (hc.1 u hu)
  have p7 : 2 ^ h 3 ≤ 128 := Nat.le_trans (show 2 ^ h 3 ≤ 2 ^ 7 from Nat.pow_le_pow_right (by omega) h3) (by decide)
  generalize hF : Fm h c (c t / 9) (c u / 9) = F
  have hFl : F < 2 ^ h 3 := by rw [← hF]; exact Fm_lt _ _ _ _
  unfold fX3_fewest
  rw [c_dcell hw hd ht, bdS, c_ring (by omega), bdS, c_dcell hw hd hu, bdS, c_ring (by omega), bdS]
  simp only [nlit]
  rw [c_freeIn hw hh hc hd (by omega) (by omega), bdS, hF]
  -- one count
  have cnt1 : ∀ m, m < 100 → ∀ (cl0 fro0 who0 vW0 : Nat → Int32) (aW0 : Nat), ∃ cl' fro' who' aW' vW', (fnd (fun S => (sub S F && popc S == m) && hitb h c k t u x S) (F + 1) = none ∧ lp (fX3_fewest_B49 aH vD now vH kd vG srt nx sz wd d1 d2 (nI t) (nI u) (xI t u x) (nI k) (nI F) (nI m)) 5000 (nI 0, cl0, fro0, who0, aW0, vW0) = some (.inr (nI F, nI (m + 1), cl', fro', who', aW', vW'))) ∨ ∃ S, fnd (fun S => (sub S F && popc S == m) && hitb h c k t u x S) (F + 1) = some S ∧ lp (fX3_fewest_B49 aH vD now vH kd vG srt nx sz wd d1 d2 (nI t) (nI u) (xI t u x) (nI k) (nI F) (nI m)) 5000 (nI 0, cl0, fro0, who0, aW0, vW0) = some (.inl (nI S, vW', who', cl', fro', aW')) := by
    intro m hm cl0 fro0 who0 vW0 aW0
    refine Exists.elim (lp_find (f := fX3_fewest_B49 aH vD now vH kd vG srt nx sz wd d1 d2 (nI t) (nI u) (xI t u x) (nI k) (nI F) (nI m)) (fun S => (sub S F && popc S == m) && hitb h c k t u x S) (F + 1) (fun i s => ∃ cl' fro' who' aW' vW', s = (nI i, cl', fro', who', aW', vW')) (fun o res => ∃ cl' fro' who' aW' vW', (o = none ∧ res = .inr (nI F, nI (m + 1), cl', fro', who', aW', vW')) ∨ ∃ S, o = some S ∧ res = .inl (nI S, vW', who', cl', fro', aW')) ?_ ?_ ⟨cl0, fro0, who0, aW0, vW0, rfl⟩ (show F + 1 < 5000 by omega)) (fun res hr => ?_)
    · rintro i s hi ⟨cl', fro', who', aW', vW', rfl⟩
      have hi2 : i < 2 ^ h 3 := by omega
      have e8 : held c i 8 ≤ 1000 := by unfold held; rw [if_neg (by omega)]; exact h8
      simp (disch := omega) only [fX3_fewest_B49, fX3_fewest_J104, nlit, nI_ltI, c_isOfThese, bdS, nI_add]
      rw [if_neg (by omega)]
      cases hq : (sub i F && popc i == m) with
      | false =>
        simp only [Bool.false_and, Bool.false_eq_true, if_false]
        exact ⟨fun _ => ⟨_, rfl, cl', fro', who', aW', vW', rfl⟩, fun q => by cases q⟩
      | true =>
        obtain ⟨vW1, who1, cl1, e1, w1, -⟩ := c_start (vW := vW') (vD := vD) (who := who') (cl := cl') hw hh hc hj hd hi2
        obtain ⟨vW2, cl2, who2, fro2, e2, w2⟩ := c_goOn (fro := fro') hw hh (held_okRow hc h3 hi2) (held_inj h3 hj) e8 w1 (k := k) (by omega)
        have o2 := (nts hw (held_okRow hc h3 hi2) (held_inj h3 hj) e8 k (by omega)).1
        have e3 := c_isReached (vG := vG) hw v4 hdr o2 w2 ht hu hx36
        have e3 : fX3_isReached vG vW2 cl2 vH d1 d2 (nI t) (nI u) (xI t u x) = some (nI (if hitb h c k t u x i then 1 else 0)) := e3
        simp only [if_true, nlit, n10, if_false, e1, bdS, e2, e3, Bool.true_and]
        cases hitb h c k t u x i with
        | false => exact ⟨fun _ => ⟨_, rfl, cl2, fro2, who2, aH, vW2, rfl⟩, fun q => by cases q⟩
        | true => exact ⟨fun q => (by cases q), fun _ => ⟨_, rfl, cl2, fro2, who2, aH, vW2, Or.inr ⟨i, rfl, rfl⟩⟩⟩
    · rintro s ⟨cl', fro', who', aW', vW', rfl⟩
      simp (disch := omega) only [fX3_fewest_B49, nlit, nI_ltI, exS, nI_add]
      rw [if_pos (by omega)]
      exact ⟨_, rfl, cl', fro', who', aW', vW', Or.inl ⟨by first | rfl | trivial, rfl⟩⟩
    · obtain ⟨e, cl', fro', who', aW', vW', ⟨ho, hr⟩ | ⟨S, ho, hr⟩⟩ := hr
      · exact ⟨cl', fro', who', aW', vW', Or.inl ⟨ho, e.trans (congrArg some hr)⟩⟩
      · exact ⟨cl', fro', who', aW', vW', Or.inr ⟨S, ho, e.trans (congrArg some hr)⟩⟩
  have hpF := popc_le F
  refine Exists.elim (lp_find (f := fX3_fewest_B36 aH vD now vH kd vG srt nx sz wd d1 d2 (nI t) (nI u) (xI t u x) (nI k)) (fun m => (fnd (fun S => (sub S F && popc S == m) && hitb h c k t u x S) (F + 1)).isSome) (popc F + 1) (fun i s => ∃ cl' fro' who' aW' vW', s = (nI F, nI i, cl', fro', who', aW', vW')) (fun o res => ∃ vW' who' cl' fro' aW', (o = none ∧ res = (-nI 2, vW', who', cl', fro', aW')) ∨ ∃ m S, o = some m ∧ fnd (fun S => (sub S F && popc S == m) && hitb h c k t u x S) (F + 1) = some S ∧ res = (nI S, vW', who', cl', fro', aW')) ?_ ?_ ⟨cl, fro, who, aW, vW, rfl⟩ (show popc F + 1 < 5000 by omega)) (fun res hr => ?_)
  · rintro i s hi ⟨cl', fro', who', aW', vW', rfl⟩
    obtain ⟨cl2, fro2, who2, aW2, vW2, e⟩ := cnt1 i (by omega) cl' fro' who' vW' aW'
    simp (disch := omega) only [fX3_fewest_B36, bc_nI F (show F < 128 by omega), bdS, nI_ltI]
    rw [if_neg (by omega)]
    rcases e with ⟨hf, e⟩ | ⟨S, hf, e⟩
    · exact ⟨fun _ => ⟨_, e, cl2, fro2, who2, aW2, vW2, rfl⟩, fun q => by rw [hf] at q; cases q⟩
    · exact ⟨fun q => (by rw [hf] at q; cases q), fun _ => ⟨_, e, vW2, who2, cl2, fro2, aW2, Or.inr ⟨i, S, rfl, hf, rfl⟩⟩⟩
  · rintro s ⟨cl', fro', who', aW', vW', rfl⟩
    simp (disch := omega) only [fX3_fewest_B36, bc_nI F (show F < 128 by omega), bdS, nI_ltI, nlit, exS]
    rw [if_pos (by omega)]
    exact ⟨_, rfl, vW', who', cl', fro', aW', Or.inl ⟨by first | rfl | trivial, rfl⟩⟩
  · obtain ⟨e, vW', who', cl', fro', aW', hr⟩ := hr
    -- every try of the reference's has a try of the class's
    have down : ∀ T, T < 2 ^ h 3 → Rb h c k t u x T = true → hitb h c k t u x (T &&& F) = true ∧ sub (T &&& F) F = true ∧ popc (T &&& F) ≤ popc T ∧ T &&& F ≤ T ∧ T &&& F ≤ F := by
      intro T hT hR
      have hR : hitb h c k t u x T = true := by
        unfold Rb at hR
        revert hR
        cases hitb h c k t u x T <;> simp
      refine ⟨?_, ?_, popc_and T F, Nat.and_le_left, Nat.and_le_right⟩
      · rw [← hF, hit_and hw hc hj h8 (by omega) ht hu hT]; exact hR
      · apply sub_iff.mpr
        intro v hv
        rw [Nat.testBit_and] at hv
        revert hv
        cases F.testBit v <;> simp
    rcases hr with ⟨ho, hres⟩ | ⟨m, S, ho, hf, hres⟩
    · refine ⟨-2, vW', who', cl', fro', aW', e.trans (congrArg some hres), Or.inl ⟨rfl, fun T hT => ?_⟩⟩
      cases hR : Rb h c k t u x T with
      | false => rfl
      | true =>
        obtain ⟨a1, a2, a3, a4, a5⟩ := down T hT hR
        have hple : popc (T &&& F) ≤ popc F := by rw [Nat.and_comm]; exact popc_and F T
        have n1 := fnd_none ho (popc (T &&& F)) (by omega)
        cases hg : fnd (fun S => (sub S F && popc S == popc (T &&& F)) && hitb h c k t u x S) (F + 1) with
        | some w => rw [hg] at n1; cases n1
        | none =>
          have n2 := fnd_none hg (T &&& F) (by omega)
          simp [a1, a2] at n2
    · obtain ⟨m1, m2, m3⟩ := fnd_some ho
      obtain ⟨s1, s2, s3⟩ := fnd_some hf
      have s2' : (sub S F = true ∧ popc S = m) ∧ hitb h c k t u x S = true := by simpa using s2
      have hS2 : S < 2 ^ h 3 := by have := sub_le s2'.1.1; omega
      refine ⟨nI S, vW', who', cl', fro', aW', e.trans (congrArg some hres), Or.inr ⟨S, hS2, rfl, ?_, fun T hT hR => ?_⟩⟩
      · have : S &&& c 7 = 0 := sub_and0 (a := c t / 9) (b := c u / 9) h3 hS2 (by rw [hF]; exact s2'.1.1)
        unfold Rb
        rw [this, s2'.2]
        rfl
      · obtain ⟨a1, a2, a3, a4, a5⟩ := down T hT hR
        have hple : popc (T &&& F) ≤ popc F := by rw [Nat.and_comm]; exact popc_and F T
        rcases Nat.lt_trichotomy (popc (T &&& F)) m with hl | hl | hl
        · have n1 := m3 _ hl
          cases hg : fnd (fun S => (sub S F && popc S == popc (T &&& F)) && hitb h c k t u x S) (F + 1) with
          | some w => rw [hg] at n1; cases n1
          | none =>
            have n2 := fnd_none hg (T &&& F) (by omega)
            simp [a1, a2] at n2
        · have : S ≤ T &&& F := by
            rcases Nat.lt_or_ge (T &&& F) S with q | q
            · have n2 := s3 _ q
              simp [a1, a2, hl] at n2
            · exact q
          omega
        · omega
theorem C_holdsToMeet (hx : CX h c vH nx wd sz kd srt plc d1 d2 now) {t u k : Nat} (ht : t < h 3) (hu : u < h 3) (hne : t ≠ u) (hk : k ≤ 30) :
    ∃ a vW' who' cl' fro' aW', fX8_holdsToMeet aH aW vN vH vD now kd vG vW who cl srt nx fro sz wd d1 d2 (nI t) (nI u) (nI k) = some (a, upd vN 6 (nI 0), vW', who', cl', fro', aW') ∧ MNp (Rb h c k t u 0) (2 ^ h 3) a := by
  obtain ⟨a, vW', who', cl', fro', aW', e, ha⟩ := c_fewest (aH := aH) (aW := aW) (vD := vD) (vG := vG) (vW := vW) (who := who) (cl := cl) (fro := fro) hx ht hu (x := 0) (by omega) hk
  obtain ⟨hw, hh, hc, hj, h8, hd, h1, v4, hpl, hdr⟩ := hx
  have h3 := hw.2.2.2.2.2.1
  refine ⟨a, vW', who', cl', fro', aW', ?_, ha⟩
  unfold fX8_holdsToMeet
  rw [c_areTwo_t h3 hh.2.2.1 ht hu hne, bdS, if_neg (by rw [nlit, n10]; exact id)]
  simp (disch := omega) only [nlit, nI_ltI, nI_leI]
  rw [if_neg (by omega), if_pos hk]
  have ex : xI t u 0 = -nI 1 := by unfold xI; rw [if_neg hne]; rfl
  rw [ex] at e
  simp only [fX3_fewestToMeet, nlit, e, bdS]
  rfl
theorem C_holds (hx : CX h c vH nx wd sz kd srt plc d1 d2 now) {t g y k : Nat} (ht : t < h 3) (hg : g < h 2) (hy : y < pl h g) (hk : k ≤ 30) :
    ∃ a vW' who' cl' fro' aW', fX8_holds aH aW vN vH plc vD now kd vG vW who cl srt nx fro sz wd d1 d2 (nI t) (nI g) (nI y) (nI k) = some (a, upd vN 6 (nI 0), vW', who', cl', fro', aW') ∧ MNp (Rb h c k t t (9 * g + y)) (2 ^ h 3) a := by
  have hx0 := hx
  obtain ⟨hw, hh, hc, hj, h8, hd, h1, v4, hpl, hdr⟩ := hx
  have h2 := hw.2.2.2.2.1
  have h3 := hw.2.2.2.2.2.1
  have hp9 := (hw.2.2.2.2.2.2.2.2.2.1 g hg).2
  have hct := okc_lt hw (hc.1 t ht)
  have e2 : fX8_cellAt (nI g) (nI y) = some (nI (9 * g + y)) := by
    simp (disch := omega) only [fX8_cellAt, nlit, pk_mul, nI_add]
    rw [Nat.mul_comm]
  unfold fX8_holds
  rw [c_hasThing_t h3 hh.2.2.1 ht, bdS, if_neg (by rw [nlit, n10]; exact id), c_hasPlace_t h2 hh.2.1 hg (hpl g hg) hp9 hy, bdS, if_neg (by rw [nlit, n10]; exact id)]
  simp (disch := omega) only [nlit, nI_ltI, nI_leI]
  rw [if_neg (by omega), if_pos hk, c_dcell hw hd ht, bdS, c_ring (by omega), bdS]
  simp (disch := omega) only [nI_eq]
  by_cases hr : c t / 9 = g
  · rw [if_pos hr, e2, bdS]
    obtain ⟨a, vW', who', cl', fro', aW', e, ha⟩ := c_fewest (aH := aH) (aW := aW) (vD := vD) (vG := vG) (vW := vW) (who := who) (cl := cl) (fro := fro) hx0 ht ht (x := 9 * g + y) (by omega) hk
    refine ⟨a, vW', who', cl', fro', aW', ?_, ha⟩
    have ex : xI t t (9 * g + y) = nI (9 * g + y) := by unfold xI; rw [if_pos rfl]
    rw [ex] at e
    simp only [fX3_fewestForPlace, e, bdS]
    rfl
  · rw [if_neg hr]
    refine ⟨-2, vW, who, cl, fro, aW, rfl, Or.inl ⟨rfl, fun S hS => ?_⟩⟩
    unfold Rb hitb
    rw [if_pos rfl]
    have e8 : held c S 8 ≤ 1000 := by unfold held; rw [if_neg (by omega)]; exact h8
    have := nts_ring hw (held_okRow hc h3 hS) (held_inj h3 hj) e8 ht k (by omega)
    rw [held_in h3 ht] at this
    have : ¬ nights h (held c S) k t = 9 * g + y := by omega
    simp [this]
theorem m_heldRun (hw : WFh h) (hc : okRow h c) (hj : injC h c) (h8 : c 8 ≤ 1000) {S k : Nat} (hS : S < 2 ^ h 3) : okRow h (held c S) ∧ injC h (held c S) ∧ held c S 8 ≤ 1000 :=
  ⟨held_okRow hc hw.2.2.2.2.2.1 hS, held_inj hw.2.2.2.2.2.1 hj, by unfold held; rw [if_neg (by omega)]; exact h8⟩
theorem m_heldRow {t0 : Nat → Int32} (ht0 : ∀ j, j < 9 → t0 j = nI (c j)) (m : Nat) : ∀ j, j < 9 → upd t0 7 (nI (c 7 ||| m)) j = nI (held c m j) := by
  intro j hj
  unfold upd held
  by_cases e : j = 7
  · rw [if_pos e, if_pos e]
  · rw [if_neg e, if_neg e]; exact ht0 j hj
theorem m_isThereBy (hw : WFh h) (hc : okRow h c) (hj : injC h c) (h8 : c 8 ≤ 1000) (hr : ∀ k, k < 224 → r k = nI (h k)) (hst : ∀ k, k < 9 → st k = nI (c k)) {S t x k : Nat} (hS : S < 2 ^ h 3) (ht : t < h 3) (hx : x < 1000) (hk : k ≤ 200) :
    ∃ tr', fX9_isThereBy vM st trial r (nI S) (nI t) (nI x) (nI k) = some (nI (if nights h (held c S) k t == x then 1 else 0), tr') := by
  have h3 := hw.2.2.2.2.2.1
  obtain ⟨t0, e0, ht0⟩ := m_begin (vM := vM) (trial := trial) hst
  obtain ⟨o2, j2, e8⟩ := m_heldRun hw hc hj h8 (k := k) hS
  unfold fX9_isThereBy
  rw [e0, bdS]
  simp (disch := omega) only [nlit, ok_nI, gdT, nI_clamp, ht0, nI_or]
  refine Exists.elim (lp_inv (f := fX9_isThereBy_B18 vM r (nI t) (nI x) (nI k)) (fun i s => ∃ p, s = (nI i, p) ∧ ∀ j, j < 9 → p j = nI (nights h (held c S) i j)) (fun res => ∃ p, res = (nI (if nights h (held c S) k t == x then 1 else 0), p)) k ?_ ?_ 5000 0 (nI 0, upd t0 7 (nI (c 7 ||| S))) (Nat.zero_le _) ⟨_, rfl, m_heldRow ht0 S⟩ (by omega)) (fun res hres => ?_)
  · rintro i s hi ⟨p, rfl, hp⟩
    left
    obtain ⟨a1, a2, a3, a4⟩ := nts hw o2 j2 e8 i (by omega)
    obtain ⟨p', e, hp'⟩ := m_nightOf (vM := vM) hw hr hp a1
    simp (disch := omega) only [fX9_isThereBy_B18, nlit, nI_leI, e, bdS, nI_add]
    rw [if_neg (by omega)]
    exact ⟨_, rfl, p', rfl, hp'⟩
  · rintro s ⟨p, rfl, hp⟩
    have hlt := okc_lt hw ((nts hw o2 j2 e8 k (by omega)).1.1 t ht)
    simp (disch := omega) only [fX9_isThereBy_B18, fX9_isThereBy_J55, nlit, nI_leI, ok_nI, gdT, nI_clamp, hp, nI_eq]
    rw [if_pos (Nat.le_refl _)]
    by_cases q : nights h (held c S) k t = x
    · rw [if_pos q, show (nights h (held c S) k t == x) = true by simpa using q]
      exact ⟨_, rfl, p, rfl⟩
    · rw [if_neg q, show (nights h (held c S) k t == x) = false by simpa using q]
      exact ⟨_, rfl, p, rfl⟩
  · obtain ⟨e, p, hres⟩ := hres
    exact ⟨p, e.trans (congrArg some hres)⟩
theorem m_doMeetBy (hw : WFh h) (hc : okRow h c) (hj : injC h c) (h8 : c 8 ≤ 1000) (hr : ∀ k, k < 224 → r k = nI (h k)) (hst : ∀ k, k < 9 → st k = nI (c k)) {S t u k : Nat} (hS : S < 2 ^ h 3) (ht : t < h 3) (hu : u < h 3) (hk : k ≤ 200) :
    ∃ tr', fX9_doMeetBy vM st trial r (nI S) (nI t) (nI u) (nI k) = some (nI (if doorb h (nights h (held c S) k t) (nights h (held c S) k u) then 1 else 0), tr') := by
  have h3 := hw.2.2.2.2.2.1
  obtain ⟨t0, e0, ht0⟩ := m_begin (vM := vM) (trial := trial) hst
  obtain ⟨o2, j2, e8⟩ := m_heldRun hw hc hj h8 (k := k) hS
  unfold fX9_doMeetBy
  rw [e0, bdS]
  simp (disch := omega) only [nlit, ok_nI, gdT, nI_clamp, ht0, nI_or]
  refine Exists.elim (lp_inv (f := fX9_doMeetBy_B18 vM r (nI t) (nI u) (nI k)) (fun i s => ∃ p, s = (nI i, p) ∧ ∀ j, j < 9 → p j = nI (nights h (held c S) i j)) (fun res => ∃ p, res = (nI (if doorb h (nights h (held c S) k t) (nights h (held c S) k u) then 1 else 0), p)) k ?_ ?_ 5000 0 (nI 0, upd t0 7 (nI (c 7 ||| S))) (Nat.zero_le _) ⟨_, rfl, m_heldRow ht0 S⟩ (by omega)) (fun res hres => ?_)
  · rintro i s hi ⟨p, rfl, hp⟩
    left
    obtain ⟨a1, a2, a3, a4⟩ := nts hw o2 j2 e8 i (by omega)
    obtain ⟨p', e, hp'⟩ := m_nightOf (vM := vM) hw hr hp a1
    simp (disch := omega) only [fX9_doMeetBy_B18, nlit, nI_leI, e, bdS, nI_add]
    rw [if_neg (by omega)]
    exact ⟨_, rfl, p', rfl, hp'⟩
  · rintro s ⟨p, rfl, hp⟩
    have a1 := (nts hw o2 j2 e8 k (by omega)).1
    simp (disch := omega) only [fX9_doMeetBy_B18, nlit, nI_leI, ok_nI, gdT, nI_clamp, hp, m_areDoored hw hr (okc_lt hw (a1.1 t ht)) (okc_lt hw (a1.1 u hu)), bdS]
    rw [if_pos (Nat.le_refl _)]
    cases doorb h (nights h (held c S) k t) (nights h (held c S) k u) <;> exact ⟨_, rfl, p, rfl⟩
  · obtain ⟨e, p, hres⟩ := hres
    exact ⟨p, e.trans (congrArg some hres)⟩
theorem m_allThings (hw : WFh h) (hr : ∀ k, k < 224 → r k = nI (h k)) : fX9_allThings vM r = some (nI (2 ^ h 3 - 1)) := by
  have h3 := hw.2.2.2.2.2.1
  have : 0 < 2 ^ h 3 := Nat.two_pow_pos _
  simp (disch := omega) only [fX9_allThings, nlit, ok_nI, gdT, nI_clamp, hr, isl_1, pk_sub]
/-- a step of the reference's search -/
theorem MNp_step {R : Nat → Bool} {i : Nat} {b : Int32} (hb : MNp R i b) (hi : i < 128) :
    (R i = false → MNp R (i + 1) b) ∧ (∀ S, S < i → b = nI S → popc S ≤ popc i → MNp R (i + 1) b) ∧ (R i = true → (b < 0 ∨ ∃ S, S < i ∧ b = nI S ∧ popc i < popc S) → MNp R (i + 1) (nI i)) := by
  refine ⟨fun hR => ?_, fun S hS e hp => ?_, fun hR hq => ?_⟩
  · rcases hb with ⟨a1, a2⟩ | ⟨S, a1, a2, a3, a4⟩
    · refine Or.inl ⟨a1, fun T hT => ?_⟩
      rcases Nat.lt_or_ge T i with q | q
      · exact a2 T q
      · obtain rfl : T = i := by omega
        exact hR
    · refine Or.inr ⟨S, by omega, a2, a3, fun T hT hT2 => ?_⟩
      rcases Nat.lt_or_ge T i with q | q
      · exact a4 T q hT2
      · obtain rfl : T = i := by omega
        rw [hR] at hT2; cases hT2
  · rcases hb with ⟨a1, a2⟩ | ⟨S', a1, a2, a3, a4⟩
    · rw [a1] at e
      exact absurd e.symm (nI_neg2 (by omega))
    · obtain rfl : S' = S := nI_inj (by omega) (by omega) (by rw [← a2, ← e])
      refine Or.inr ⟨S', by omega, a2, a3, fun T hT hT2 => ?_⟩
      rcases Nat.lt_or_ge T i with q | q
      · exact a4 T q hT2
      · obtain rfl : T = i := by omega
        omega
  · refine Or.inr ⟨i, by omega, rfl, hR, fun T hT hT2 => ?_⟩
    rcases Nat.lt_or_ge T i with q | q
    · rcases hb with ⟨a1, a2⟩ | ⟨S', a1, a2, a3, a4⟩
      · rw [a2 T q] at hT2; cases hT2
      · rcases hq with hq | ⟨S, b1, b2, b3⟩
        · rw [a2] at hq; exact absurd hq (nI_pos (by omega))
        · obtain rfl : S' = S := nI_inj (by omega) (by omega) (by rw [← a2, ← b2])
          have := a4 T q hT2
          omega
    · obtain rfl : T = i := by omega
      exact Or.inr ⟨rfl, Nat.le_refl _⟩
theorem M_holds (hx : MX h c vM r st) {t g y k : Nat} (ht : t < h 3) (hg : g < h 2) (hy : y < pl h g) (hk : k ≤ 30) :
    ∃ a vM' tr', fX9_holds vM r st trial (nI t) (nI g) (nI y) (nI k) = some (a, vM', tr') ∧ MNp (Rb h c k t t (9 * g + y)) (2 ^ h 3) a ∧ MA vM vM' (nI 0) := by
  obtain ⟨hw, hc, hj, h8, hr, hst, h14⟩ := hx
  have h2 := hw.2.2.2.2.1
  have h3 := hw.2.2.2.2.2.1
  have hp9 := (hw.2.2.2.2.2.2.2.2.2.1 g hg).2
  have p7 : 2 ^ h 3 ≤ 128 := Nat.le_trans (show 2 ^ h 3 ≤ 2 ^ 7 from Nat.pow_le_pow_right (by omega) h3) (by decide)
  have p0 : 0 < 2 ^ h 3 := Nat.two_pow_pos _
  obtain ⟨v, ev, hma, hv⟩ := m_good vM
  have v14 : v 14 = nI 1 := by rw [hv 14 (by omega) (by omega)]; exact h14
  unfold fX9_holds fX9_holds_J27
  rw [ev, bdS, m_isThing_t hw hr v14 ht, bdS, if_neg (by rw [nlit, n10]; exact id), m_isPlace_t hw hr v14 hg hy, bdS, if_neg (by rw [nlit, n10]; exact id)]
  simp only [nlit]
  rw [m_why_0 (by omega) rfl hk, bdS]
  simp only [↓reduceIte]
  refine Exists.elim (lp_inv (f := fX9_holds_B55 r st (nI t) (nI g) (nI y) (nI k)) (fun i s => ∃ b p, s = (b, nI i, p, v) ∧ MNp (Rb h c k t t (9 * g + y)) i b) (fun res => ∃ b p, res = (b, v, p) ∧ MNp (Rb h c k t t (9 * g + y)) (2 ^ h 3) b) (2 ^ h 3) ?_ ?_ 5000 0 (-nI 2, nI 0, trial, v) (Nat.zero_le _) ⟨-nI 2, trial, rfl, Or.inl ⟨rfl, fun T hT => by omega⟩⟩ (by omega)) (fun res hres => ?_)
  · rintro i s hi ⟨b, p, rfl, hb⟩
    left
    obtain ⟨st1, st2, st3⟩ := MNp_step hb (show i < 128 by omega)
    have hle : i &&& c 7 ≤ i := Nat.and_le_left
    obtain ⟨tr', e⟩ := m_isThereBy (vM := v) (trial := p) hw hc hj h8 hr hst hi ht (x := 9 * g + y) (by omega) (k := k) (by omega)
    have eR : Rb h c k t t (9 * g + y) i = ((i &&& c 7 == 0) && (nights h (held c i) k t == 9 * g + y)) := by
      unfold Rb hitb; rw [if_pos rfl]
    have J : i &&& c 7 = 0 → (b < nI 0 ∨ ∃ S, S < i ∧ b = nI S ∧ popc i < popc S) → ∃ s', fX9_holds_J95 r st (nI t) (nI g) (nI y) (nI k) b (nI i) p v = some (.inr s') ∧ ∃ b p, s' = (b, nI (i + 1), p, v) ∧ MNp (Rb h c k t t (9 * g + y)) (i + 1) b := by
      intro h0 hq
      simp (disch := omega) only [fX9_holds_J95, fX9_holds_J117, nlit, pk_mul, nI_add, e, bdS]
      cases hh : (nights h (held c i) k t == 9 * g + y) with
      | false => exact ⟨_, rfl, b, tr', rfl, st1 (by rw [eR, hh, Bool.and_false])⟩
      | true => exact ⟨_, rfl, nI i, tr', rfl, st3 (by rw [eR, hh, h0]; rfl) hq⟩
    simp (disch := omega) only [fX9_holds_B55, fX9_holds_J117, m_allThings hw hr, bdS, nlit, nI_ltI, ok_nI, gdT, nI_clamp, hst, nI_and, nI_eq]
    rw [if_neg (by omega)]
    by_cases h0 : i &&& c 7 = 0
    · rw [if_pos h0]
      rcases hb with ⟨a1, a2⟩ | ⟨S, a1, a2, a3, a4⟩
      · rw [a1]
        simp only [show ((-2 : Int32) < nI 0) = True from eq_true (by decide), if_true]
        rw [← a1]
        exact J h0 (Or.inl (by rw [a1]; decide))
      · have q1 := popc_le i
        have q2 := popc_le S
        rw [a2]
        simp (disch := omega) only [nI_ltI, m_ones (show i < 2 ^ 31 by omega), m_ones (show S < 2 ^ 31 by omega), bdS, nI_leI]
        rw [if_neg (by omega)]
        by_cases hl : popc S ≤ popc i
        · rw [if_pos hl]
          refine ⟨_, rfl, nI S, p, by rw [nI_add], ?_⟩
          have := st2 S a1 a2 hl
          rw [a2] at this
          exact this
        · rw [if_neg hl, ← a2]
          exact J h0 (Or.inr ⟨S, a1, a2, by omega⟩)
    · rw [if_neg h0]
      refine ⟨_, rfl, b, p, by rw [nI_add], st1 ?_⟩
      rw [eR]
      simp [h0]
  · rintro s ⟨b, p, rfl, hb⟩
    simp (disch := omega) only [fX9_holds_B55, m_allThings hw hr, bdS, nI_ltI, exS]
    rw [if_pos (by omega)]
    exact ⟨_, rfl, b, p, rfl, hb⟩
  · obtain ⟨e, b, p, hres, hb⟩ := hres
    exact ⟨b, v, p, e.trans (congrArg some hres), hb, hma⟩
theorem M_holdsToMeet (hx : MX h c vM r st) {t u k : Nat} (ht : t < h 3) (hu : u < h 3) (hne : t ≠ u) (hk : k ≤ 30) :
    ∃ a vM' tr', fX9_holdsToMeet vM r st trial (nI t) (nI u) (nI k) = some (a, vM', tr') ∧ MNp (Rb h c k t u 0) (2 ^ h 3) a ∧ MA vM vM' (nI 0) := by
  obtain ⟨hw, hc, hj, h8, hr, hst, h14⟩ := hx
  have h2 := hw.2.2.2.2.1
  have h3 := hw.2.2.2.2.2.1
  have p7 : 2 ^ h 3 ≤ 128 := Nat.le_trans (show 2 ^ h 3 ≤ 2 ^ 7 from Nat.pow_le_pow_right (by omega) h3) (by decide)
  have p0 : 0 < 2 ^ h 3 := Nat.two_pow_pos _
  obtain ⟨v, ev, hma, hv⟩ := m_good vM
  have v14 : v 14 = nI 1 := by rw [hv 14 (by omega) (by omega)]; exact h14
  unfold fX9_holdsToMeet
  rw [ev, bdS, m_areTwo_t hw hr v14 ht hu hne, bdS]
  simp only [nlit]
  rw [m_why_0 (by omega) rfl hk, bdS]
  simp only [↓reduceIte]
  refine Exists.elim (lp_inv (f := fX9_holdsToMeet_B38 r st (nI t) (nI u) (nI k)) (fun i s => ∃ b p, s = (b, nI i, p, v) ∧ MNp (Rb h c k t u 0) i b) (fun res => ∃ b p, res = (b, v, p) ∧ MNp (Rb h c k t u 0) (2 ^ h 3) b) (2 ^ h 3) ?_ ?_ 5000 0 (-nI 2, nI 0, trial, v) (Nat.zero_le _) ⟨-nI 2, trial, rfl, Or.inl ⟨rfl, fun T hT => by omega⟩⟩ (by omega)) (fun res hres => ?_)
  · rintro i s hi ⟨b, p, rfl, hb⟩
    left
    obtain ⟨st1, st2, st3⟩ := MNp_step hb (show i < 128 by omega)
    have hle : i &&& c 7 ≤ i := Nat.and_le_left
    obtain ⟨tr', e⟩ := m_doMeetBy (vM := v) (trial := p) hw hc hj h8 hr hst hi ht hu (k := k) (by omega)
    have eR : Rb h c k t u 0 i = ((i &&& c 7 == 0) && doorb h (nights h (held c i) k t) (nights h (held c i) k u)) := by
      unfold Rb hitb; rw [if_neg hne]
    have J : i &&& c 7 = 0 → (b < nI 0 ∨ ∃ S, S < i ∧ b = nI S ∧ popc i < popc S) → ∃ s', fX9_holdsToMeet_J78 r st (nI t) (nI u) (nI k) b (nI i) p v = some (.inr s') ∧ ∃ b p, s' = (b, nI (i + 1), p, v) ∧ MNp (Rb h c k t u 0) (i + 1) b := by
      intro h0 hq
      simp (disch := omega) only [fX9_holdsToMeet_J78, fX9_holdsToMeet_J94, nlit, nI_add, e, bdS]
      cases hh : doorb h (nights h (held c i) k t) (nights h (held c i) k u) with
      | false => exact ⟨_, rfl, b, tr', rfl, st1 (by rw [eR, hh, Bool.and_false])⟩
      | true => exact ⟨_, rfl, nI i, tr', rfl, st3 (by rw [eR, hh, h0]; rfl) hq⟩
    simp (disch := omega) only [fX9_holdsToMeet_B38, fX9_holdsToMeet_J94, m_allThings hw hr, bdS, nlit, nI_ltI, ok_nI, gdT, nI_clamp, hst, nI_and, nI_eq]
    rw [if_neg (by omega)]
    by_cases h0 : i &&& c 7 = 0
    · rw [if_pos h0]
      rcases hb with ⟨a1, a2⟩ | ⟨S, a1, a2, a3, a4⟩
      · rw [a1]
        simp only [show ((-2 : Int32) < nI 0) = True from eq_true (by decide), if_true]
        rw [← a1]
        exact J h0 (Or.inl (by rw [a1]; decide))
      · have q1 := popc_le i
        have q2 := popc_le S
        rw [a2]
        simp (disch := omega) only [nI_ltI, m_ones (show i < 2 ^ 31 by omega), m_ones (show S < 2 ^ 31 by omega), bdS, nI_leI]
        rw [if_neg (by omega)]
        by_cases hl : popc S ≤ popc i
        · rw [if_pos hl]
          refine ⟨_, rfl, nI S, p, by rw [nI_add], ?_⟩
          have := st2 S a1 a2 hl
          rw [a2] at this
          exact this
        · rw [if_neg hl, ← a2]
          exact J h0 (Or.inr ⟨S, a1, a2, by omega⟩)
    · rw [if_neg h0]
      refine ⟨_, rfl, b, p, by rw [nI_add], st1 ?_⟩
      rw [eR]
      simp [h0]
  · rintro s ⟨b, p, rfl, hb⟩
    simp (disch := omega) only [fX9_holdsToMeet_B38, m_allThings hw hr, bdS, nI_ltI, exS]
    rw [if_pos (by omega)]
    exact ⟨_, rfl, b, p, rfl, hb⟩
  · obtain ⟨e, b, p, hres, hb⟩ := hres
    exact ⟨b, v, p, e.trans (congrArg some hres), hb, hma⟩
end HO
