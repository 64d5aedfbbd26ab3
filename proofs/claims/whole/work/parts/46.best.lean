/-! MATH 26: best, bestPays -/
def lexle (S T : Nat) : Prop := popc S < popc T ∨ (popc S = popc T ∧ S ≤ T)
def Pay (h c : Nat → Nat) (n S : Nat) : Nat := wsum h (kb h c n S) (h 6)
def inG (h c : Nat → Nat) (n g w : Nat) : Bool := reach h c n w && wc h w / 9 == g
def Pg (h c : Nat → Nat) (n g S : Nat) : Nat := wsum h (fun w => inG h c n g w && kb h c n S w) (h 6)
def bef (T m i : Nat) : Prop := popc T < m ∨ (popc T = m ∧ T < i)
def BI (P : Nat → Nat) (F m i : Nat) (o : Option Nat) (Sb : Nat) : Prop := match o with
  | none => Sb = 0 ∧ m = 0 ∧ i = 0
  | some v => sub Sb F = true ∧ P Sb = v ∧ bef Sb m i ∧ ∀ T, sub T F = true → bef T m i → P T < v ∨ (P T = v ∧ lexle Sb T)
def BRp (P : Nat → Nat) (F S : Nat) : Prop := sub S F = true ∧ ∀ T, sub T F = true → P T < P S ∨ (P T = P S ∧ lexle S T)
def oI (o : Option Nat) : Int32 := match o with
  | none => -1
  | some v => nI v
theorem BI_skip {P : Nat → Nat} {F m i : Nat} {o : Option Nat} {Sb : Nat} (hb : BI P F m i o Sb) (hq : (sub i F && popc i == m) = false) : BI P F m (i + 1) o Sb := by
  cases o with
  | none =>
    obtain ⟨a1, a2, a3⟩ := hb
    subst a2; subst a3
    have : (sub 0 F && popc 0 == 0) = true := by
      have e : popc 0 = 0 := by decide
      have e2 : sub 0 F = true := sub_iff.mpr (fun t ht => by rw [Nat.zero_testBit] at ht; cases ht)
      rw [e2, e]; rfl
    rw [this] at hq
    cases hq
  | some v =>
    obtain ⟨a1, a2, a3, a4⟩ := hb
    refine ⟨a1, a2, ?_, fun T hT hb => ?_⟩
    · unfold bef at *; omega
    · apply a4 T hT
      rcases hb with q | ⟨q1, q2⟩
      · exact Or.inl q
      · rcases Nat.lt_or_ge T i with q3 | q3
        · exact Or.inr ⟨q1, q3⟩
        · obtain rfl : T = i := by omega
          rw [hT] at hq
          simp [q1] at hq
theorem BI_keep {P : Nat → Nat} {F m i v Sb : Nat} (hb : BI P F m i (some v) Sb) (hq : (sub i F && popc i == m) = true) (hl : P i ≤ v) : BI P F m (i + 1) (some v) Sb := by
  obtain ⟨a1, a2, a3, a4⟩ := hb
  have hq' : sub i F = true ∧ popc i = m := by simpa using hq
  refine ⟨a1, a2, ?_, fun T hT hb => ?_⟩
  · unfold bef at *; omega
  · by_cases e : T = i
    · subst e
      rcases Nat.lt_or_ge (P T) v with q | q
      · exact Or.inl q
      · refine Or.inr ⟨by omega, ?_⟩
        unfold bef at a3
        unfold lexle
        omega
    · apply a4 T hT
      unfold bef at *
      omega
theorem BI_take {P : Nat → Nat} {F m i : Nat} {o : Option Nat} {Sb : Nat} (hb : BI P F m i o Sb) (hq : (sub i F && popc i == m) = true) (hl : ∀ v, o = some v → v < P i) : BI P F m (i + 1) (some (P i)) i := by
  have hq' : sub i F = true ∧ popc i = m := by simpa using hq
  refine ⟨hq'.1, rfl, Or.inr ⟨hq'.2, by omega⟩, fun T hT hbT => ?_⟩
  by_cases e : T = i
  · subst e
    exact Or.inr ⟨rfl, Or.inr ⟨rfl, Nat.le_refl _⟩⟩
  · have hbT : bef T m i := by unfold bef at *; omega
    cases o with
    | none =>
      obtain ⟨a1, a2, a3⟩ := hb
      unfold bef at hbT
      omega
    | some v =>
      obtain ⟨a1, a2, a3, a4⟩ := hb
      have := hl v rfl
      rcases a4 T hT hbT with q | ⟨q, -⟩ <;> exact Or.inl (by omega)
theorem BI_next {P : Nat → Nat} {F m : Nat} {o : Option Nat} {Sb : Nat} (hb : BI P F m (F + 1) o Sb) : BI P F (m + 1) 0 o Sb := by
  cases o with
  | none => obtain ⟨a1, a2, a3⟩ := hb; omega
  | some v =>
    obtain ⟨a1, a2, a3, a4⟩ := hb
    refine ⟨a1, a2, ?_, fun T hT hbT => a4 T hT ?_⟩
    · unfold bef at *; omega
    · have := sub_le hT
      unfold bef at *
      omega
theorem BI_stop {P : Nat → Nat} {F m i v Sb : Nat} (hb : BI P F m i (some v) Sb) (hm : ∀ T, P T ≤ v) : BI P F (m + 1) 0 (some v) Sb := by
  obtain ⟨a1, a2, a3, a4⟩ := hb
  refine ⟨a1, a2, ?_, fun T hT hbT => ?_⟩
  · unfold bef at *; omega
  · by_cases e : bef T m i
    · exact a4 T hT e
    · have := hm T
      rcases Nat.lt_or_ge (P T) v with q | q
      · exact Or.inl q
      · refine Or.inr ⟨by omega, ?_⟩
        unfold bef at *
        unfold lexle
        omega
section BE
variable {h c : Nat → Nat} {vH nx wd sz kd srt plc d1 d2 vD now vN vW cl who fro vG vU ut uc un uw vM r st trial : Nat → Int32} {aH aW : Nat} {x0 : Option Nat}
theorem c_bestInRing (hw : WFh h) (hww : WFw h) (hcw : CW h vU ut uc un uw) (hh : HC h vH nx wd sz kd srt none) (hc : okRow h c) (hj : injC h c) (h8 : c 8 ≤ 1000) (hd : DR h c now) {n g : Nat} (hn : n ≤ 60) (hg : g < 4) :
    ∃ S vW' who' cl' fro' aW', fX3_bestInRing aH aW vH vU uw vD now kd un vG vW who cl srt nx fro sz wd ut uc (nI (bm (inG h c n g) (h 6))) (nI g) = some (nI S, vW', who', cl', fro', aW') ∧ BRp (Pg h c n g) (Fm h c g g) S := by
  have h3 := hw.2.2.2.2.2.1
  have h6 := hw.2.2.2.2.2.2.2.1
  have p7 : 2 ^ h 3 ≤ 128 := Nat.le_trans (show 2 ^ h 3 ≤ 2 ^ 7 from Nat.pow_le_pow_right (by omega) h3) (by decide)
  generalize hF : Fm h c g g = F
  have hFl : F < 2 ^ h 3 := by rw [← hF]; exact Fm_lt _ _ _ _
  have hpF := popc_le F
  have ef : fX3_freeIn vH vD now kd (isl (nI 1) (nI g)) = some (nI F) := by
    have := c_freeIn (vD := vD) hw hh hc hd hg hg
    rw [hF] at this
    rw [← this]
    congr 1
    rw [isl_1 (by omega), nI_or, Nat.or_self]
  have hwp : ∀ w, w < h 6 → wp h w ≤ 99 := fun w hw6 => (hww w hw6).2.2.2
  generalize hM : wsum h (inG h c n g) (h 6) = M
  have hMb : M ≤ 594 := by rw [← hM]; have := wsum_le h (inG h c n g) (h 6) hwp; omega
  have hPM : ∀ T, Pg h c n g T ≤ M := fun T => by
    rw [← hM]
    exact wsum_mono (fun w _ e => by revert e; cases inG h c n g w <;> simp)
  unfold fX3_bestInRing
  rw [c_worthOf hw hww hcw, bdS]
  simp only [nlit]
  rw [ef, bdS, hM]
  have inner : ∀ m, m < 100 → ∀ (o : Option Nat) (Sb : Nat) (cl0 fro0 who0 vW0 : Nat → Int32) (aW0 : Nat), BI (Pg h c n g) F m 0 o Sb → (∀ v, o = some v → v ≤ M) →
      ∃ o' Sb' cl' fro' who' aW' vW', lp (fX3_bestInRing_B43 aH vH vU uw vD now kd un vG srt nx sz wd ut uc (nI (bm (inG h c n g) (h 6))) (nI M) (nI F) (nI m)) 5000 (oI o, nI Sb, nI 0, cl0, fro0, who0, aW0, vW0) = some (.inr (nI M, nI F, oI o', nI Sb', nI (m + 1), cl', fro', who', aW', vW')) ∧ BI (Pg h c n g) F (m + 1) 0 o' Sb' ∧ ∀ v, o' = some v → v ≤ M := by
    intro m hm o Sb cl0 fro0 who0 vW0 aW0 hb0 hv0
    refine Exists.elim (lp_inv (f := fX3_bestInRing_B43 aH vH vU uw vD now kd un vG srt nx sz wd ut uc (nI (bm (inG h c n g) (h 6))) (nI M) (nI F) (nI m)) (fun i s => ∃ o Sb cl' fro' who' aW' vW', s = (oI o, nI Sb, nI i, cl', fro', who', aW', vW') ∧ BI (Pg h c n g) F m i o Sb ∧ ∀ v, o = some v → v ≤ M) (fun res => ∃ o' Sb' cl' fro' who' aW' vW', res = .inr (nI M, nI F, oI o', nI Sb', nI (m + 1), cl', fro', who', aW', vW') ∧ BI (Pg h c n g) F (m + 1) 0 o' Sb' ∧ ∀ v, o' = some v → v ≤ M) (F + 1) ?_ ?_ 5000 0 (oI o, nI Sb, nI 0, cl0, fro0, who0, aW0, vW0) (Nat.zero_le _) ⟨o, Sb, cl0, fro0, who0, aW0, vW0, rfl, hb0, hv0⟩ (by omega)) (fun res hr => ?_)
    · rintro i s hi ⟨o, Sb, cl', fro', who', aW', vW', rfl, hb, hv⟩
      have hi2 : i < 2 ^ h 3 := by omega
      have hdec : (nI M ≤ oI o) ↔ ∃ v, o = some v ∧ M ≤ v := by
        cases o with
        | none =>
          constructor
          · intro e
            have : ¬ nI M ≤ (-1 : Int32) := by
              rw [Int32.le_iff_toInt_le, nI_toInt (by omega)]
              have : (-1 : Int32).toInt = -1 := by decide
              omega
            exact absurd e this
          · rintro ⟨v, e, -⟩; cases e
        | some v =>
          have := hv v rfl
          show nI M ≤ nI v ↔ _
          rw [nI_leI (by omega) (by omega)]
          exact ⟨fun e => ⟨v, rfl, e⟩, fun ⟨v', e1, e2⟩ => by cases e1; exact e2⟩
      simp (disch := omega) only [fX3_bestInRing_B43, fX3_bestInRing_J102, fX3_bestInRing_J108, nlit, nI_ltI, c_isOfThese, bdS]
      rw [if_neg (by omega)]
      by_cases hst : nI M ≤ oI o
      · rw [if_pos hst]
        right
        obtain ⟨v, rfl, hMv⟩ := hdec.mp hst
        exact ⟨_, rfl, some v, Sb, cl', fro', who', aW', vW', by rw [nI_add], BI_stop hb (fun T => Nat.le_trans (hPM T) hMv), hv⟩
      · rw [if_neg hst]
        left
        cases hq : (sub i F && popc i == m) with
        | false =>
          simp only [Bool.false_eq_true, if_false, ↓reduceIte]
          exact ⟨_, rfl, o, Sb, cl', fro', who', aW', vW', by rw [nI_add], BI_skip hb hq, hv⟩
        | true =>
          obtain ⟨vW1, who1, cl1, fro1, e1⟩ := c_paidOf (vG := vG) (vW := vW') (vD := vD) (who := who') (cl := cl') (fro := fro') hw hww hcw hh hc hj h8 hd hn hi2 (inG h c n g) (fun w _ e => by unfold inG at e; revert e; cases reach h c n w <;> simp)
          have hPi : fX7_worthOf vU uw (nI (bm (fun w => inG h c n g w && kb h c n i w) (h 6))) = some (nI (Pg h c n g i)) := c_worthOf hw hww hcw _
          have hPb := hPM i
          simp only [if_true, n10, if_false, e1, bdS, hPi]
          have hdec2 : (nI (Pg h c n g i) ≤ oI o) ↔ ∃ v, o = some v ∧ Pg h c n g i ≤ v := by
            cases o with
            | none =>
              constructor
              · intro e
                have : ¬ nI (Pg h c n g i) ≤ (-1 : Int32) := by
                  rw [Int32.le_iff_toInt_le, nI_toInt (by omega)]
                  have : (-1 : Int32).toInt = -1 := by decide
                  omega
                exact absurd e this
              · rintro ⟨v, e, -⟩; cases e
            | some v =>
              have := hv v rfl
              show nI _ ≤ nI v ↔ _
              rw [nI_leI (by omega) (by omega)]
              exact ⟨fun e => ⟨v, rfl, e⟩, fun ⟨v', e1, e2⟩ => by cases e1; exact e2⟩
          by_cases hl : nI (Pg h c n g i) ≤ oI o
          · rw [if_pos hl]
            obtain ⟨v, rfl, hPv⟩ := hdec2.mp hl
            exact ⟨_, rfl, some v, Sb, cl1, fro1, who1, aH, vW1, by rw [nI_add], BI_keep hb hq hPv, hv⟩
          · rw [if_neg hl]
            refine ⟨_, rfl, some (Pg h c n g i), i, cl1, fro1, who1, aH, vW1, by rw [nI_add]; rfl, BI_take hb hq (fun v e => ?_), fun v e => by cases e; exact hPb⟩
            rcases Nat.lt_or_ge v (Pg h c n g i) with q | q
            · exact q
            · exact absurd (hdec2.mpr ⟨v, e, q⟩) hl
    · rintro s ⟨o, Sb, cl', fro', who', aW', vW', rfl, hb, hv⟩
      simp (disch := omega) only [fX3_bestInRing_B43, fX3_bestInRing_J108, nlit, nI_ltI, exS, nI_add]
      rw [if_pos (by omega)]
      exact ⟨_, rfl, o, Sb, cl', fro', who', aW', vW', rfl, BI_next hb, hv⟩
    · obtain ⟨e, o', Sb', cl', fro', who', aW', vW', hr, hb⟩ := hr
      exact ⟨o', Sb', cl', fro', who', aW', vW', e.trans (congrArg some hr), hb⟩
  refine Exists.elim (lp_inv (f := fX3_bestInRing_B30 aH vH vU uw vD now kd un vG srt nx sz wd ut uc (nI (bm (inG h c n g) (h 6)))) (fun m s => ∃ o Sb cl' fro' who' aW' vW', s = (nI M, nI F, oI o, nI Sb, nI m, cl', fro', who', aW', vW') ∧ BI (Pg h c n g) F m 0 o Sb ∧ ∀ v, o = some v → v ≤ M) (fun res => ∃ S vW' who' cl' fro' aW', res = (nI S, vW', who', cl', fro', aW') ∧ BRp (Pg h c n g) F S) (popc F + 1) ?_ ?_ 5000 0 (nI M, nI F, -nI 1, nI 0, nI 0, cl, fro, who, aW, vW) (Nat.zero_le _) ⟨none, 0, cl, fro, who, aW, vW, rfl, ⟨rfl, rfl, rfl⟩, fun v e => by cases e⟩ (by omega)) (fun res hr => ?_)
  · rintro m s hm ⟨o, Sb, cl', fro', who', aW', vW', rfl, hb, hv⟩
    left
    obtain ⟨o2, Sb2, cl2, fro2, who2, aW2, vW2, e, hb2, hv2⟩ := inner m (by omega) o Sb cl' fro' who' vW' aW' hb hv
    simp (disch := omega) only [fX3_bestInRing_B30, nlit, bc_nI F (show F < 128 by omega), bdS, nI_ltI]
    rw [if_neg (by omega), e]
    exact ⟨_, rfl, o2, Sb2, cl2, fro2, who2, aW2, vW2, rfl, hb2, hv2⟩
  · rintro s ⟨o, Sb, cl', fro', who', aW', vW', rfl, hb, hv⟩
    simp (disch := omega) only [fX3_bestInRing_B30, bc_nI F (show F < 128 by omega), bdS, nI_ltI, exS]
    rw [if_pos (by omega)]
    refine ⟨_, rfl, Sb, vW', who', cl', fro', aW', rfl, ?_⟩
    cases o with
    | none => obtain ⟨a1, a2, a3⟩ := hb; omega
    | some v =>
      obtain ⟨a1, a2, a3, a4⟩ := hb
      refine ⟨a1, fun T hT => ?_⟩
      rw [a2]
      apply a4 T hT
      have e : T &&& F = T := by simpa [sub] using hT
      have : popc T ≤ popc F := by rw [← e, Nat.and_comm]; exact popc_and F T
      unfold bef
      omega
  · obtain ⟨e, S, vW', who', cl', fro', aW', hr, hb⟩ := hr
    exact ⟨S, vW', who', cl', fro', aW', e.trans (congrArg some hr), hb⟩
end BE
/-! sums over rings -/
def sumG (f : Nat → Nat) : Nat → Nat
  | 0 => 0
  | g + 1 => sumG f g + f g
theorem sumG_le {f f' : Nat → Nat} {k : Nat} (e : ∀ g, g < k → f g ≤ f' g) : sumG f k ≤ sumG f' k := by
  induction k with
  | zero => exact Nat.le_refl _
  | succ k ih =>
    rw [sumG, sumG]
    have := ih (fun g hg => e g (by omega))
    have := e k (by omega)
    omega
theorem sumG_eq {f f' : Nat → Nat} {k : Nat} (e : ∀ g, g < k → f g ≤ f' g) (hs : sumG f k = sumG f' k) : ∀ g, g < k → f g = f' g := by
  induction k with
  | zero => intro g hg; omega
  | succ k ih =>
    rw [sumG, sumG] at hs
    have h1 := sumG_le (fun g hg => e g (show g < k + 1 by omega)) (k := k)
    have h2 := e k (by omega)
    intro g hg
    rcases Nat.lt_or_ge g k with q | q
    · exact ih (fun g hg => e g (by omega)) (by omega) g q
    · obtain rfl : g = k := by omega
      omega
theorem sumG_ext {f f' : Nat → Nat} {k : Nat} (e : ∀ g, g < k → f g = f' g) : sumG f k = sumG f' k := by
  induction k with
  | zero => rfl
  | succ k ih => rw [sumG, sumG, ih (fun g hg => e g (by omega)), e k (by omega)]
theorem bm_add1 (p : Nat → Bool) (n : Nat) : bm p (n + 1) = bm p n + if p n then 2 ^ n else 0 := by
  rw [bm]
  cases hp : p n with
  | false => simp
  | true =>
    simp only [if_true]
    have := Nat.two_pow_add_eq_or_of_lt (bm_lt p n) 1
    rw [Nat.mul_one] at this
    rw [Nat.or_comm, ← this, Nat.add_comm]
theorem bm_disj {p q : Nat → Bool} {n : Nat} (e : ∀ t, t < n → ¬ (p t = true ∧ q t = true)) : bm (fun t => p t || q t) n = bm p n + bm q n := by
  induction n with
  | zero => rfl
  | succ n ih =>
    rw [bm_add1, bm_add1, bm_add1, ih (fun t ht => e t (by omega))]
    have := e n (by omega)
    cases hp : p n <;> cases hq : q n <;> simp_all <;> omega
theorem cnt_disj {p q : Nat → Bool} {n : Nat} (e : ∀ t, t < n → ¬ (p t = true ∧ q t = true)) : cnt (fun t => p t || q t) n = cnt p n + cnt q n := by
  induction n with
  | zero => rfl
  | succ n ih =>
    rw [cnt, cnt, cnt, ih (fun t ht => e t (by omega))]
    have := e n (by omega)
    cases hp : p n <;> cases hq : q n <;> simp_all <;> omega
theorem or_disj {a b : Nat} (ha : a < 256) (hb : b < 256) (e : ∀ t, ¬ (a.testBit t = true ∧ b.testBit t = true)) : a ||| b = a + b ∧ popc (a ||| b) = popc a + popc b := by
  constructor
  · have h1 := bm_of (n := 8) ha
    have h2 := bm_of (n := 8) hb
    have h3 := bm_disj (p := fun t => a.testBit t) (q := fun t => b.testBit t) (n := 8) (fun t _ => e t)
    rw [← h1, ← h2] at h3
    rw [← h3]
    apply Nat.eq_of_testBit_eq
    intro t
    rw [Nat.testBit_or, bm_bit]
    by_cases ht : t < 8
    · simp [ht]
    · have q1 : a < 2 ^ t := Nat.lt_of_lt_of_le ha (show 2 ^ 8 ≤ 2 ^ t from Nat.pow_le_pow_right (by omega) (by omega))
      have q2 : b < 2 ^ t := Nat.lt_of_lt_of_le hb (show 2 ^ 8 ≤ 2 ^ t from Nat.pow_le_pow_right (by omega) (by omega))
      rw [Nat.testBit_lt_two_pow q1, Nat.testBit_lt_two_pow q2]
      simp [ht]
  · unfold popc
    rw [← cnt_disj (fun t _ => e t)]
    exact cnt_ext (fun t _ => Nat.testBit_or _ _ _)
theorem wsum_disj {h : Nat → Nat} {p q : Nat → Bool} {n : Nat} (e : ∀ t, t < n → ¬ (p t = true ∧ q t = true)) : wsum h (fun t => p t || q t) n = wsum h p n + wsum h q n := by
  induction n with
  | zero => rfl
  | succ n ih =>
    rw [wsum, wsum, wsum, ih (fun t ht => e t (by omega))]
    have := e n (by omega)
    cases hp : p n <;> cases hq : q n <;> simp_all <;> omega
def orS (f : Nat → Nat) : Nat → Nat
  | 0 => 0
  | g + 1 => orS f g ||| f g
theorem orS_bit (f : Nat → Nat) (k t : Nat) : (orS f k).testBit t = true ↔ ∃ g, g < k ∧ (f g).testBit t = true := by
  induction k with
  | zero =>
    rw [orS, Nat.zero_testBit]
    exact ⟨fun e => (by cases e), fun ⟨g, hg, _⟩ => (by omega)⟩
  | succ k ih =>
    rw [orS, Nat.testBit_or]
    constructor
    · intro e
      rcases Bool.or_eq_true _ _ ▸ e with e | e
      · obtain ⟨g, h1, h2⟩ := ih.mp e
        exact ⟨g, by omega, h2⟩
      · exact ⟨k, by omega, e⟩
    · rintro ⟨g, h1, h2⟩
      rcases Nat.lt_or_ge g k with q | q
      · rw [ih.mpr ⟨g, q, h2⟩]; rfl
      · obtain rfl : g = k := by omega
        rw [h2, Bool.or_true]
theorem orS_ext {f f' : Nat → Nat} {k : Nat} (e : ∀ g, g < k → f g = f' g) : orS f k = orS f' k := by
  induction k with
  | zero => rfl
  | succ k ih => rw [orS, orS, ih (fun g hg => e g (by omega)), e k (by omega)]
section RS
variable {h c : Nat → Nat}
theorem Fm_bit (h c : Nat → Nat) (g t : Nat) : (Fm h c g g).testBit t = (decide (t < h 3) && freeb h c g t) := by
  unfold Fm
  rw [bm_bit, Bool.or_self]
/-- parts of different rings have nothing in common -/
theorem ring_disj {f : Nat → Nat} {k : Nat} (hs : ∀ g, g < k + 1 → sub (f g) (Fm h c g g) = true) : ∀ t, ¬ ((orS f k).testBit t = true ∧ (f k).testBit t = true) := by
  rintro t ⟨e1, e2⟩
  obtain ⟨g, hg, e1⟩ := (orS_bit f k t).mp e1
  have b1 := sub_iff.mp (hs g (by omega)) t e1
  have b2 := sub_iff.mp (hs k (by omega)) t e2
  rw [Fm_bit] at b1 b2
  unfold freeb at b1 b2
  have c1 : c t / 9 = g := by simp at b1; omega
  have c2 : c t / 9 = k := by simp at b2; omega
  omega
theorem orS_lt (hn : h 3 ≤ 7) {f : Nat → Nat} : ∀ k, (∀ g, g < k → sub (f g) (Fm h c g g) = true) → orS f k < 2 ^ h 3 := by
  intro k
  induction k with
  | zero => intro _; exact Nat.two_pow_pos _
  | succ k ih =>
    intro hs
    rw [orS]
    exact Nat.or_lt_two_pow (ih (fun g hg => hs g (by omega))) (Nat.lt_of_le_of_lt (sub_le (hs k (by omega))) (Fm_lt h c k k))
theorem orS_sum (hn : h 3 ≤ 7) {f : Nat → Nat} : ∀ k, (∀ g, g < k → sub (f g) (Fm h c g g) = true) → orS f k = sumG f k ∧ popc (orS f k) = sumG (fun g => popc (f g)) k := by
  have p7 : 2 ^ h 3 ≤ 128 := Nat.le_trans (show 2 ^ h 3 ≤ 2 ^ 7 from Nat.pow_le_pow_right (by omega) hn) (by decide)
  intro k
  induction k with
  | zero => intro _; exact ⟨rfl, show popc 0 = 0 by decide⟩
  | succ k ih =>
    intro hs
    obtain ⟨i1, i2⟩ := ih (fun g hg => hs g (by omega))
    have l1 := orS_lt (h := h) (c := c) hn k (fun g hg => hs g (by omega))
    have l2 : f k < 2 ^ h 3 := Nat.lt_of_le_of_lt (sub_le (hs k (by omega))) (Fm_lt h c k k)
    obtain ⟨d1, d2⟩ := or_disj (a := orS f k) (b := f k) (by omega) (by omega) (ring_disj hs)
    rw [orS, sumG, sumG]
    exact ⟨by rw [d1, i1], by rw [d2, i2]⟩
theorem orS_part {f : Nat → Nat} {k g : Nat} (hs : ∀ g, g < k → sub (f g) (Fm h c g g) = true) (hg : g < k) : orS f k &&& Fm h c g g = f g := by
  apply Nat.eq_of_testBit_eq
  intro t
  rw [Nat.testBit_and]
  cases hf : (f g).testBit t with
  | true =>
    rw [(orS_bit f k t).mpr ⟨g, hg, hf⟩, sub_iff.mp (hs g hg) t hf]; rfl
  | false =>
    cases ho : (orS f k).testBit t with
    | false => rfl
    | true =>
      obtain ⟨g', h1, h2⟩ := (orS_bit f k t).mp ho
      cases hF : (Fm h c g g).testBit t with
      | false => rfl
      | true =>
        have b1 := sub_iff.mp (hs g' h1) t h2
        rw [Fm_bit] at b1 hF
        unfold freeb at b1 hF
        have c1 : c t / 9 = g' := by simp at b1; omega
        have c2 : c t / 9 = g := by simp at hF; omega
        rw [← c2, c1, h2] at hf
        cases hf
theorem and_sub (T F : Nat) : sub (T &&& F) F = true := by
  apply sub_iff.mpr
  intro t ht
  rw [Nat.testBit_and] at ht
  revert ht
  cases F.testBit t <;> simp
theorem kb_and (hw : WFh h) (hww : WFw h) (hc : okRow h c) (hj : injC h c) (h8 : c 8 ≤ 1000) {n g S w : Nat} (hw6 : w < h 6) (hS : S < 2 ^ h 3) (hi : inG h c n g w = true) : kb h c n (S &&& Fm h c g g) w = kb h c n S w := by
  have h3 := hw.2.2.2.2.2.1
  obtain ⟨a1, a2, a3, a4⟩ := hww w hw6
  have hi' : ((c 8 < wn h w ∧ wn h w ≤ c 8 + n) ∧ c (wt h w) / 9 = wc h w / 9) ∧ wc h w / 9 = g := by simpa [inG, reach] using hi
  have hring : c (wt h w) / 9 = g := by omega
  have := hit_and hw hc hj h8 (k := wn h w - c 8) (x := wc h w) (by omega) a1 a1 hS
  unfold hitb at this
  rw [if_pos rfl, if_pos rfl, hring] at this
  unfold kb
  rw [this]
theorem Pg_and (hw : WFh h) (hww : WFw h) (hc : okRow h c) (hj : injC h c) (h8 : c 8 ≤ 1000) {n g S : Nat} (hS : S < 2 ^ h 3) : Pg h c n g (S &&& Fm h c g g) = Pg h c n g S := by
  unfold Pg
  apply wsum_ext
  intro w hw6
  cases hi : inG h c n g w with
  | false => rfl
  | true => rw [kb_and hw hww hc hj h8 hw6 hS hi]
theorem Pay_sum (hw : WFh h) (hww : WFw h) (hc : okRow h c) (hj : injC h c) (h8 : c 8 ≤ 1000) {n S : Nat} (hS : S < 2 ^ h 3) : Pay h c n S = sumG (fun g => Pg h c n g S) (h 2) := by
  have key : ∀ k, wsum h (fun w => (decide (wc h w / 9 < k) && reach h c n w) && kb h c n S w) (h 6) = sumG (fun g => Pg h c n g S) k := by
    intro k
    induction k with
    | zero =>
      rw [sumG]
      have : ∀ m, wsum h (fun w => (decide (wc h w / 9 < 0) && reach h c n w) && kb h c n S w) m = 0 := by
        intro m
        induction m with
        | zero => rfl
        | succ m ih => rw [wsum, ih]; simp
      exact this _
    | succ k ih =>
      rw [sumG, ← ih]
      unfold Pg
      rw [← wsum_disj]
      · apply wsum_ext
        intro w _
        unfold inG
        by_cases q : wc h w / 9 < k
        · have q1 : wc h w / 9 < k + 1 := by omega
          have q2 : ¬ wc h w / 9 = k := by omega
          simp [q, q1, q2]
        · by_cases q2 : wc h w / 9 = k
          · simp [q2]
          · have q1 : ¬ wc h w / 9 < k + 1 := by omega
            simp [q, q1, q2]
      · intro w _
        rintro ⟨e1, e2⟩
        unfold inG at e2
        simp at e1 e2
        omega
  rw [← key (h 2)]
  unfold Pay
  apply wsum_ext
  intro w hw6
  obtain ⟨a1, a2, a3, a4⟩ := hww w hw6
  cases hk : kb h c n S w with
  | false => rw [Bool.and_false]
  | true =>
    rw [kb_ring hw hww hc hj h8 hw6 hS hk]
    simp [a2.1]
/-- the best choice -/
def AX (h c : Nat → Nat) (n N S : Nat) : Prop := S < N ∧ S &&& c 7 = 0 ∧ ∀ T, T < N → T &&& c 7 = 0 → Pay h c n T < Pay h c n S ∨ (Pay h c n T = Pay h c n S ∧ lexle S T)
theorem AX_un {n N S T : Nat} (h1 : AX h c n N S) (h2 : AX h c n N T) : S = T := by
  obtain ⟨a1, a2, a3⟩ := h1
  obtain ⟨b1, b2, b3⟩ := h2
  have := a3 T b1 b2
  have := b3 S a1 a2
  unfold lexle at *
  omega
theorem AX_rings (hw : WFh h) (hww : WFw h) (hc : okRow h c) (hj : injC h c) (h8 : c 8 ≤ 1000) {n : Nat} {f : Nat → Nat} (hb : ∀ g, g < h 2 → BRp (Pg h c n g) (Fm h c g g) (f g)) : AX h c n (2 ^ h 3) (orS f (h 2)) := by
  have h3 := hw.2.2.2.2.2.1
  have hs : ∀ g, g < h 2 → sub (f g) (Fm h c g g) = true := fun g hg => (hb g hg).1
  have hA := orS_lt (h := h) (c := c) h3 (h 2) hs
  obtain ⟨v1, v2⟩ := orS_sum (h := h) (c := c) h3 (h 2) hs
  refine ⟨hA, ?_, fun T hT hT7 => ?_⟩
  · apply Nat.eq_of_testBit_eq
    intro t
    rw [Nat.testBit_and, Nat.zero_testBit]
    cases ho : (orS f (h 2)).testBit t with
    | false => rfl
    | true =>
      obtain ⟨g, h1, h2⟩ := (orS_bit f (h 2) t).mp ho
      have b1 := sub_iff.mp (hs g h1) t h2
      rw [Fm_bit] at b1
      unfold freeb at b1
      simp at b1
      simp [b1]
  · have hsT : ∀ g, g < h 2 → sub (T &&& Fm h c g g) (Fm h c g g) = true := fun g _ => and_sub T _
    obtain ⟨u1, u2⟩ := orS_sum (h := h) (c := c) h3 (f := fun g => T &&& Fm h c g g) (h 2) hsT
    -- the parts of T lie in T
    have hU : orS (fun g => T &&& Fm h c g g) (h 2) = orS (fun g => T &&& Fm h c g g) (h 2) &&& T := by
      apply Nat.eq_of_testBit_eq
      intro t
      rw [Nat.testBit_and]
      cases ho : (orS (fun g => T &&& Fm h c g g) (h 2)).testBit t with
      | false => rfl
      | true =>
        obtain ⟨g, h1, h2⟩ := (orS_bit _ (h 2) t).mp ho
        rw [Nat.testBit_and] at h2
        revert h2
        cases T.testBit t <;> simp
    have hU1 : orS (fun g => T &&& Fm h c g g) (h 2) ≤ T := by rw [hU]; exact Nat.and_le_right
    have hU2 : popc (orS (fun g => T &&& Fm h c g g) (h 2)) ≤ popc T := by rw [hU, Nat.and_comm]; exact popc_and _ _
    have eA : Pay h c n (orS f (h 2)) = sumG (fun g => Pg h c n g (f g)) (h 2) := by
      rw [Pay_sum hw hww hc hj h8 hA]
      apply sumG_ext
      intro g hg
      rw [← Pg_and hw hww hc hj h8 hA, orS_part hs hg]
    have eT : Pay h c n T = sumG (fun g => Pg h c n g (T &&& Fm h c g g)) (h 2) := by
      rw [Pay_sum hw hww hc hj h8 hT]
      apply sumG_ext
      intro g hg
      exact (Pg_and hw hww hc hj h8 hT).symm
    have hle : ∀ g, g < h 2 → Pg h c n g (T &&& Fm h c g g) ≤ Pg h c n g (f g) := fun g hg => by
      rcases (hb g hg).2 _ (and_sub T _) with q | ⟨q, -⟩ <;> omega
    have hsum := sumG_le hle
    rcases Nat.lt_or_ge (Pay h c n T) (Pay h c n (orS f (h 2))) with q | q
    · exact Or.inl q
    · have heq : Pay h c n T = Pay h c n (orS f (h 2)) := by omega
      refine Or.inr ⟨heq, ?_⟩
      have hall := sumG_eq hle (by rw [← eT, ← eA]; exact heq)
      have hlex : ∀ g, g < h 2 → lexle (f g) (T &&& Fm h c g g) := fun g hg => by
        rcases (hb g hg).2 _ (and_sub T (Fm h c g g)) with q | ⟨-, q⟩
        · have := hall g hg; omega
        · exact q
      have hpc : ∀ g, g < h 2 → popc (f g) ≤ popc (T &&& Fm h c g g) := fun g hg => by
        have := hlex g hg
        unfold lexle at this
        omega
      have hps := sumG_le hpc
      unfold lexle
      rcases Nat.lt_or_ge (popc (orS f (h 2))) (popc T) with q1 | q1
      · exact Or.inl q1
      · have heq2 : sumG (fun g => popc (f g)) (h 2) = sumG (fun g => popc (T &&& Fm h c g g)) (h 2) := by omega
        have hall2 := sumG_eq hpc heq2
        have hval : ∀ g, g < h 2 → f g ≤ T &&& Fm h c g g := fun g hg => by
          have e1 := hlex g hg
          have e2 := hall2 g hg
          unfold lexle at e1
          have e2 : popc (f g) = popc (T &&& Fm h c g g) := e2
          omega
        have hvs := sumG_le hval
        exact Or.inr ⟨by omega, by omega⟩
end RS
section BF
variable {h c : Nat → Nat} {vH nx wd sz kd srt plc d1 d2 vD now vN vW cl who fro vG vU ut uc un uw vM r st trial : Nat → Int32} {aH aW : Nat} {x0 : Option Nat}
theorem c_bestFor (hw : WFh h) (hww : WFw h) (hcw : CW h vU ut uc un uw) (hh : HC h vH nx wd sz kd srt none) (hc : okRow h c) (hj : injC h c) (h8 : c 8 ≤ 1000) (hd : DR h c now) {n : Nat} (hn : n ≤ 60) :
    ∃ S vW' who' cl' fro' aW', fX3_bestFor aH aW vH vU un vD now ut uc uw kd vG vW who cl srt nx fro sz wd (nI n) = some (nI S, vW', who', cl', fro', aW') ∧ AX h c n (2 ^ h 3) S := by
  have h2 := hw.2.2.2.2.1
  unfold fX3_bestFor
  rw [c_withinReach hw hww hcw hc h8 hd hn, bdS]
  simp only [nlit]
  refine Exists.elim (lp_inv (f := fX3_bestFor_B17 aH vH vU un vD now ut uc uw kd vG srt nx sz wd) (fun g s => ∃ f cl' fro' who' aW' vW', s = (nI (bm (reach h c n) (h 6)), nI (orS f g), nI g, cl', fro', who', aW', vW') ∧ ∀ x, x < g → BRp (Pg h c n x) (Fm h c x x) (f x)) (fun res => ∃ S vW' who' cl' fro' aW', res = (nI S, vW', who', cl', fro', aW') ∧ AX h c n (2 ^ h 3) S) (h 2) ?_ ?_ 5000 0 (nI (bm (reach h c n) (h 6)), nI 0, nI 0, cl, fro, who, aW, vW) (Nat.zero_le _) ⟨fun _ => 0, cl, fro, who, aW, vW, rfl, fun x hx => by omega⟩ (by omega)) (fun res hr => ?_)
  · rintro g s hg ⟨f, cl', fro', who', aW', vW', rfl, hf⟩
    left
    obtain ⟨S, vW2, who2, cl2, fro2, aW2, e, hS⟩ := c_bestInRing (aH := aH) (aW := aW') (vG := vG) (vW := vW') (vD := vD) (who := who') (cl := cl') (fro := fro') hw hww hcw hh hc hj h8 hd hn (g := g) (by omega)
    have er : fX7_ofRing vU uc (nI (bm (reach h c n) (h 6))) (nI g) = some (nI (bm (inG h c n g) (h 6))) := c_ofRing hw hww hcw (reach h c n) (by omega)
    simp (disch := omega) only [fX3_bestFor_B17, hh.2.1, nlit, nI_leI, er, bdS, e, nI_or, nI_add]
    rw [if_neg (by omega)]
    refine ⟨_, rfl, fun x => if x = g then S else f x, cl2, fro2, who2, aW2, vW2, ?_, fun x hx => ?_⟩
    · rw [orS, if_pos rfl, orS_ext (fun x hx => if_neg (by omega))]
    · by_cases q : x = g
      · subst q
        show BRp _ _ (if x = x then S else f x)
        rw [if_pos rfl]; exact hS
      · show BRp _ _ (if x = g then S else f x)
        rw [if_neg q]; exact hf x (by omega)
  · rintro s ⟨f, cl', fro', who', aW', vW', rfl, hf⟩
    simp (disch := omega) only [fX3_bestFor_B17, hh.2.1, nI_leI, exS]
    rw [if_pos (Nat.le_refl _)]
    exact ⟨_, rfl, _, vW', who', cl', fro', aW', rfl, AX_rings hw hww hc hj h8 hf⟩
  · obtain ⟨e, S, vW', who', cl', fro', aW', hr, hb⟩ := hr
    exact ⟨S, vW', who', cl', fro', aW', e.trans (congrArg some hr), hb⟩
theorem m_bestOf (hw : WFh h) (hww : WFw h) (hc : okRow h c) (hj : injC h c) (h8 : c 8 ≤ 1000) (hr : ∀ k, k < 224 → r k = nI (h k)) (hst : ∀ k, k < 9 → st k = nI (c k)) {n : Nat} (hn : n ≤ 60) :
    ∃ S tr', fX9_bestOf vM st trial r (nI n) = some (nI S, tr') ∧ AX h c n (2 ^ h 3) S := by
  have h3 := hw.2.2.2.2.2.1
  have h6 := hw.2.2.2.2.2.2.2.1
  have p7 : 2 ^ h 3 ≤ 128 := Nat.le_trans (show 2 ^ h 3 ≤ 2 ^ 7 from Nat.pow_le_pow_right (by omega) h3) (by decide)
  have p0 : 0 < 2 ^ h 3 := Nat.two_pow_pos _
  have hwp : ∀ w, w < h 6 → wp h w ≤ 99 := fun w hw6 => (hww w hw6).2.2.2
  have hPb : ∀ S, Pay h c n S ≤ 594 := fun S => by have := wsum_le h (kb h c n S) (h 6) hwp; unfold Pay; omega
  obtain ⟨t0, e0⟩ := m_keptBy (vM := vM) (trial := trial) hw hww hc hj h8 hr hst hn (S := 0) p0
  have hpay : ∀ S, fX9_payOf vM r (nI (bm (kb h c n S) (h 6))) = some (nI (Pay h c n S)) := fun S => m_payOf hw hr _
  unfold fX9_bestOf
  simp only [nlit]
  rw [e0, bdS]
  simp only
  rw [hpay, bdS]
  refine Exists.elim (lp_inv (f := fX9_bestOf_B16 vM st r (nI n)) (fun i s => ∃ S p, s = (nI S, nI (Pay h c n S), nI (i + 1), p) ∧ AX h c n (i + 1) S) (fun res => ∃ S p, res = (nI S, p) ∧ AX h c n (2 ^ h 3) S) (2 ^ h 3 - 1) ?_ ?_ 5000 0 (nI 0, nI (Pay h c n 0), nI 1, t0) (Nat.zero_le _) ⟨0, t0, rfl, by omega, Nat.zero_and _, fun T hT _ => ?_⟩ (by omega)) (fun res hres => ?_)
  · rintro i s hi ⟨S, p, rfl, hA⟩
    left
    obtain ⟨a1, a2, a3⟩ := hA
    have hle : i + 1 &&& c 7 ≤ i + 1 := Nat.and_le_left
    have b1 := hPb S
    have b2 := hPb (i + 1)
    obtain ⟨tr', e⟩ := m_keptBy (vM := vM) (trial := p) hw hww hc hj h8 hr hst hn (S := i + 1) (by omega)
    have q1 := popc_le (i + 1)
    have q2 := popc_le S
    simp (disch := omega) only [fX9_bestOf_B16, fX9_bestOf_J87, fX9_bestOf_J81, m_allThings hw hr, bdS, nlit, nI_ltI, ok_nI, gdT, nI_clamp, hst, nI_and, nI_eq, e, hpay, m_ones (show i + 1 < 2 ^ 31 by omega), m_ones (show S < 2 ^ 31 by omega), nI_add]
    rw [if_neg (by omega)]
    have keep : (∀ T, T = i + 1 → T &&& c 7 = 0 → Pay h c n T < Pay h c n S ∨ (Pay h c n T = Pay h c n S ∧ lexle S T)) → AX h c n (i + 1 + 1) S := fun hT => ⟨by omega, a2, fun T hT1 hT2 => by
      rcases Nat.lt_or_ge T (i + 1) with q | q
      · exact a3 T q hT2
      · exact hT T (by omega) hT2⟩
    have take : i + 1 &&& c 7 = 0 → (Pay h c n S < Pay h c n (i + 1) ∨ (Pay h c n (i + 1) = Pay h c n S ∧ popc (i + 1) < popc S)) → AX h c n (i + 1 + 1) (i + 1) := fun h0 hq => ⟨by omega, h0, fun T hT1 hT2 => by
      rcases Nat.lt_or_ge T (i + 1) with q | q
      · have := a3 T q hT2
        unfold lexle at *
        omega
      · obtain rfl : T = i + 1 := by omega
        exact Or.inr ⟨rfl, Or.inr ⟨rfl, Nat.le_refl _⟩⟩⟩
    by_cases h0 : i + 1 &&& c 7 = 0
    · rw [if_pos h0]
      by_cases hl : Pay h c n (i + 1) < Pay h c n S
      · rw [if_pos hl]
        exact ⟨_, rfl, S, tr', rfl, keep (fun T e _ => Or.inl (by rw [e]; exact hl))⟩
      · rw [if_neg hl]
        by_cases he : Pay h c n (i + 1) = Pay h c n S
        · rw [if_pos he]
          by_cases hp : popc (i + 1) < popc S
          · rw [if_pos hp]
            exact ⟨_, rfl, i + 1, tr', rfl, take h0 (Or.inr ⟨he, hp⟩)⟩
          · rw [if_neg hp]
            exact ⟨_, rfl, S, tr', rfl, keep (fun T e _ => Or.inr ⟨by rw [e]; exact he, by unfold lexle; rw [e]; omega⟩)⟩
        · rw [if_neg he]
          exact ⟨_, rfl, i + 1, tr', rfl, take h0 (Or.inl (by omega))⟩
    · rw [if_neg h0]
      exact ⟨_, rfl, S, p, rfl, keep (fun T e q => absurd (by rw [← e]; exact q) h0)⟩
  · rintro s ⟨S, p, rfl, hA⟩
    simp (disch := omega) only [fX9_bestOf_B16, m_allThings hw hr, bdS, nI_ltI, exS]
    rw [if_pos (by omega)]
    refine ⟨_, rfl, S, p, rfl, ?_⟩
    rw [show 2 ^ h 3 - 1 + 1 = 2 ^ h 3 by omega] at hA
    exact hA
  · obtain rfl : T = 0 := by omega
    exact Or.inr ⟨rfl, Or.inr ⟨rfl, Nat.le_refl _⟩⟩
  · obtain ⟨e, S, p, hres, hA⟩ := hres
    exact ⟨S, p, e.trans (congrArg some hres), hA⟩
theorem C_best (hx : CX h c vH nx wd sz kd srt plc d1 d2 now) (hww : WFw h) (hcw : CW h vU ut uc un uw) {n : Nat} (hn : n ≤ 60) :
    ∃ S vW' who' cl' fro' aW', fX8_best aH aW vN vH vU un vD now ut uc uw kd vG vW who cl srt nx fro sz wd (nI n) = some (nI S, upd vN 6 (nI 0), vW', who', cl', fro', aW') ∧ AX h c n (2 ^ h 3) S := by
  obtain ⟨hw, hh, hc, hj, h8, hd, h1, v4, hpl, hdr⟩ := hx
  obtain ⟨S, vW', who', cl', fro', aW', e, hA⟩ := c_bestFor (aH := aH) (aW := aW) (vG := vG) (vW := vW) (vD := vD) (who := who) (cl := cl) (fro := fro) hw hww hcw hh hc hj h8 hd hn
  refine ⟨S, vW', who', cl', fro', aW', ?_, hA⟩
  unfold fX8_best
  rw [c_whyNoWants_t hw.2.2.2.2.1 h1 hh.2.1 hn, bdS]
  simp only [nlit, ↓reduceIte]
  rw [e, bdS]
  rfl
theorem M_best (hx : MX h c vM r st) (hww : WFw h) {n : Nat} (hn : n ≤ 60) : ∃ S vM' tr', fX9_best vM st trial r (nI n) = some (nI S, vM', tr') ∧ AX h c n (2 ^ h 3) S ∧ MA vM vM' (nI 0) := by
  obtain ⟨hw, hc, hj, h8, hr, hst, h14⟩ := hx
  obtain ⟨v, ev, hma, hv⟩ := m_good vM
  have v14 : v 14 = nI 1 := by rw [hv 14 (by omega) (by omega)]; exact h14
  obtain ⟨S, tr', e, hA⟩ := m_bestOf (vM := v) (trial := trial) hw hww hc hj h8 hr hst hn
  refine ⟨S, v, tr', ?_, hA, hma⟩
  unfold fX9_best
  rw [ev, bdS, v14]
  simp only [nlit]
  rw [m_why_0 (by omega) rfl hn, bdS]
  simp only [↓reduceIte]
  rw [e, bdS]
  rfl
theorem C_bestPays (hx : CX h c vH nx wd sz kd srt plc d1 d2 now) (hww : WFw h) (hcw : CW h vU ut uc un uw) {n : Nat} (hn : n ≤ 60) :
    ∃ S vW' who' cl' fro', fX8_bestPays aH aW vN vH vU un vD now ut uc uw kd vG vW who cl srt nx fro sz wd (nI n) = some (nI (Pay h c n S), upd vN 6 (nI 0), vW', who', cl', fro', aH) ∧ AX h c n (2 ^ h 3) S := by
  obtain ⟨hw, hh, hc, hj, h8, hd, h1, v4, hpl, hdr⟩ := hx
  obtain ⟨S, vW', who', cl', fro', aW', e, hA⟩ := c_bestFor (aH := aH) (aW := aW) (vG := vG) (vW := vW) (vD := vD) (who := who) (cl := cl) (fro := fro) hw hww hcw hh hc hj h8 hd hn
  obtain ⟨vW2, who2, cl2, fro2, e2⟩ := c_paidWithin (vG := vG) (vW := vW') (vD := vD) (who := who') (cl := cl') (fro := fro') hw hww hcw hh hc hj h8 hd hn (S := S) hA.1
  refine ⟨S, vW2, who2, cl2, fro2, ?_, hA⟩
  unfold fX8_bestPays
  rw [c_whyNoWants_t hw.2.2.2.2.1 h1 hh.2.1 hn, bdS]
  simp only [nlit, ↓reduceIte]
  rw [e, bdS]
  simp only
  rw [e2, bdS]
  simp only
  rw [c_worthOf hw hww hcw, bdS]
  rfl
theorem M_bestPays (hx : MX h c vM r st) (hww : WFw h) {n : Nat} (hn : n ≤ 60) : ∃ S vM' tr', fX9_bestPays vM st trial r (nI n) = some (nI (Pay h c n S), vM', tr') ∧ AX h c n (2 ^ h 3) S ∧ MA vM vM' (nI 0) := by
  obtain ⟨hw, hc, hj, h8, hr, hst, h14⟩ := hx
  obtain ⟨v, ev, hma, hv⟩ := m_good vM
  have v14 : v 14 = nI 1 := by rw [hv 14 (by omega) (by omega)]; exact h14
  obtain ⟨S, tr', e, hA⟩ := m_bestOf (vM := v) (trial := trial) hw hww hc hj h8 hr hst hn
  obtain ⟨tr2, e2⟩ := m_keptBy (vM := v) (trial := tr') hw hww hc hj h8 hr hst hn (S := S) hA.1
  refine ⟨S, v, tr2, ?_, hA, hma⟩
  unfold fX9_bestPays
  rw [ev, bdS, v14]
  simp only [nlit]
  rw [m_why_0 (by omega) rfl hn, bdS]
  simp only [↓reduceIte]
  rw [e, bdS]
  simp only
  rw [e2, bdS]
  simp only
  rw [m_payOf hw hr, bdS]
  rfl
end BF
