/-! MATH 22: putFor -/
def putRow (c : Nat → Nat) (t x : Nat) : Nat → Nat := fun j => if j = t then x else c j
/-- nobody else is there -/
def clear (h c : Nat → Nat) (t x : Nat) : Bool := match fnd (fun u => c u == x) (h 3) with
  | none => true
  | some u => u == t
theorem clear_iff {h c : Nat → Nat} {t x : Nat} (hj : injC h c) (ht : t < h 3) : clear h c t x = true ↔ ∀ u, u < h 3 → u ≠ t → c u ≠ x := by
  unfold clear
  cases hf : fnd (fun u => c u == x) (h 3) with
  | none =>
    refine ⟨fun _ u hu _ e => ?_, fun _ => rfl⟩
    have := fnd_none hf u hu
    simp [e] at this
  | some w =>
    obtain ⟨h1, h2, -⟩ := fnd_some hf
    have h2 : c w = x := by simpa using h2
    constructor
    · intro e u hu hne eu
      have : w = t := by simpa using e
      exact hne (by rw [← this]; exact hj u w hu h1 (by rw [eu, h2]))
    · intro e
      by_cases hwt : w = t
      · simpa using hwt
      · exact absurd h2 (e w h1 hwt)
def putForA (h c : Nat → Nat) (t p k : Nat) : Int32 := orNone (fnd (fun y => clear h c t (9 * (c t / 9) + y) && nights h (putRow c t (9 * (c t / 9) + y)) k t == 9 * (c t / 9) + p) (pl h (c t / 9)))
section PF
variable {h c : Nat → Nat} {vH nx wd sz kd srt plc d1 d2 vD now vN vW cl who fro vM r st trial : Nat → Int32} {aH aW : Nat} {x0 : Option Nat}
theorem put_ok (hc : okRow h c) (h3 : h 3 ≤ 7) {t x : Nat} (ht : t < h 3) (hx : okc h x) : okRow h (putRow c t x) := by
  refine ⟨fun u hu => ?_, ?_, ?_⟩
  · unfold putRow
    by_cases e : u = t
    · rw [if_pos e]; exact hx
    · rw [if_neg e]; exact hc.1 u hu
  · unfold putRow; rw [if_neg (by omega)]; exact hc.2.1
  · unfold putRow; rw [if_neg (by omega)]; exact hc.2.2
theorem put_inj (hj : injC h c) {t x : Nat} (hcl : ∀ u, u < h 3 → u ≠ t → c u ≠ x) : injC h (putRow c t x) := by
  intro a b ha hb e
  unfold putRow at e
  by_cases ea : a = t
  · by_cases eb : b = t
    · rw [ea, eb]
    · rw [if_pos ea, if_neg eb] at e
      exact absurd e.symm (hcl b hb eb)
  · by_cases eb : b = t
    · rw [if_neg ea, if_pos eb] at e
      exact absurd e (hcl a ha ea)
    · rw [if_neg ea, if_neg eb] at e
      exact hj a b ha hb e
theorem c_shift (hw : WFh h) (hc : okRow h c) (hj : injC h c) (hwr : WR h c vW cl who x0) {t x : Nat} (ht : t < h 3) (hx : okc h x) (hring : x / 9 = c t / 9) (hcl : ∀ u, u < h 3 → u ≠ t → c u ≠ x) :
    ∃ cl' who', fX6_shift vW cl who (nI t) (nI x) = some (cl', who') ∧ WR h (putRow c t x) vW cl' who' x0 := by
  have h3 := hw.2.2.2.2.2.1
  obtain ⟨a1, a2, a3, a4, a5, a6, a7⟩ := hwr
  have hx36 := okc_lt hw hx
  have hct := okc_lt hw (hc.1 t ht)
  refine ⟨upd cl t (nI x), upd (upd who (c t) (-1)) x (nI t), ?_, ?_, ?_, ?_, ?_, ?_, ?_, ?_⟩
  · simp (disch := omega) only [fX6_shift, fX6_shift_J34, nlit, nI_ltI, nI_leI, ok_nI, gdT, nI_clamp, a1 t ht, c_seat, bdS]
    rw [if_neg (by omega), if_neg (by omega)]
  · intro u hu
    unfold upd putRow
    by_cases e : u = t
    · rw [if_pos e, if_pos e]
    · rw [if_neg e, if_neg e]; exact a1 u hu
  · intro y hy
    have hji := put_inj hj hcl
    unfold upd
    by_cases ex : y = x
    · rw [if_pos ex, fnd_c hji ht (by unfold putRow; rw [if_pos rfl, ex])]
    · rw [if_neg ex]
      by_cases ec : y = c t
      · rw [if_pos ec, fnd_no (fun u hu => ?_)]
        unfold putRow
        by_cases e : u = t
        · rw [if_pos e]; simpa using fun q => ex q.symm
        · rw [if_neg e]
          have : ¬ c u = y := fun q => e (hj u t hu ht (by rw [q, ec]))
          simpa using this
      · rw [if_neg ec, a2 y hy]
        rw [fnd_congr (q := fun u => putRow c t x u == y) (fun u hu => ?_)]
        show (c u == y) = ((if u = t then x else c u) == y)
        by_cases e : u = t
        · rw [if_pos e, e]
          have e1 : (c t == y) = false := by simpa using fun q : c t = y => ec q.symm
          have e2 : (x == y) = false := by simpa using fun q : x = y => ex q.symm
          rw [e1, e2]
        · rw [if_neg e]
  · show vW 5 = nI (putRow c t x 8)
    unfold putRow; rw [if_neg (by omega)]; exact a3
  · show vW 6 = nI (bm (fun u => (putRow c t x 7).testBit u || h (62 + 3 * u) == 2) (h 3))
    unfold putRow; rw [if_neg (by omega)]; exact a4
  · exact a5
  · rw [a6]
    congr 1
    apply bm_ext
    intro u hu
    unfold putRow
    by_cases e : u = t
    · rw [if_pos e, hring, e]
    · rw [if_neg e]
  · exact a7
theorem c_dthing (hw : WFh h) (v5 : vH 5 = nI (h 3)) (hc : okRow h c) (hd : DR h c now) {x : Nat} (hx : x < 36) : fX1_thingAt vD now (nI x) (vH 5) = some (match fnd (fun u => c u == x) (h 3) with | some u => nI u | none => -1) := by
  have h3 := hw.2.2.2.2.2.1
  rw [v5]
  unfold fX1_thingAt
  simp only [nlit]
  refine Exists.elim (lp_find (f := fX1_thingAt_B2 now (nI x) (nI (h 3))) (fun u => c u == x) (h 3) (fun i s => s = nI i) (fun o res => res = match o with | some u => nI u | none => -1) ?_ ?_ rfl (show h 3 < 5000 by omega)) (fun res hr => ?_)
  · rintro i s hi rfl
    have := okc_lt hw (hc.1 i hi)
    simp (disch := omega) only [fX1_thingAt_B2, nlit, nI_leI, ok_nI, gdT, nI_clamp, hd.1 i hi, nI_eq, exS, nI_add]
    rw [if_neg (by omega), if_neg (by omega)]
    constructor
    · intro hq
      rw [if_neg (by simpa using hq)]
      exact ⟨_, rfl, rfl⟩
    · intro hq
      rw [if_pos (by simpa using hq)]
      exact ⟨_, rfl, rfl⟩
  · rintro s rfl
    simp (disch := omega) only [fX1_thingAt_B2, fX1_thingAt_J31, nlit, nI_leI, exS]
    rw [if_pos (Nat.le_refl _)]
    exact ⟨_, rfl, rfl⟩
  · rw [hr.1, hr.2]
    rfl
theorem C_putFor (hx : CX h c vH nx wd sz kd srt plc d1 d2 now) {t p k : Nat} (ht : t < h 3) (hp : p < pl h (c t / 9)) (hk : k ≤ 60) :
    ∃ vW' who' cl' fro' aW', fX8_putFor aH aW vN vH vD now plc vW who kd cl srt nx fro sz wd (nI t) (nI p) (nI k) = some (putForA h c t p k, upd vN 6 (nI 0), vW', who', cl', fro', aW') := by
  have hx0 := hx
  obtain ⟨hw, hh, hc, hj, h8, hd, h1, v4, hpl, hdr⟩ := hx
  have h2 := hw.2.2.2.2.1
  have h3 := hw.2.2.2.2.2.1
  have hg := (hc.1 t ht).1
  have hp9 := (hw.2.2.2.2.2.2.2.2.2.1 (c t / 9) hg).2
  have hct := okc_lt hw (hc.1 t ht)
  unfold fX8_putFor
  rw [c_hasThing_t h3 hh.2.2.1 ht, bdS, if_neg (by rw [nlit, n10]; exact id), c_dcell hw hd ht, bdS, c_ring (by omega), bdS, c_hasPlace_t h2 hh.2.1 hg (hpl _ hg) hp9 hp, bdS, if_neg (by rw [nlit, n10]; exact id)]
  simp (disch := omega) only [nlit, nI_ltI, nI_leI]
  rw [if_neg (by omega), if_pos hk]
  have e2 : ∀ y, fX8_cellAt (nI (c t / 9)) (nI y) = some (nI (9 * (c t / 9) + y)) := fun y => by
    simp (disch := omega) only [fX8_cellAt, nlit, pk_mul, nI_add]
    rw [Nat.mul_comm]
  have epl : fX4_placesOf vH plc (nI (c t / 9)) = some (nI (pl h (c t / 9))) := by
    unfold fX4_placesOf fX4_placesOf_J18
    rw [c_hasRing_t h2 hh.2.1 hg, bdS, if_neg (by rw [nlit, n10]; exact id)]
    simp (disch := omega) only [ok_nI, gdT, nI_clamp, hpl _ hg]
  refine Exists.elim (lp_find (f := fX8_putFor_B68 aH vN vH vD now plc kd srt nx sz wd (nI t) (nI p) (nI k)) (fun y => clear h c t (9 * (c t / 9) + y) && nights h (putRow c t (9 * (c t / 9) + y)) k t == 9 * (c t / 9) + p) (pl h (c t / 9)) (fun i s => ∃ cl' fro' who' aW' vW', s = (nI (c t / 9), nI i, cl', fro', who', aW', vW')) (fun o res => ∃ vW' who' cl' fro' aW', res = (orNone o, upd vN 6 (nI 0), vW', who', cl', fro', aW')) ?_ ?_ ⟨cl, fro, who, aW, vW, rfl⟩ (show pl h (c t / 9) < 5000 by omega)) (fun res hr => ?_)
  · rintro i s hi ⟨cl', fro', who', aW', vW', rfl⟩
    have okx : okc h (9 * (c t / 9) + i) := by
      have e1 : (9 * (c t / 9) + i) / 9 = c t / 9 := by omega
      have e2 : (9 * (c t / 9) + i) % 9 = i := by omega
      exact ⟨by rw [e1]; exact hg, by rw [e1, e2]; exact hi⟩
    have hx36 := okc_lt hw okx
    obtain ⟨vW1, who1, cl1, e1, w1, -⟩ := c_start0 (vW := vW') (vD := vD) (who := who') (cl := cl') hx0
    have go : clear h c t (9 * (c t / 9) + i) = true → (((nights h (putRow c t (9 * (c t / 9) + i)) k t == 9 * (c t / 9) + p) = false → ∃ s', fX8_putFor_J120 aH vN vH vD now kd srt nx sz wd (nI t) (nI p) (nI k) (nI (c t / 9)) (nI i) cl' fro' who' vW' (nI (9 * (c t / 9) + i)) = some (.inr s') ∧ ∃ cl' fro' who' aW' vW', s' = (nI (c t / 9), nI (i + 1), cl', fro', who', aW', vW')) ∧ ((nights h (putRow c t (9 * (c t / 9) + i)) k t == 9 * (c t / 9) + p) = true → ∃ r, fX8_putFor_J120 aH vN vH vD now kd srt nx sz wd (nI t) (nI p) (nI k) (nI (c t / 9)) (nI i) cl' fro' who' vW' (nI (9 * (c t / 9) + i)) = some (.inl r) ∧ ∃ vW' who' cl' fro' aW', r = (orNone (some i), upd vN 6 (nI 0), vW', who', cl', fro', aW'))) := by
      intro hcl
      have hcl := (clear_iff hj ht).mp hcl
      have hring : (9 * (c t / 9) + i) / 9 = c t / 9 := by omega
      obtain ⟨cl2, who2, es, w2⟩ := c_shift hw hc hj w1 ht okx hring hcl
      have o2 := put_ok (x := 9 * (c t / 9) + i) hc h3 ht okx
      have j2 := put_inj hj hcl
      have e8 : putRow c t (9 * (c t / 9) + i) 8 ≤ 1000 := by unfold putRow; rw [if_neg (by omega)]; exact h8
      obtain ⟨vW3, cl3, who3, fro3, e3, w3⟩ := c_goOn (fro := fro') hw hh o2 j2 e8 w2 (k := k) (by omega)
      have hl3 := okc_lt hw ((nts hw o2 j2 e8 k (by omega)).1.1 t ht)
      simp (disch := omega) only [fX8_putFor_J120, fX8_putFor_J179, fX8_answer, nlit, e1, bdS, es, e3, c_wcell h3 w3 ht, e2, nI_eq, exS, nI_add]
      constructor
      · intro hq
        rw [if_neg (by simpa using hq)]
        exact ⟨_, rfl, cl3, fro3, who3, aH, vW3, rfl⟩
      · intro hq
        rw [if_pos (by simpa using hq)]
        exact ⟨_, rfl, vW3, who3, cl3, fro3, aH, rfl⟩
    simp (disch := omega) only [fX8_putFor_B68, fX8_putFor_J179, epl, bdS, nI_leI, e2, c_dthing hw hh.2.2.1 hc hd hx36]
    rw [if_neg (by omega)]
    have hce : clear h c t (9 * (c t / 9) + i) = match fnd (fun u => c u == 9 * (c t / 9) + i) (h 3) with | none => true | some u => u == t := rfl
    cases hf : fnd (fun u => c u == 9 * (c t / 9) + i) (h 3) with
    | none =>
      rw [hf] at hce
      rw [if_pos (show (-1 : Int32) < 0 by decide), hce]
      simp only [Bool.true_and]
      exact go hce
    | some u =>
      rw [hf] at hce
      have hu := (fnd_some hf).1
      simp (disch := omega) only [nlit, nI_ltI, nI_eq]
      rw [if_neg (by omega)]
      by_cases hut : u = t
      · have hce : clear h c t (9 * (c t / 9) + i) = true := by rw [hce]; simpa using hut
        rw [if_pos hut, hce]
        simp only [Bool.true_and]
        exact go hce
      · have hce : clear h c t (9 * (c t / 9) + i) = false := by rw [hce]; simpa using hut
        rw [if_neg hut, hce]
        simp only [Bool.false_and, nI_add]
        exact ⟨fun _ => ⟨_, rfl, cl', fro', who', aW', vW', rfl⟩, fun q => by cases q⟩
  · rintro s ⟨cl', fro', who', aW', vW', rfl⟩
    simp (disch := omega) only [fX8_putFor_B68, fX8_answer, epl, bdS, nI_leI, exS]
    rw [if_pos (Nat.le_refl _)]
    exact ⟨_, rfl, vW', who', cl', fro', aW', rfl⟩
  · obtain ⟨e, vW', who', cl', fro', aW', hr⟩ := hr
    exact ⟨vW', who', cl', fro', aW', e.trans (congrArg some hr)⟩
theorem M_putFor (hx : MX h c vM r st) {t p k : Nat} (ht : t < h 3) (hp : p < pl h (c t / 9)) (hk : k ≤ 60) :
    ∃ vM' tr', fX9_putFor vM r st trial (nI t) (nI p) (nI k) = some (putForA h c t p k, vM', tr') ∧ MA vM vM' (nI 0) := by
  obtain ⟨hw, hc, hj, h8, hr, hst, h14⟩ := hx
  have h2 := hw.2.2.2.2.1
  have h3 := hw.2.2.2.2.2.1
  have hg := (hc.1 t ht).1
  have hp9 := (hw.2.2.2.2.2.2.2.2.2.1 (c t / 9) hg).2
  have hct := okc_lt hw (hc.1 t ht)
  have hc36 : ∀ t, t < h 3 → c t < 36 := fun t ht => okc_lt hw (hc.1 t ht)
  obtain ⟨v, ev, hma, hv⟩ := m_good vM
  have v14 : v 14 = nI 1 := by rw [hv 14 (by omega) (by omega)]; exact h14
  unfold fX9_putFor
  rw [ev, bdS, m_isThing_t hw hr v14 ht, bdS, if_neg (by rw [nlit, n10]; exact id)]
  simp (disch := omega) only [nlit, ok_nI, gdT, nI_clamp, hst, pk_div, m_isPlace_t hw hr v14 hg hp, bdS, m_inn_t (show 60 < 2 ^ 30 by omega) hk]
  simp only [n10, if_false]
  refine Exists.elim (lp_find (f := fX9_putFor_B65 r st (nI t) (nI p) (nI k)) (fun y => clear h c t (9 * (c t / 9) + y) && nights h (putRow c t (9 * (c t / 9) + y)) k t == 9 * (c t / 9) + p) (pl h (c t / 9)) (fun i s => ∃ tr, s = (nI i, tr, v)) (fun o res => ∃ tr, res = (orNone o, v, tr)) ?_ ?_ ⟨trial, rfl⟩ (show pl h (c t / 9) < 5000 by omega)) (fun res hres => ?_)
  · rintro i s hi ⟨tr, rfl⟩
    have okx : okc h (9 * (c t / 9) + i) := by
      have e1 : (9 * (c t / 9) + i) / 9 = c t / 9 := by omega
      have e2 : (9 * (c t / 9) + i) % 9 = i := by omega
      exact ⟨by rw [e1]; exact hg, by rw [e1, e2]; exact hi⟩
    have hx36 := okc_lt hw okx
    obtain ⟨t0, e0, ht0⟩ := m_begin (vM := v) (trial := tr) hst
    have go : clear h c t (9 * (c t / 9) + i) = true → (((nights h (putRow c t (9 * (c t / 9) + i)) k t == 9 * (c t / 9) + p) = false → ∃ s', fX9_putFor_J108 r st (nI t) (nI p) (nI k) (nI i) tr v = some (.inr s') ∧ ∃ tr, s' = (nI (i + 1), tr, v)) ∧ ((nights h (putRow c t (9 * (c t / 9) + i)) k t == 9 * (c t / 9) + p) = true → ∃ r', fX9_putFor_J108 r st (nI t) (nI p) (nI k) (nI i) tr v = some (.inl r') ∧ ∃ tr, r' = (orNone (some i), v, tr))) := by
      intro hcl
      have hcl := (clear_iff hj ht).mp hcl
      have o2 := put_ok (x := 9 * (c t / 9) + i) hc h3 ht okx
      have j2 := put_inj hj hcl
      have e8 : putRow c t (9 * (c t / 9) + i) 8 ≤ 1000 := by unfold putRow; rw [if_neg (by omega)]; exact h8
      have hl3 := okc_lt hw ((nts hw o2 j2 e8 k (by omega)).1.1 t ht)
      have hrow : ∀ j, j < 9 → upd t0 t (nI (9 * (c t / 9) + i)) j = nI (putRow c t (9 * (c t / 9) + i) j) := by
        intro j hj
        unfold upd putRow
        by_cases e : j = t
        · rw [if_pos e, if_pos e]
        · rw [if_neg e, if_neg e]; exact ht0 j hj
      have lpn : ∃ tr', lp (fX9_putFor_B129 r st (nI t) (nI p) (nI k) (nI i) v) 5000 (nI 0, upd t0 t (nI (9 * (c t / 9) + i))) = (if nights h (putRow c t (9 * (c t / 9) + i)) k t = 9 * (c t / 9) + p then some (.inl (nI i, v, tr')) else some (.inr (nI (i + 1), tr', v))) := by
        refine Exists.elim (lp_inv (f := fX9_putFor_B129 r st (nI t) (nI p) (nI k) (nI i) v) (fun j s => ∃ q, s = (nI j, q) ∧ ∀ m, m < 9 → q m = nI (nights h (putRow c t (9 * (c t / 9) + i)) j m)) (fun res => ∃ q, (nights h (putRow c t (9 * (c t / 9) + i)) k t = 9 * (c t / 9) + p ∧ res = .inl (nI i, v, q)) ∨ (¬ nights h (putRow c t (9 * (c t / 9) + i)) k t = 9 * (c t / 9) + p ∧ res = .inr (nI (i + 1), q, v))) k ?_ ?_ 5000 0 (nI 0, upd t0 t (nI (9 * (c t / 9) + i))) (Nat.zero_le _) ⟨_, rfl, hrow⟩ (by omega)) (fun res hres => ?_)
        · rintro j s hjk ⟨q, rfl, hq⟩
          left
          obtain ⟨a1, a2, a3, a4⟩ := nts hw o2 j2 e8 j (by omega)
          obtain ⟨q', e, hq'⟩ := m_nightOf (vM := v) hw hr hq a1
          simp (disch := omega) only [fX9_putFor_B129, nlit, nI_leI, e, bdS, nI_add]
          rw [if_neg (by omega)]
          exact ⟨_, rfl, q', rfl, hq'⟩
        · rintro s ⟨q, rfl, hq⟩
          simp (disch := omega) only [fX9_putFor_B129, fX9_putFor_J169, nlit, nI_leI, ok_nI, gdT, nI_clamp, hq, hst, pk_div, pk_mul, nI_add, nI_eq, exS]
          rw [if_pos (Nat.le_refl _)]
          by_cases e : nights h (putRow c t (9 * (c t / 9) + i)) k t = 9 * (c t / 9) + p
          · rw [if_pos e]
            exact ⟨_, rfl, q, Or.inl ⟨e, rfl⟩⟩
          · rw [if_neg e]
            exact ⟨_, rfl, q, Or.inr ⟨e, rfl⟩⟩
        · obtain ⟨e, q, ⟨h1, h2⟩ | ⟨h1, h2⟩⟩ := hres
          · exact ⟨q, by rw [e, if_pos h1, h2]⟩
          · exact ⟨q, by rw [e, if_neg h1, h2]⟩
      obtain ⟨tr', elp⟩ := lpn
      simp (disch := omega) only [fX9_putFor_J108, e0, bdS, nlit, ok_nI, gdT, nI_clamp, hst, pk_div, pk_mul, nI_add, elp]
      constructor
      · intro hq
        rw [if_neg (by simpa using hq)]
        exact ⟨_, rfl, tr', rfl⟩
      · intro hq
        rw [if_pos (by simpa using hq)]
        exact ⟨_, rfl, tr', rfl⟩
    simp (disch := omega) only [fX9_putFor_B65, fX9_putFor_J169, nlit, nI_clamp, hst, pk_div, pk_mul, nI_add, m_placesOf hr (show c t / 9 < 4 by omega), bdS, nI_leI, m_thingAt hr h3 hst hc36 hx36]
    rw [if_neg (by omega)]
    have hce : clear h c t (9 * (c t / 9) + i) = match fnd (fun u => c u == 9 * (c t / 9) + i) (h 3) with | none => true | some u => u == t := rfl
    cases hf : fnd (fun u => c u == 9 * (c t / 9) + i) (h 3) with
    | none =>
      rw [hf] at hce
      rw [if_pos (show (-nI 2 : Int32) < nI 0 by decide), hce]
      simp only [Bool.true_and]
      exact go hce
    | some u =>
      rw [hf] at hce
      have hu := (fnd_some hf).1
      simp (disch := omega) only [nI_ltI, nI_eq]
      rw [if_neg (by omega)]
      by_cases hut : u = t
      · have hce : clear h c t (9 * (c t / 9) + i) = true := by rw [hce]; simpa using hut
        rw [if_pos hut, hce]
        simp only [Bool.true_and]
        exact go hce
      · have hce : clear h c t (9 * (c t / 9) + i) = false := by rw [hce]; simpa using hut
        rw [if_neg hut, hce]
        simp only [Bool.false_and]
        exact ⟨fun _ => ⟨_, rfl, tr, rfl⟩, fun q => by cases q⟩
  · rintro s ⟨tr, rfl⟩
    simp (disch := omega) only [fX9_putFor_B65, nlit, nI_clamp, hst, pk_div, m_placesOf hr (show c t / 9 < 4 by omega), bdS, nI_leI, exS]
    rw [if_pos (Nat.le_refl _)]
    exact ⟨_, rfl, tr, rfl⟩
  · obtain ⟨e, tr, hres⟩ := hres
    exact ⟨v, tr, e.trans (congrArg some hres), hma⟩
end PF
