/-! MATH 34: reading, a line on both sides: the house, a ring -/
theorem setN_eq (h : Nat → Nat) (k v : Nat) : setN h k v k = v := if_pos rfl
theorem setN_ne {h : Nat → Nat} {k v j : Nat} (e : j ≠ k) : setN h k v j = h j := if_neg e
theorem fr_set {fr : Nat → Int32} {h : Nat → Nat} {k v : Nat} (hf : ∀ j, j < 224 → fr j = nI (h j)) : ∀ j, j < 224 → upd fr k (nI v) j = nI (setN h k v j) := by
  intro j hj
  unfold upd setN
  by_cases e : j = k
  · rw [if_pos e, if_pos e]
  · rw [if_neg e, if_neg e, hf j hj]
theorem lt_set {h : Nat → Nat} {k v : Nat} (hb : ∀ j, j < 224 → h j < 1000) (hv : v < 1000) : ∀ j, j < 224 → setN h k v j < 1000 := by
  intro j hj
  unfold setN
  by_cases e : j = k
  · rw [if_pos e]; exact hv
  · rw [if_neg e]; exact hb j hj
/-- what holds of a house that is being told -/
def PA (h : Nat → Nat) : Prop := (∀ k, k < 224 → h k < 1000) ∧ h 0 ≤ 5 ∧ h 1 ≤ 100 ∧ h 2 ≤ 4 ∧ h 3 ≤ 7 ∧ h 4 ≤ 6 ∧ h 5 ≤ 5 ∧ h 6 ≤ 6 ∧ h 7 ≤ 6 ∧ (h 0 = 0 → h 2 = 0 ∧ h 3 = 0 ∧ h 4 = 0 ∧ h 5 = 0 ∧ h 6 = 0 ∧ h 7 = 0)
def PRg (h : Nat → Nat) : Prop := ∀ g, g < h 2 → so h g ≤ 2 ∧ 2 ≤ pl h g ∧ pl h g ≤ 9
def PT (h : Nat → Nat) : Prop := (∀ t, t < h 3 → h (62 + 3 * t) ≤ 3 ∧ okc h (h (62 + 3 * t + 1)) ∧ 1 ≤ h (62 + 3 * t + 2) ∧ h (62 + 3 * t + 2) ≤ 9) ∧ ∀ t u, t < h 3 → u < h 3 → h (62 + 3 * t + 1) = h (62 + 3 * u + 1) → t = u
def PN (h : Nat → Nat) : Prop := ∀ x, x < 36 → h (16 + x) ≤ 10
def PD (h : Nat → Nat) : Prop := (∀ d, d < h 5 → h (52 + 2 * d) < 36 ∧ h (52 + 2 * d + 1) < 36) ∧ WFd h
def PI (h : Nat → Nat) : Prop := PA h ∧ PRg h ∧ PT h ∧ PN h ∧ PD h ∧ WFw h ∧ WFm h ∧ NMS h (h 3)
/-- the class's draft -/
def HV (h : Nat → Nat) (vH : Nat → Int32) : Prop := vH 0 = nI (h 0) ∧ vH 1 = nI (h 1) ∧ vH 2 = nI (h 2) ∧ vH 3 = nI (h 4) ∧ vH 4 = nI (h 5) ∧ vH 5 = nI (h 3) ∧ vH 6 = nI (h 7)
def HG (h : Nat → Nat) (srt plc : Nat → Int32) : Prop := ∀ g, g < h 2 → srt g = nI (so h g) ∧ plc g = nI (pl h g)
def HX (h : Nat → Nat) (nxt : Nat → Int32) : Prop := ∀ x, x < 36 → okc h x → nxt x = nI (ah h x)
def HWd (h : Nat → Nat) (wd : Nat → Int32) : Prop := ∀ x, x < 36 → wd x = if h (16 + x) = 0 then nI 10 else nI (h (16 + x) - 1)
def HDo (h : Nat → Nat) (d1 d2 : Nat → Int32) : Prop := ∀ d, d < h 5 → d1 d = nI (h (52 + 2 * d)) ∧ d2 d = nI (h (52 + 2 * d + 1))
def HTh (h : Nat → Nat) (kd fc sz : Nat → Int32) : Prop := ∀ t, t < h 3 → kd t = nI (h (62 + 3 * t)) ∧ fc t = nI (h (62 + 3 * t + 1)) ∧ sz t = nI (h (62 + 3 * t + 2))
def HMk (h : Nat → Nat) (mn mp mf : Nat → Int32) : Prop := ∀ m, m < h 7 → mn m = nI (mN h m) ∧ mp m = nI (mP h m) ∧ mf m = nI (mF h m)
def HD (h : Nat → Nat) (vH vU mn mp mf plc ut uc un uw fc kd sz d1 d2 wd srt nxt : Nat → Int32) : Prop := HV h vH ∧ CW h vU ut uc un uw ∧ HG h srt plc ∧ HX h nxt ∧ HWd h wd ∧ HDo h d1 d2 ∧ HTh h kd fc sz ∧ HMk h mn mp mf
/-- what reads no further than this looks at alone, if it is the same in both -/
theorem so_eq {h h' : Nat → Nat} {g : Nat} (e : h' (8 + 2 * g) = h (8 + 2 * g)) : so h' g = so h g := e
theorem pl_eq {h h' : Nat → Nat} {g : Nat} (e : h' (8 + 2 * g + 1) = h (8 + 2 * g + 1)) : pl h' g = pl h g := e
theorem okc_mono {h h' : Nat → Nat} {x : Nat} (h2 : h 2 ≤ h' 2) (e : ∀ g, g < h 2 → pl h' g = pl h g) (hx : okc h x) : okc h' x := ⟨by have := hx.1; omega, by rw [e _ hx.1]; exact hx.2⟩
theorem ah_mono {h h' : Nat → Nat} {x : Nat} (e : ∀ g, g < h 2 → pl h' g = pl h g ∧ so h' g = so h g) (hx : okc h x) : ah h' x = ah h x := by
  unfold ah
  rw [(e _ hx.1).1, (e _ hx.1).2]
theorem CW_c {h h' : Nat → Nat} {vU ut uc un uw : Nat → Int32} (h6 : h' 6 = h 6) (e : ∀ w i, w < h 6 → i < 4 → h' (83 + 4 * w + i) = h (83 + 4 * w + i)) (q : CW h vU ut uc un uw) : CW h' vU ut uc un uw := by
  refine ⟨by rw [h6]; exact q.1, fun w hw => ?_⟩
  rw [h6] at hw
  have e0 : wt h' w = wt h w := e w 0 hw (by omega)
  have e1 : wc h' w = wc h w := e w 1 hw (by omega)
  have e2 : wn h' w = wn h w := e w 2 hw (by omega)
  have e3 : wp h' w = wp h w := e w 3 hw (by omega)
  rw [e0, e1, e2, e3]
  exact q.2 w hw
theorem HG_c {h h' : Nat → Nat} {srt plc : Nat → Int32} (h2 : h' 2 = h 2) (e : ∀ g, g < h 2 → h' (8 + 2 * g) = h (8 + 2 * g) ∧ h' (8 + 2 * g + 1) = h (8 + 2 * g + 1)) (q : HG h srt plc) : HG h' srt plc := fun g hg => by
  rw [h2] at hg
  rw [so_eq (e g hg).1, pl_eq (e g hg).2]
  exact q g hg
theorem HX_c {h h' : Nat → Nat} {nxt : Nat → Int32} (h2 : h' 2 = h 2) (e : ∀ g, g < h 2 → h' (8 + 2 * g) = h (8 + 2 * g) ∧ h' (8 + 2 * g + 1) = h (8 + 2 * g + 1)) (q : HX h nxt) : HX h' nxt := fun x hx hok => by
  have hok2 : okc h x := okc_mono (by omega) (fun g hg => (pl_eq (e g (by omega)).2).symm) hok
  rw [ah_mono (h := h) (fun g hg => ⟨pl_eq (e g hg).2, so_eq (e g hg).1⟩) hok2]
  exact q x hx hok2
theorem HWd_c {h h' : Nat → Nat} {wd : Nat → Int32} (e : ∀ x, x < 36 → h' (16 + x) = h (16 + x)) (q : HWd h wd) : HWd h' wd := fun x hx => by rw [e x hx]; exact q x hx
theorem HDo_c {h h' : Nat → Nat} {d1 d2 : Nat → Int32} (h5 : h' 5 = h 5) (e : ∀ d, d < h 5 → h' (52 + 2 * d) = h (52 + 2 * d) ∧ h' (52 + 2 * d + 1) = h (52 + 2 * d + 1)) (q : HDo h d1 d2) : HDo h' d1 d2 := fun d hd => by
  rw [h5] at hd
  rw [(e d hd).1, (e d hd).2]
  exact q d hd
theorem HTh_c {h h' : Nat → Nat} {kd fc sz : Nat → Int32} (h3 : h' 3 = h 3) (e : ∀ t, t < h 3 → h' (62 + 3 * t) = h (62 + 3 * t) ∧ h' (62 + 3 * t + 1) = h (62 + 3 * t + 1) ∧ h' (62 + 3 * t + 2) = h (62 + 3 * t + 2)) (q : HTh h kd fc sz) : HTh h' kd fc sz := fun t ht => by
  rw [h3] at ht
  rw [(e t ht).1, (e t ht).2.1, (e t ht).2.2]
  exact q t ht
theorem HMk_c {h h' : Nat → Nat} {mn mp mf : Nat → Int32} (h7 : h' 7 = h 7) (e : ∀ m, m < h 7 → h' (107 + 3 * m) = h (107 + 3 * m) ∧ h' (107 + 3 * m + 1) = h (107 + 3 * m + 1) ∧ h' (107 + 3 * m + 2) = h (107 + 3 * m + 2)) (q : HMk h mn mp mf) : HMk h' mn mp mf := fun m hm => by
  rw [h7] at hm
  have e0 : mN h' m = mN h m := (e m hm).1
  have e1 : mP h' m = mP h m := (e m hm).2.1
  have e2 : mF h' m = mF h m := (e m hm).2.2
  rw [e0, e1, e2]
  exact q m hm
theorem PRg_c {h h' : Nat → Nat} (h2 : h' 2 = h 2) (e : ∀ g, g < h 2 → h' (8 + 2 * g) = h (8 + 2 * g) ∧ h' (8 + 2 * g + 1) = h (8 + 2 * g + 1)) (q : PRg h) : PRg h' := fun g hg => by
  rw [h2] at hg
  rw [so_eq (e g hg).1, pl_eq (e g hg).2]
  exact q g hg
theorem PT_c {h h' : Nat → Nat} (h3 : h' 3 = h 3) (h2 : h 2 ≤ h' 2) (er : ∀ g, g < h 2 → h' (8 + 2 * g + 1) = h (8 + 2 * g + 1)) (e : ∀ t, t < h 3 → h' (62 + 3 * t) = h (62 + 3 * t) ∧ h' (62 + 3 * t + 1) = h (62 + 3 * t + 1) ∧ h' (62 + 3 * t + 2) = h (62 + 3 * t + 2)) (q : PT h) : PT h' := by
  refine ⟨fun t ht => ?_, fun t u ht hu eq => ?_⟩
  · rw [h3] at ht
    obtain ⟨e1, e2, e3⟩ := e t ht
    obtain ⟨q1, q2, q3, q4⟩ := q.1 t ht
    rw [e1, e2, e3]
    exact ⟨q1, okc_mono h2 er q2, q3, q4⟩
  · rw [h3] at ht hu
    rw [(e t ht).2.1, (e u hu).2.1] at eq
    exact q.2 t u ht hu eq
theorem PN_c {h h' : Nat → Nat} (e : ∀ x, x < 36 → h' (16 + x) = h (16 + x)) (q : PN h) : PN h' := fun x hx => by rw [e x hx]; exact q x hx
theorem PD_c {h h' : Nat → Nat} (h5 : h' 5 = h 5) (e : ∀ d, d < h 5 → h' (52 + 2 * d) = h (52 + 2 * d) ∧ h' (52 + 2 * d + 1) = h (52 + 2 * d + 1)) (q : PD h) : PD h' := by
  refine ⟨fun d hd => ?_, fun d hd => ?_⟩
  · rw [h5] at hd
    rw [(e d hd).1, (e d hd).2]
    exact q.1 d hd
  · rw [h5] at hd
    obtain ⟨q1, q2⟩ := q.2 d hd
    rw [(e d hd).1, (e d hd).2]
    refine ⟨q1, fun k hk hq => ?_⟩
    rw [h5] at hk
    refine q2 k hk ?_
    unfold dsd at hq ⊢
    rw [(e d hd).1, (e d hd).2, (e k hk).1, (e k hk).2] at hq
    exact hq
theorem WFw_c {h h' : Nat → Nat} (h6 : h' 6 = h 6) (h3 : h 3 ≤ h' 3) (h2 : h 2 ≤ h' 2) (er : ∀ g, g < h 2 → h' (8 + 2 * g + 1) = h (8 + 2 * g + 1)) (e : ∀ w i, w < h 6 → i < 4 → h' (83 + 4 * w + i) = h (83 + 4 * w + i)) (q : WFw h) : WFw h' := fun w hw => by
  rw [h6] at hw
  obtain ⟨q1, q2, q3, q4⟩ := q w hw
  have e0 : wt h' w = wt h w := e w 0 hw (by omega)
  have e1 : wc h' w = wc h w := e w 1 hw (by omega)
  have e2 : wn h' w = wn h w := e w 2 hw (by omega)
  have e3 : wp h' w = wp h w := e w 3 hw (by omega)
  rw [e0, e1, e2, e3]
  exact ⟨by omega, okc_mono h2 er q2, q3, q4⟩
theorem WFm_c {h h' : Nat → Nat} (h7 : h' 7 = h 7) (e : ∀ m, m < h 7 → h' (107 + 3 * m + 2) = h (107 + 3 * m + 2)) (q : WFm h) : WFm h' := fun m hm => by
  rw [h7] at hm
  have : mF h' m = mF h m := e m hm
  rw [this]
  exact q m hm
theorem enc_c {h h' : Nat → Nat} {x : Nat} (e1 : h' (125 + x) = h (125 + x)) (e2 : ∀ i, i < h (125 + x) → h' (136 + 8 * x + i) = h (136 + 8 * x + i)) : enc h' x = enc h x := by
  unfold enc
  rw [e1]
  exact encp_ext e2
theorem nmOk_c {h h' : Nat → Nat} {x : Nat} (e1 : h' (125 + x) = h (125 + x)) (e2 : ∀ i, i < h (125 + x) → h' (136 + 8 * x + i) = h (136 + 8 * x + i)) (q : nmOk h x) : nmOk h' x := by
  unfold nmOk at q ⊢
  rw [e1]
  exact ⟨q.1, fun i hi => by rw [e2 i hi]; exact q.2 i hi⟩
/-- names where nothing of them has changed -/
theorem NMS_c {h h' : Nat → Nat} {m : Nat} (h2 : h' 2 = h 2) (e : ∀ j, 125 ≤ j → j < 224 → h' j = h j) (q : NMS h m) : NMS h' m := by
  obtain ⟨n2, n3, nk, np, nz, tp, tz, ni⟩ := q
  have e1 : ∀ x, x < 11 → h' (125 + x) = h (125 + x) := fun x hx => e _ (by omega) (by omega)
  have e2 : ∀ x, x < 11 → ∀ i, i < h (125 + x) → h' (136 + 8 * x + i) = h (136 + 8 * x + i) := fun x hx i hi => e _ (by omega) (by have := (nk x hx).1; omega)
  refine ⟨by omega, n3, fun x hx => nmOk_c (e1 x hx) (e2 x hx) (nk x hx), fun x hx => ?_, fun x hx h4 => ?_, fun x hx => ?_, fun x hx h7 => ?_, fun x y hx hy p1 p2 eq => ?_⟩
  · rw [e1 x (by omega)]; exact np x (by omega)
  · rw [e1 x (by omega)]; exact nz x (by omega) h4
  · rw [e1 (4 + x) (by omega)]; exact tp x hx
  · rw [e1 (4 + x) (by omega)]; exact tz x hx h7
  · rw [enc_c (e1 x hx) (e2 x hx), enc_c (e1 y hy) (e2 y hy)] at eq
    rw [e1 x hx] at p1
    rw [e1 y hy] at p2
    exact ni x y hx hy p1 p2 eq
theorem NR_c {h h' : Nat → Nat} {m : Nat} {rN tN : Nat → Int64} (hN : NMS h m) (h2 : h' 2 = h 2) (e : ∀ j, 125 ≤ j → j < 224 → h' j = h j) (q : NR h rN tN m) : NR h' rN tN m := by
  obtain ⟨n2, n3, nk, -⟩ := hN
  have e1 : ∀ x, x < 11 → enc h' x = enc h x := fun x hx => enc_c (e _ (by omega) (by omega)) (fun i hi => e _ (by omega) (by have := (nk x hx).1; omega))
  exact ⟨fun x hx => by rw [h2] at hx; rw [e1 x (by omega)]; exact q.1 x hx, fun x hx => by rw [e1 (4 + x) (by omega)]; exact q.2 x hx⟩
theorem setName_o {tb h : Nat → Nat} {x : Nat} {t : Tk} {j : Nat} (e1 : j ≠ 125 + x) (e2 : ¬ (136 + 8 * x ≤ j ∧ j < 136 + 8 * x + (t.en - t.at_))) : setName tb h x t j = h j := by
  unfold setName
  rw [if_neg e1, if_neg e2]
theorem setName_x {tb h : Nat → Nat} {x : Nat} {t : Tk} : setName tb h x t (125 + x) = t.en - t.at_ := if_pos rfl
theorem setName_enc {tb h : Nat → Nat} {x : Nat} {t : Tk} : enc (setName tb h x t) x = tenc tb t := by
  unfold enc tenc
  rw [setName_x]
  refine encp_ext (fun i hi => ?_)
  unfold setName
  rw [if_neg (by omega), if_pos (by omega)]
  congr 1
  omega
theorem setName_enc' {tb h : Nat → Nat} {x y : Nat} {t : Tk} (hx : x < 11) (hy : y < 11) (hl : t.en - t.at_ ≤ 8) (ne : y ≠ x) (h8 : h (125 + y) ≤ 8) : enc (setName tb h x t) y = enc h y := by
  refine enc_c (setName_o (by omega) (by omega)) (fun i hi => setName_o (by omega) (by omega))
/-- a name more: told names stay apart -/
theorem name_more {tb h : Nat → Nat} {n m x : Nat} {t : Tk} (hN : NMS h m) (ho : TkOk tb n t) (k2 : t.k = 2) (hx : x < 11) (h0 : h (125 + x) = 0) (hf : afind tb h t = none) : 0 < setName tb h x t (125 + x) ∧ (∀ y, y < 11 → nmOk (setName tb h x t) y) ∧ (∀ y, y < 11 → y ≠ x → setName tb h x t (125 + y) = h (125 + y) ∧ enc (setName tb h x t) y = enc h y) ∧ ∀ y z, y < 11 → z < 11 → 0 < setName tb h x t (125 + y) → 0 < setName tb h x t (125 + z) → enc (setName tb h x t) y = enc (setName tb h x t) z → y = z := by
  obtain ⟨n2, n3, nk, np, nz, tp, tz, ni⟩ := hN
  obtain ⟨p1, p2⟩ := ho.2.2.2.2.1 k2
  have hpos := ho.2.2.2.1 (by omega)
  have oth : ∀ y, y < 11 → y ≠ x → setName tb h x t (125 + y) = h (125 + y) ∧ enc (setName tb h x t) y = enc h y := fun y hy ne => ⟨setName_o (by omega) (by omega), setName_enc' hx hy p1 ne (nk y hy).1⟩
  have non : ∀ y, y < 11 → 0 < h (125 + y) → enc h y ≠ tenc tb t := fun y hy hp e => by
    have := fnd_none hf y hy
    rw [(nmq_enc hp (nk y hy) ho k2).mpr e] at this
    cases this
  refine ⟨by rw [setName_x]; omega, fun y hy => ?_, oth, fun y z hy hz q1 q2 eq => ?_⟩
  · by_cases e : y = x
    · subst e
      refine ⟨by rw [setName_x]; exact p1, fun i hi => ?_⟩
      rw [setName_x] at hi
      unfold setName
      rw [if_neg (by omega), if_pos (by omega), show 136 + 8 * y + i - (136 + 8 * y) = i by omega]
      exact p2 i hi
    · exact nmOk_c (oth y hy e).1 (fun i hi => setName_o (by omega) (by have := (nk y hy).1; omega)) (nk y hy)
  · by_cases ey : y = x
    · by_cases ez : z = x
      · omega
      · rw [ey, setName_enc, (oth z hz ez).2] at eq
        rw [(oth z hz ez).1] at q2
        exact absurd eq.symm (non z hz q2)
    · by_cases ez : z = x
      · rw [ez, setName_enc, (oth y hy ey).2] at eq
        rw [(oth y hy ey).1] at q1
        exact absurd eq (non y hy q1)
      · rw [(oth y hy ey).2, (oth z hz ez).2] at eq
        rw [(oth y hy ey).1] at q1
        rw [(oth z hz ez).1] at q2
        exact ni y z hy hz q1 q2 eq
theorem c_addRing {vH srt plc nxt : Nat → Int32} {g s p : Nat} (h2 : vH 2 = nI g) (hg : g < 4) (hs : s ≤ 2) (hp : 2 ≤ p) (hp9 : p ≤ 9) : ∃ nxt', fX4_addRing vH srt plc nxt (nI s) (nI p) = some (upd vH 2 (nI (g + 1)), upd srt g (nI s), upd plc g (nI p), nxt') ∧ ∀ x, nxt' x = if 9 * g ≤ x ∧ x < 9 * g + p then nI (9 * g + (if s = 2 then (x - 9 * g + p - 1) % p else (x - 9 * g + 1) % p)) else nxt x := by
  unfold fX4_addRing
  simp (disch := omega) only [h2, nlq, nI_ltI, nI_leI]
  rw [if_neg (by omega), if_neg (by omega), if_neg (by omega), if_pos (by omega)]
  refine Exists.elim (lp_inv (f := fX4_addRing_B29 vH srt plc (nI s) (nI p)) (fun i st => ∃ f, st = (nI i, f) ∧ ∀ x, f x = if 9 * g ≤ x ∧ x < 9 * g + i then nI (9 * g + (if s = 2 then (x - 9 * g + p - 1) % p else (x - 9 * g + 1) % p)) else nxt x) (fun res => ∃ nxt', res = (upd vH 2 (nI (g + 1)), upd srt g (nI s), upd plc g (nI p), nxt') ∧ ∀ x, nxt' x = if 9 * g ≤ x ∧ x < 9 * g + p then nI (9 * g + (if s = 2 then (x - 9 * g + p - 1) % p else (x - 9 * g + 1) % p)) else nxt x) p ?_ ?_ 5000 0 (nI 0, nxt) (Nat.zero_le _) ⟨nxt, rfl, fun x => by rw [if_neg (by omega)]⟩ (by omega)) (fun res hr => ?_)
  · rintro i st hi ⟨f, rfl, hf⟩
    left
    have J63 : ∀ a b, a = (i + 1) % p → b = (i + p - 1) % p → fX4_addRing_J63 vH (nI s) (nI i) f (nI a) (nI b) = some (.inr (nI (i + 1), upd f (9 * g + i) (nI (9 * g + (if s = 2 then (i + p - 1) % p else (i + 1) % p))))) := by
      rintro a b rfl rfl
      have m1 : (i + p - 1) % p < p := Nat.mod_lt _ (by omega)
      have m2 : (i + 1) % p < p := Nat.mod_lt _ (by omega)
      unfold fX4_addRing_J63 fX4_addRing_J93 fX8_cellAt
      simp (disch := omega) only [h2, nlq, pk_mul, nI_add, bdS, nI_eq, ok_nI, gdT, nI_clamp, Nat.mul_comm g 9]
      by_cases q : s = 2
      · rw [if_pos q, if_pos q]
      · rw [if_neg q, if_neg q]
    have J48 : ∀ a, a = (i + 1) % p → fX4_addRing_J48 vH (nI s) (nI p) (nI i) f (nI a) = some (.inr (nI (i + 1), upd f (9 * g + i) (nI (9 * g + (if s = 2 then (i + p - 1) % p else (i + 1) % p))))) := by
      intro a ha
      unfold fX4_addRing_J48
      simp (disch := omega) only [nlq, nI_leI]
      by_cases q : i ≤ 0
      · rw [if_pos q, pk_sub (by omega)]
        exact J63 _ _ ha (by rw [show i = 0 by omega, Nat.zero_add, Nat.mod_eq_of_lt (by omega)])
      · rw [if_neg q, pk_sub (by omega)]
        exact J63 _ _ ha (by rw [show i + p - 1 = i - 1 + p by omega, Nat.add_mod_right, Nat.mod_eq_of_lt (by omega)])
    simp (disch := omega) only [fX4_addRing_B29, nlq, nI_leI, nI_add]
    rw [if_neg (by omega)]
    refine ⟨(nI (i + 1), upd f (9 * g + i) (nI (9 * g + (if s = 2 then (i + p - 1) % p else (i + 1) % p)))), ?_, _, rfl, fun x => ?_⟩
    · by_cases q : p ≤ i + 1
      · rw [if_pos q]
        exact J48 0 (by rw [show i + 1 = p by omega, Nat.mod_self])
      · rw [if_neg q]
        exact J48 (i + 1) (by rw [Nat.mod_eq_of_lt (by omega)])
    · unfold upd
      by_cases ex : x = 9 * g + i
      · rw [if_pos ex, if_pos (show 9 * g ≤ x ∧ x < 9 * g + (i + 1) by omega), show x - 9 * g = i by omega]
      · rw [if_neg ex, hf x]
        by_cases q : 9 * g ≤ x ∧ x < 9 * g + i
        · rw [if_pos q, if_pos (show 9 * g ≤ x ∧ x < 9 * g + (i + 1) by omega)]
        · rw [if_neg q, if_neg (show ¬ (9 * g ≤ x ∧ x < 9 * g + (i + 1)) by omega)]
  · rintro st ⟨f, rfl, hf⟩
    simp (disch := omega) only [fX4_addRing_B29, nlq, nI_leI, nI_add, h2, ok_nI, gdT, nI_clamp, exS]
    rw [if_pos (Nat.le_refl _)]
    exact ⟨_, rfl, f, rfl, hf⟩
  · obtain ⟨e, nxt', hr, hx⟩ := hr
    exact ⟨nxt', by rw [e, hr], hx⟩
section JL
variable {tb : Nat → Nat} {n : Nat} {tc tm vR vM lt fr : Nat → Int32} {j : Int64} {S : PS} {rN tN : Nat → Int64}
variable {vH vU mn mp mf plc ut uc un uw fc kd sz d1 d2 wd srt nxt : Nat → Int32}
/-- both sides stand at S -/
def JB (tb : Nat → Nat) (n : Nat) (S : PS) (vM lt fr vR : Nat → Int32) (j : Int64) : Prop := MS tb n S vM lt fr ∧ CS0 tb n S.t vR j
theorem MS.set (hs : MS tb n S vM lt fr) {k v : Nat} (hv : v < 1000) : MS tb n (S.t, setN S.h k v) vM lt (upd fr k (nI v)) := ⟨hs.1, hs.2.1, hs.2.2.1, hs.2.2.2.1, fr_set hs.2.2.2.2.1, lt_set hs.2.2.2.2.2 hv⟩
theorem m1l : (0 ≤ lg_cmp (-1) 0) = False := eq_false (by decide)
theorem encl {v : Nat} (hv : v < 2 ^ 40) : (0 ≤ lg_cmp (Int64.ofNat v) 0) = True := eq_true ((lg_cmp_ge _ _).mpr (by
  rw [Int64.le_iff_toInt_le, Int64.toInt_ofNat_of_lt (by omega)]
  show (0 : Int) ≤ v
  omega))
/-- a word and a number behind it, on both sides -/
theorem j_after (ht : TPR tb n tc tm) (hm : MS tb n S vM lt fr) (hc : CS0 tb n S.t vR j) {w lo hi : Nat} (hw : w < 22) (hlo : lo < 1000) (hhi : hi < 1000) : ∃ v vM' lt', fX9_after vM lt tm w (nI lo) (nI hi) = some (v, vM', lt') ∧ KM vM vM' ∧ ∃ r j1 v1, fX5_passes j vR tc w = some (r, j1, v1) ∧ KC vR v1 ∧ ((∃ e, MF e vM' ∧ r = nI 0 ∧ CF e v1) ∨ (r = nI 1 ∧ ∃ r' j2 v2, fX5_takeWhole j1 v1 tc (nI lo) (nI hi) = some (r', j2, v2) ∧ KC v1 v2 ∧ ((∃ e, MF e vM' ∧ r' = -1 ∧ CF e v2) ∨ ∃ x, v = nI x ∧ r' = nI x ∧ lo ≤ x ∧ x ≤ hi ∧ MS tb n (nx tb n (nx tb n S)) vM' lt' fr ∧ CS0 tb n (nx tb n (nx tb n S)).t v2 j2))) := by
  obtain ⟨v, vM', lt', e1, k1, q1⟩ := m_after ht hm hw hlo hhi
  obtain ⟨r, j1, v1, e2, k2, q2⟩ := c_passes ht hc hw
  refine ⟨v, vM', lt', e1, k1, r, j1, v1, e2, k2, ?_⟩
  unfold aAfter at q1
  rcases q2 with ⟨a, rfl, s2⟩ | ⟨e, a, rfl, hf⟩
  · rw [a] at q1
    obtain ⟨r', j2, v2, e3, k3, q3⟩ := c_takeWhole (j := j1) ht s2 hlo hhi
    refine Or.inr ⟨rfl, r', j2, v2, e3, k3, ?_⟩
    rcases q3 with ⟨x, b, rfl, s3, b1, b2⟩ | ⟨e, b, rfl, hf⟩
    · rcases q1 with ⟨x', S', c1, rfl, s4⟩ | ⟨e, c1, hf⟩
      · have c1 : aNum tb n lo hi (nx tb n S) = .ok (x', S') := c1
        rw [b] at c1
        cases c1
        exact Or.inr ⟨x, rfl, rfl, b1, b2, s4, s3⟩
      · have c1 : aNum tb n lo hi (nx tb n S) = .error e := c1
        rw [b] at c1
        cases c1
    · rcases q1 with ⟨x', S', c1, rfl, s4⟩ | ⟨e', c1, hf'⟩
      · have c1 : aNum tb n lo hi (nx tb n S) = .ok (x', S') := c1
        rw [b] at c1
        cases c1
      · have c1 : aNum tb n lo hi (nx tb n S) = .error e' := c1
        rw [b] at c1
        cases c1
        exact Or.inl ⟨e, hf', rfl, hf⟩
  · rw [a] at q1
    rcases q1 with ⟨x', S', c1, rfl, s4⟩ | ⟨e', c1, hf'⟩
    · cases c1
    · have c1 : (Except.error e : PR (Nat × PS)) = .error e' := c1
      cases c1
      exact Or.inl ⟨e, hf', rfl, hf⟩
end JL
