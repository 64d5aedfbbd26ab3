/-! MATH 52: questions with arguments, on both sides (written by gen/g72.py) -/
section RQ2
variable {vN vR tc vH vU mn mp mf plc ut uc un uw fc kd sz d1 d2 wd srt nxt vD now vB rn vM tm rr st und kp : Nat → Int32} {past ims : Nat → Nat → Int32} {h c : Nat → Nat}
theorem hasThing_n (v5 : vH 5 = nI 0) (x : Int32) : fX4_hasThing vH x = some (nI 0) := by
  refine c_hasThing_f (h := fun _ => 0) (by omega) v5 ?_
  by_cases q : x < 0
  · exact Or.inl q
  · exact Or.inr (by rw [Int32.le_iff_toInt_le]; rw [Int32.lt_iff_toInt_lt] at q; have : (0 : Int32).toInt = 0 := by decide
                     have : (nI 0).toInt = 0 := by decide
                     omega)
theorem hasRing_n (v2 : vH 2 = nI 0) (x : Int32) : fX4_hasRing vH x = some (nI 0) := by
  refine c_hasRing_f (h := fun _ => 0) (by omega) v2 ?_
  by_cases q : x < 0
  · exact Or.inl q
  · exact Or.inr (by rw [Int32.le_iff_toInt_le]; rw [Int32.lt_iff_toInt_lt] at q; have : (0 : Int32).toInt = 0 := by decide
                     have : (nI 0).toInt = 0 := by decide
                     omega)
theorem RS_wf (hs : RSt h c vH vU mn mp mf plc ut uc un uw fc kd sz d1 d2 wd srt nxt vD now past ims vB rn vM rr st und kp) : WFh h := PI_WFh hs.1 hs.2.1
theorem cT1 (hs : RSt h c vH vU mn mp mf plc ut uc un uw fc kd sz d1 d2 wd srt nxt vD now past ims vB rn vM rr st und kp) {t : Nat} (ht : t < h 3) : fX4_hasThing vH (nI t) = some (nI 1) := c_hasThing_t hs.1.1.2.2.2.2.1 hs.2.2.2.1.1.2.2.2.2.2.1 ht
theorem mT1 (hs : RSt h c vH vU mn mp mf plc ut uc un uw fc kd sz d1 d2 wd srt nxt vD now past ims vB rn vM rr st und kp) {t : Nat} (ht : t < h 3) : fX9_isThing (upd (upd vM 0 0) 11 0) rr (nI t) = some (nI 1) := m_isThing_t (RS_wf hs) hs.2.2.2.2.2.2.1 (show upd (upd vM 0 0) 11 0 14 = nI 1 from hs.2.2.2.2.2.2.2.2.2.1) ht
theorem cP1 (hs : RSt h c vH vU mn mp mf plc ut uc un uw fc kd sz d1 d2 wd srt nxt vD now past ims vB rn vM rr st und kp) {g y : Nat} (hg : g < h 2) (hy : y < pl h g) : fX4_hasPlace vH plc (nI g) (nI y) = some (nI 1) := c_hasPlace_t hs.1.1.2.2.2.1 hs.2.2.2.1.1.2.2.1 hg (hs.2.2.2.1.2.2.1 g hg).2 (hs.1.2.1 g hg).2.2 hy
theorem mP1 (hs : RSt h c vH vU mn mp mf plc ut uc un uw fc kd sz d1 d2 wd srt nxt vD now past ims vB rn vM rr st und kp) {g y : Nat} (hg : g < h 2) (hy : y < pl h g) : fX9_isPlace (upd (upd vM 0 0) 11 0) rr (nI g) (nI y) = some (nI 1) := m_isPlace_t (RS_wf hs) hs.2.2.2.2.2.2.1 (show upd (upd vM 0 0) 11 0 14 = nI 1 from hs.2.2.2.2.2.2.2.2.2.1) hg hy
theorem cS1 (hs : RSt h c vH vU mn mp mf plc ut uc un uw fc kd sz d1 d2 wd srt nxt vD now past ims vB rn vM rr st und kp) : fX4_stands vH = some (nI 1) := c_stands_t hs.1.1.2.2.2.1 hs.2.2.1 hs.2.2.2.1.1.2.2.1
theorem m141 (hs : RSt h c vH vU mn mp mf plc ut uc un uw fc kd sz d1 d2 wd srt nxt vD now past ims vB rn vM rr st und kp) : upd (upd vM 0 0) 11 0 14 = nI 1 := hs.2.2.2.2.2.2.2.2.2.1
theorem aT (hr : RLn vN vR tc vH vU mn mp mf plc ut uc un uw fc kd sz d1 d2 wd srt nxt vD now past ims vB rn vM tm rr st und kp) (x : Int32) : (∃ h c, RSt h c vH vU mn mp mf plc ut uc un uw fc kd sz d1 d2 wd srt nxt vD now past ims vB rn vM rr st und kp ∧ ∃ t, t < h 3 ∧ x = nI t) ∨ (fX4_hasThing vH x = some (nI 0) ∧ fX9_isThing (upd (upd vM 0 0) 11 0) rr x = some (nI 0)) := by
  rcases hr.2.2 with hn | ⟨h, c, hs⟩
  · exact Or.inr ⟨hasThing_n (hn.2.2.2.1 5 (by omega)) x, m_isThing_n (show upd (upd vM 0 0) 11 0 14 = nI 0 from hn.1) x⟩
  · rcases i32_or x (h 3) (by have := hs.1.1.2.2.2.2.1; omega) with ⟨t, ht, rfl⟩ | hx
    · exact Or.inl ⟨h, c, hs, t, ht, rfl⟩
    · exact Or.inr ⟨c_hasThing_f hs.1.1.2.2.2.2.1 hs.2.2.2.1.1.2.2.2.2.2.1 hx, m_isThing_f (RS_wf hs) hs.2.2.2.2.2.2.1 (m141 hs) hx⟩
theorem aP1 (hs : RSt h c vH vU mn mp mf plc ut uc un uw fc kd sz d1 d2 wd srt nxt vD now past ims vB rn vM rr st und kp) {g : Nat} (hg : g < h 2) (y : Int32) : (∃ y', y' < pl h g ∧ y = nI y') ∨ (fX4_hasPlace vH plc (nI g) y = some (nI 0) ∧ fX9_isPlace (upd (upd vM 0 0) 11 0) rr (nI g) y = some (nI 0)) := by
  have h9 := (hs.1.2.1 g hg).2.2
  rcases i32_or y (pl h g) (by omega) with ⟨y', hy, rfl⟩ | hy
  · exact Or.inl ⟨y', hy, rfl⟩
  · exact Or.inr ⟨c_hasPlace_f hs.1.1.2.2.2.1 hs.2.2.2.1.1.2.2.1 hg (hs.2.2.2.1.2.2.1 g hg).2 h9 hy, m_isPlace_f (RS_wf hs) hs.2.2.2.2.2.2.1 (m141 hs) hg hy⟩
theorem aP (hs : RSt h c vH vU mn mp mf plc ut uc un uw fc kd sz d1 d2 wd srt nxt vD now past ims vB rn vM rr st und kp) (x y : Int32) : (∃ g y', g < h 2 ∧ y' < pl h g ∧ x = nI g ∧ y = nI y') ∨ (fX4_hasPlace vH plc x y = some (nI 0) ∧ fX9_isPlace (upd (upd vM 0 0) 11 0) rr x y = some (nI 0)) := by
  have h2 := hs.1.1.2.2.2.1
  rcases i32_or x (h 2) (by omega) with ⟨g, hg, rfl⟩ | hx
  · rcases aP1 hs hg y with ⟨y', hy, rfl⟩ | q
    · exact Or.inl ⟨g, y', hg, hy, rfl, rfl⟩
    · exact Or.inr q
  · exact Or.inr ⟨c_hasPlace_r y (c_hasRing_f h2 hs.2.2.2.1.1.2.2.1 hx), m_isPlace_r y (m_isRing_f (RS_wf hs) hs.2.2.2.2.2.2.1 (m141 hs) hx)⟩
theorem aPr (hr : RLn vN vR tc vH vU mn mp mf plc ut uc un uw fc kd sz d1 d2 wd srt nxt vD now past ims vB rn vM tm rr st und kp) (x y : Int32) : (∃ h c, RSt h c vH vU mn mp mf plc ut uc un uw fc kd sz d1 d2 wd srt nxt vD now past ims vB rn vM rr st und kp ∧ ∃ g y', g < h 2 ∧ y' < pl h g ∧ x = nI g ∧ y = nI y') ∨ (fX4_hasPlace vH plc x y = some (nI 0) ∧ fX9_isPlace (upd (upd vM 0 0) 11 0) rr x y = some (nI 0)) := by
  rcases hr.2.2 with hn | ⟨h, c, hs⟩
  · exact Or.inr ⟨c_hasPlace_r y (hasRing_n (hn.2.2.2.1 2 (by omega)) x), m_isPlace_r y (m_isRing_n (show upd (upd vM 0 0) 11 0 14 = nI 0 from hn.1) x)⟩
  · rcases aP hs x y with q | q
    · exact Or.inl ⟨h, c, hs, q⟩
    · exact Or.inr q
theorem aTwo (hr : RLn vN vR tc vH vU mn mp mf plc ut uc un uw fc kd sz d1 d2 wd srt nxt vD now past ims vB rn vM tm rr st und kp) (x y : Int32) : (∃ h c, RSt h c vH vU mn mp mf plc ut uc un uw fc kd sz d1 d2 wd srt nxt vD now past ims vB rn vM rr st und kp ∧ ∃ t u, t < h 3 ∧ u < h 3 ∧ t ≠ u ∧ x = nI t ∧ y = nI u) ∨ (fX8_areTwo vN vH x y = some (nI 0) ∧ fX9_areTwo (upd (upd vM 0 0) 11 0) rr x y = some (nI 0)) := by
  have f8 : ∀ {a b : Option Int32}, fX8_areTwo_J31 = some (nI 0) := rfl
  rcases aT hr x with ⟨h, c, hs, t, ht, rfl⟩ | ⟨q1, q2⟩
  · rcases aT hr y with ⟨h', c', hs', u, hu, rfl⟩ | ⟨q1, q2⟩
    · have hu : u < h 3 := by
        have e1 := hs.2.2.2.1.1.2.2.2.2.2.1
        have e2 := hs'.2.2.2.1.1.2.2.2.2.2.1
        have b1 := hs.1.1.2.2.2.2.1
        have b2 := hs'.1.1.2.2.2.2.1
        have := nI_inj (by omega) (by omega) (e1.symm.trans e2)
        omega
      by_cases q : t = u
      · subst q
        right
        constructor
        · unfold fX8_areTwo
          rw [cT1 hs ht, bdS, if_neg nz1, bdS, if_neg nz1, if_pos rfl]
          rfl
        · unfold fX9_areTwo
          rw [mT1 hs ht, bdS, if_neg nz1, bdS, if_neg nz1, if_pos rfl]
          rfl
      · exact Or.inl ⟨h, c, hs, t, u, ht, hu, q, rfl, rfl⟩
    · right
      constructor
      · unfold fX8_areTwo
        rw [cT1 hs ht, bdS, if_neg nz1, q1, bdS, if_pos z0]
        rfl
      · unfold fX9_areTwo
        rw [mT1 hs ht, bdS, if_neg nz1, q2, bdS, if_pos z0]
        rfl
  · right
    constructor
    · unfold fX8_areTwo
      rw [q1, bdS, if_pos z0]
      rfl
    · unfold fX9_areTwo
      rw [q2, bdS, if_pos z0]
      rfl
theorem cTwo1 (hs : RSt h c vH vU mn mp mf plc ut uc un uw fc kd sz d1 d2 wd srt nxt vD now past ims vB rn vM rr st und kp) {t u : Nat} (ht : t < h 3) (hu : u < h 3) (hne : t ≠ u) : fX8_areTwo vN vH (nI t) (nI u) = some (nI 1) := c_areTwo_t hs.1.1.2.2.2.2.1 hs.2.2.2.1.1.2.2.2.2.2.1 ht hu hne
theorem mTwo1 (hs : RSt h c vH vU mn mp mf plc ut uc un uw fc kd sz d1 d2 wd srt nxt vD now past ims vB rn vM rr st und kp) {t u : Nat} (ht : t < h 3) (hu : u < h 3) (hne : t ≠ u) : fX9_areTwo (upd (upd vM 0 0) 11 0) rr (nI t) (nI u) = some (nI 1) := m_areTwo_t (RS_wf hs) hs.2.2.2.2.2.2.1 (m141 hs) ht hu hne
theorem nz2 : ¬ nI 2 = 0 := by decide
theorem damp_or (x y : Int32) : (∃ s k, s ≤ 65536 ∧ k ≤ 60 ∧ x = nI s ∧ y = nI k) ∨ (fX8_areDampNumbers x y = some (nI 0) ∧ ∀ (v st trial rr : Nat → Int32) (t a : Int32), fX9_dampWhy v st trial rr (nI 1) x y t a = some (nI 2, v, trial)) := by
  have J : fX8_areDampNumbers_J25 = some (nI 0) := rfl
  rcases i_or x 65536 (by omega) with ⟨s, hs, rfl⟩ | hx
  · rcases i_or y 60 (by omega) with ⟨k, hk, rfl⟩ | hy
    · exact Or.inl ⟨s, k, hs, hk, rfl, rfl⟩
    · right
      constructor
      · unfold fX8_areDampNumbers
        rw [if_neg (show ¬ nI s < 0 from nI_pos (by omega)), if_neg (show ¬ (65536 : Int32) < nI s from (show ¬ nI 65536 < nI s by rw [nI_ltI (by omega) (by omega)]; omega)), J]
        rcases hy with hy | hy
        · rw [if_pos hy]
        · rw [if_neg (show ¬ y < 0 from ge_nneg (by omega) hy), if_pos (show (60 : Int32) < y from ge_lt (n := 60) (by omega) hy)]
      · intro v st trial rr t a
        unfold fX9_dampWhy
        rw [if_neg nz1, show fX9_in (nI s) 0 65536 = some (nI 1) from m_inn_t (n := 65536) (by omega) hs, bdS, if_neg nz1, show fX9_in y 0 60 = some (nI 0) from m_inn_f (n := 60) (by omega) hy, bdS, if_pos z0]
        rfl
  · right
    constructor
    · unfold fX8_areDampNumbers
      rw [J]
      rcases hx with hx | hx
      · rw [if_pos hx]
      · rw [if_neg (show ¬ x < 0 from ge_nneg (by omega) hx), if_pos (show (65536 : Int32) < x from ge_lt (n := 65536) (by omega) hx)]
    · intro v st trial rr t a
      unfold fX9_dampWhy
      rw [if_neg nz1, show fX9_in x 0 65536 = some (nI 0) from m_inn_f (n := 65536) (by omega) hx, bdS, if_pos z0]
      rfl
theorem damp_1 (v st trial rr : Nat → Int32) (x y t a : Int32) : fX9_dampWhy v st trial rr (nI 0) x y t a = some (nI 1, v, trial) := by
  unfold fX9_dampWhy
  rw [if_pos z0]
  rfl
theorem areDamp_t {s k : Nat} (hs : s ≤ 65536) (hk : k ≤ 60) : fX8_areDampNumbers (nI s) (nI k) = some (nI 1) := by
  unfold fX8_areDampNumbers
  rw [if_neg (show ¬ nI s < 0 from nI_pos (by omega)), if_neg (show ¬ (65536 : Int32) < nI s from (show ¬ nI 65536 < nI s by rw [nI_ltI (by omega) (by omega)]; omega)), if_neg (show ¬ nI k < 0 from nI_pos (by omega)), if_neg (show ¬ (60 : Int32) < nI k from (show ¬ nI 60 < nI k by rw [nI_ltI (by omega) (by omega)]; omega))]
  rfl
theorem cell_t (hs : RSt h c vH vU mn mp mf plc ut uc un uw fc kd sz d1 d2 wd srt nxt vD now past ims vB rn vM rr st und kp) {t : Nat} (ht : t < h 3) : fX1_cellOf vD now (nI t) = some (nI (c t)) ∧ fX8_ringOfCell (nI (c t)) = some (nI (c t / 9)) ∧ okI (nI t) 9 = true ∧ st (nI t).toNatClampNeg / 9 = nI (c t / 9) ∧ c t / 9 < h 2 := by
  have h3 := hs.1.1.2.2.2.2.1
  have hok := hs.2.2.2.2.1.1.1 t ht
  have hlt := okc_lt (RS_wf hs) hok
  refine ⟨c_dcell (RS_wf hs) hs.2.2.2.2.2.1 ht, c_ring (by omega), ok_nI (by omega) (by omega), ?_, hok.1⟩
  rw [nI_clamp (by omega), hs.2.2.2.2.2.2.2.1 t (by omega)]
  exact pk_div (d := 9) (by omega) (by omega) (by omega)
theorem R_behind (hr : RLn vN vR tc vH vU mn mp mf plc ut uc un uw fc kd sz d1 d2 wd srt nxt vD now past ims vB rn vM tm rr st und kp) (aH : Nat) (aW : Nat) (vW : Nat → Int32) (who : Nat → Int32) (cl : Nat → Int32) (fro : Nat → Int32) (trial : Nat → Int32) (x : Int32) (y : Int32) : ∃ r vN' vM' vW' who' cl' fro' a' trial', fX8_behind aH aW vN vH vW vD now who kd cl srt nxt fro sz wd x y = some (r, vN', vW', who', cl', fro', a') ∧ fX9_behind vM rr st trial x y = some (r, vM', trial') ∧ RLn vN' vR tc vH vU mn mp mf plc ut uc un uw fc kd sz d1 d2 wd srt nxt vD now past ims vB rn vM' tm rr st und kp := by
  rcases aT hr x with ⟨h, c, hs, t, ht, rfl⟩ | ⟨q1, q2⟩
  · rcases i_or y 200 (by omega) with ⟨k, hk, rfl⟩ | hy
    · obtain ⟨vW', who', cl', fro', e1⟩ := C_behind (vN := vN) (vW := vW) (vD := vD) (who := who) (cl := cl) (fro := fro) (aH := aH) (aW := aW) (RS_CX hs) ht hk
      obtain ⟨vM', tr', e2, hma⟩ := M_behind (trial := trial) (RS_MX hs) ht hk
      exact ⟨_, _, vM', vW', who', cl', fro', _, tr', e1, e2, RL_q hr (by decide) hma⟩
    · skip
      refine ⟨-1, upd vN 6 2, upd (upd (upd vM 0 0) 11 0) 11 2, vW, who, cl, fro, aW, trial,  ?_, ?_, RL_q hr (tr := nI 2) (by decide) (MA_no vM 2)⟩
      · unfold fX8_behind
        rw [cT1 hs ht, bdS, if_neg nz1, rng_f (L := 200) (N := 200) rfl (by omega) hy _ _]
        all_goals first | rfl | (simp only; rw [if_neg nz2]; rfl) | (simp only; rw [if_neg nz1]; rfl)
      · unfold fX9_behind
        rw [m_gd, bdS, mT1 hs ht, bdS, why_2 (L := 200) (N := 200) rfl (by omega) hy, bdS, if_neg nz2]
        all_goals first | rfl | (simp only; rw [if_neg nz2]; rfl) | (simp only; rw [if_neg nz1]; rfl)
  · skip
    refine ⟨-1, upd vN 6 1, upd (upd (upd vM 0 0) 11 0) 11 1, vW, who, cl, fro, aW, trial,  ?_, ?_, RL_q hr (tr := nI 1) (by decide) (MA_no vM 1)⟩
    · unfold fX8_behind
      rw [q1, bdS, if_pos z0]
      all_goals first | rfl | (simp only; rw [if_neg nz2]; rfl) | (simp only; rw [if_neg nz1]; rfl)
    · unfold fX9_behind
      rw [m_gd, bdS, q2, bdS, why_1, bdS, if_neg nz1]
      all_goals first | rfl | (simp only; rw [if_neg nz2]; rfl) | (simp only; rw [if_neg nz1]; rfl)
theorem R_steps (hr : RLn vN vR tc vH vU mn mp mf plc ut uc un uw fc kd sz d1 d2 wd srt nxt vD now past ims vB rn vM tm rr st und kp) (aH : Nat) (aW : Nat) (vW : Nat → Int32) (who : Nat → Int32) (cl : Nat → Int32) (fro : Nat → Int32) (trial : Nat → Int32) (x : Int32) (y : Int32) : ∃ r vN' vM' vW' who' cl' fro' a' trial', fX8_steps aH aW vN vH vW vD now who kd cl srt nxt fro sz wd x y = some (r, vN', vW', who', cl', fro', a') ∧ fX9_steps vM rr st trial x y = some (r, vM', trial') ∧ RLn vN' vR tc vH vU mn mp mf plc ut uc un uw fc kd sz d1 d2 wd srt nxt vD now past ims vB rn vM' tm rr st und kp := by
  rcases aT hr x with ⟨h, c, hs, t, ht, rfl⟩ | ⟨q1, q2⟩
  · rcases i_or y 200 (by omega) with ⟨k, hk, rfl⟩ | hy
    · obtain ⟨vW', who', cl', fro', e1⟩ := C_steps (vN := vN) (vW := vW) (vD := vD) (who := who) (cl := cl) (fro := fro) (aH := aH) (aW := aW) (RS_CX hs) ht hk
      obtain ⟨vM', tr', e2, hma⟩ := M_steps (trial := trial) (RS_MX hs) ht hk
      exact ⟨_, _, vM', vW', who', cl', fro', _, tr', e1, e2, RL_q hr (by decide) hma⟩
    · skip
      refine ⟨-1, upd vN 6 2, upd (upd (upd vM 0 0) 11 0) 11 2, vW, who, cl, fro, aW, trial,  ?_, ?_, RL_q hr (tr := nI 2) (by decide) (MA_no vM 2)⟩
      · unfold fX8_steps
        rw [cT1 hs ht, bdS, if_neg nz1, rng_f (L := 200) (N := 200) rfl (by omega) hy _ _]
        all_goals first | rfl | (simp only; rw [if_neg nz2]; rfl) | (simp only; rw [if_neg nz1]; rfl)
      · unfold fX9_steps
        rw [m_gd, bdS, mT1 hs ht, bdS, why_2 (L := 200) (N := 200) rfl (by omega) hy, bdS, if_neg nz2]
        all_goals first | rfl | (simp only; rw [if_neg nz2]; rfl) | (simp only; rw [if_neg nz1]; rfl)
  · skip
    refine ⟨-1, upd vN 6 1, upd (upd (upd vM 0 0) 11 0) 11 1, vW, who, cl, fro, aW, trial,  ?_, ?_, RL_q hr (tr := nI 1) (by decide) (MA_no vM 1)⟩
    · unfold fX8_steps
      rw [q1, bdS, if_pos z0]
      all_goals first | rfl | (simp only; rw [if_neg nz2]; rfl) | (simp only; rw [if_neg nz1]; rfl)
    · unfold fX9_steps
      rw [m_gd, bdS, q2, bdS, why_1, bdS, if_neg nz1]
      all_goals first | rfl | (simp only; rw [if_neg nz2]; rfl) | (simp only; rw [if_neg nz1]; rfl)
theorem R_when (hr : RLn vN vR tc vH vU mn mp mf plc ut uc un uw fc kd sz d1 d2 wd srt nxt vD now past ims vB rn vM tm rr st und kp) (aH : Nat) (aW : Nat) (vW : Nat → Int32) (who : Nat → Int32) (cl : Nat → Int32) (fro : Nat → Int32) (trial : Nat → Int32) (x : Int32) (y : Int32) (z : Int32) : ∃ r vN' vM' vW' who' cl' fro' a' trial', fX8_when aH aW vN vH plc vW vD now who kd cl srt nxt fro sz wd x y z = some (r, vN', vW', who', cl', fro', a') ∧ fX9_when vM rr st trial x y z = some (r, vM', trial') ∧ RLn vN' vR tc vH vU mn mp mf plc ut uc un uw fc kd sz d1 d2 wd srt nxt vD now past ims vB rn vM' tm rr st und kp := by
  rcases aT hr x with ⟨h, c, hs, t, ht, rfl⟩ | ⟨q1, q2⟩
  · rcases aP hs y z with ⟨g, y', hg, hy, rfl, rfl⟩ | ⟨q1, q2⟩
    · obtain ⟨vW', who', cl', fro', e1⟩ := C_when (vN := vN) (vW := vW) (vD := vD) (who := who) (cl := cl) (fro := fro) (aH := aH) (aW := aW) (RS_CX hs) ht hg hy
      obtain ⟨vM', tr', e2, hma⟩ := M_when (trial := trial) (RS_MX hs) ht hg hy
      exact ⟨_, _, vM', vW', who', cl', fro', _, tr', e1, e2, RL_q hr (by decide) hma⟩
    · skip
      refine ⟨-1, upd vN 6 1, upd (upd (upd vM 0 0) 11 0) 11 1, vW, who, cl, fro, aW, trial,  ?_, ?_, RL_q hr (tr := nI 1) (by decide) (MA_no vM 1)⟩
      · unfold fX8_when
        rw [cT1 hs ht, bdS, if_neg nz1, q1, bdS, if_pos z0]
        all_goals first | rfl | (simp only; rw [if_neg nz2]; rfl) | (simp only; rw [if_neg nz1]; rfl)
      · unfold fX9_when
        rw [m_gd, bdS, mT1 hs ht, bdS, if_neg nz1, q2, bdS, if_pos z0]
        all_goals first | rfl | (simp only; rw [if_neg nz2]; rfl) | (simp only; rw [if_neg nz1]; rfl)
  · skip
    refine ⟨-1, upd vN 6 1, upd (upd (upd vM 0 0) 11 0) 11 1, vW, who, cl, fro, aW, trial,  ?_, ?_, RL_q hr (tr := nI 1) (by decide) (MA_no vM 1)⟩
    · unfold fX8_when
      rw [q1, bdS, if_pos z0]
      all_goals first | rfl | (simp only; rw [if_neg nz2]; rfl) | (simp only; rw [if_neg nz1]; rfl)
    · unfold fX9_when
      rw [m_gd, bdS, q2, bdS, if_pos z0]
      all_goals first | rfl | (simp only; rw [if_neg nz2]; rfl) | (simp only; rw [if_neg nz1]; rfl)
theorem R_meets (hr : RLn vN vR tc vH vU mn mp mf plc ut uc un uw fc kd sz d1 d2 wd srt nxt vD now past ims vB rn vM tm rr st und kp) (aH : Nat) (aW : Nat) (vW : Nat → Int32) (who : Nat → Int32) (cl : Nat → Int32) (fro : Nat → Int32) (trial : Nat → Int32) (x : Int32) (y : Int32) : ∃ r vN' vM' vW' who' cl' fro' a' trial', fX8_meets aH aW vN vH vW vD now who kd cl srt d1 d2 nxt fro sz wd x y = some (r, vN', vW', who', cl', fro', a') ∧ fX9_meets vM rr st trial x y = some (r, vM', trial') ∧ RLn vN' vR tc vH vU mn mp mf plc ut uc un uw fc kd sz d1 d2 wd srt nxt vD now past ims vB rn vM' tm rr st und kp := by
  rcases aTwo hr x y with ⟨h, c, hs, t, u, ht, hu, hne, rfl, rfl⟩ | ⟨q1, q2⟩
  · obtain ⟨vW', who', cl', fro', e1⟩ := C_meets (vN := vN) (vW := vW) (vD := vD) (who := who) (cl := cl) (fro := fro) (aH := aH) (aW := aW) (RS_CX hs) ht hu hne
    obtain ⟨vM', tr', e2, hma⟩ := M_meets (trial := trial) (RS_MX hs) ht hu hne
    exact ⟨_, _, vM', vW', who', cl', fro', _, tr', e1, e2, RL_q hr (by decide) hma⟩
  · skip
    refine ⟨-1, upd vN 6 1, upd (upd (upd vM 0 0) 11 0) 11 1, vW, who, cl, fro, aW, trial,  ?_, ?_, RL_q hr (tr := nI 1) (by decide) (MA_no vM 1)⟩
    · unfold fX8_meets
      rw [q1, bdS, if_pos z0]
      all_goals first | rfl | (simp only; rw [if_neg nz2]; rfl) | (simp only; rw [if_neg nz1]; rfl)
    · unfold fX9_meets
      rw [m_gd, bdS, q2, bdS, if_pos z0]
      all_goals first | rfl | (simp only; rw [if_neg nz2]; rfl) | (simp only; rw [if_neg nz1]; rfl)
theorem R_meetings (hr : RLn vN vR tc vH vU mn mp mf plc ut uc un uw fc kd sz d1 d2 wd srt nxt vD now past ims vB rn vM tm rr st und kp) (aH : Nat) (aW : Nat) (vW : Nat → Int32) (who : Nat → Int32) (cl : Nat → Int32) (fro : Nat → Int32) (trial : Nat → Int32) (x : Int32) (y : Int32) (z : Int32) : ∃ r vN' vM' vW' who' cl' fro' a' trial', fX8_meetings aH aW vN vH vW vD now who kd cl srt nxt fro sz wd d1 d2 x y z = some (r, vN', vW', who', cl', fro', a') ∧ fX9_meetings vM rr st trial x y z = some (r, vM', trial') ∧ RLn vN' vR tc vH vU mn mp mf plc ut uc un uw fc kd sz d1 d2 wd srt nxt vD now past ims vB rn vM' tm rr st und kp := by
  rcases aTwo hr x y with ⟨h, c, hs, t, u, ht, hu, hne, rfl, rfl⟩ | ⟨q1, q2⟩
  · rcases i_or z 200 (by omega) with ⟨k, hk, rfl⟩ | hz
    · obtain ⟨vW', who', cl', fro', e1⟩ := C_meetings (vN := vN) (vW := vW) (vD := vD) (who := who) (cl := cl) (fro := fro) (aH := aH) (aW := aW) (RS_CX hs) ht hu hne hk
      obtain ⟨vM', tr', e2, hma⟩ := M_meetings (trial := trial) (RS_MX hs) ht hu hne hk
      exact ⟨_, _, vM', vW', who', cl', fro', _, tr', e1, e2, RL_q hr (by decide) hma⟩
    · skip
      refine ⟨-1, upd vN 6 2, upd (upd (upd vM 0 0) 11 0) 11 2, vW, who, cl, fro, aW, trial,  ?_, ?_, RL_q hr (tr := nI 2) (by decide) (MA_no vM 2)⟩
      · unfold fX8_meetings
        rw [cTwo1 hs ht hu hne, bdS, if_neg nz1, rng_f (L := 200) (N := 200) rfl (by omega) hz _ _]
        all_goals first | rfl | (simp only; rw [if_neg nz2]; rfl) | (simp only; rw [if_neg nz1]; rfl)
      · unfold fX9_meetings
        rw [m_gd, bdS, mTwo1 hs ht hu hne, bdS, why_2 (L := 200) (N := 200) rfl (by omega) hz, bdS, if_neg nz2]
        all_goals first | rfl | (simp only; rw [if_neg nz2]; rfl) | (simp only; rw [if_neg nz1]; rfl)
  · skip
    refine ⟨-1, upd vN 6 1, upd (upd (upd vM 0 0) 11 0) 11 1, vW, who, cl, fro, aW, trial,  ?_, ?_, RL_q hr (tr := nI 1) (by decide) (MA_no vM 1)⟩
    · unfold fX8_meetings
      rw [q1, bdS, if_pos z0]
      all_goals first | rfl | (simp only; rw [if_neg nz2]; rfl) | (simp only; rw [if_neg nz1]; rfl)
    · unfold fX9_meetings
      rw [m_gd, bdS, q2, bdS, why_1, bdS, if_neg nz1]
      all_goals first | rfl | (simp only; rw [if_neg nz2]; rfl) | (simp only; rw [if_neg nz1]; rfl)
theorem R_holdsToMeet (hr : RLn vN vR tc vH vU mn mp mf plc ut uc un uw fc kd sz d1 d2 wd srt nxt vD now past ims vB rn vM tm rr st und kp) (aH : Nat) (aW : Nat) (vW : Nat → Int32) (who : Nat → Int32) (cl : Nat → Int32) (fro : Nat → Int32) (vG : Nat → Int32) (trial : Nat → Int32) (x : Int32) (y : Int32) (z : Int32) : ∃ r vN' vM' vW' who' cl' fro' a' trial', fX8_holdsToMeet aH aW vN vH vD now kd vG vW who cl srt nxt fro sz wd d1 d2 x y z = some (r, vN', vW', who', cl', fro', a') ∧ fX9_holdsToMeet vM rr st trial x y z = some (r, vM', trial') ∧ RLn vN' vR tc vH vU mn mp mf plc ut uc un uw fc kd sz d1 d2 wd srt nxt vD now past ims vB rn vM' tm rr st und kp := by
  rcases aTwo hr x y with ⟨h, c, hs, t, u, ht, hu, hne, rfl, rfl⟩ | ⟨q1, q2⟩
  · rcases i_or z 30 (by omega) with ⟨k, hk, rfl⟩ | hz
    · obtain ⟨a, vW', who', cl', fro', a', e1, q1⟩ := C_holdsToMeet (vG := vG) (vN := vN) (vW := vW) (vD := vD) (who := who) (cl := cl) (fro := fro) (aH := aH) (aW := aW) (RS_CX hs) ht hu hne hk
      obtain ⟨b, vM', tr', e2, q2, hma⟩ := M_holdsToMeet (trial := trial) (RS_MX hs) ht hu hne hk
      obtain rfl := MNp_un q1 q2
      exact ⟨_, _, vM', vW', who', cl', fro', _, tr', e1, e2, RL_q hr (by decide) hma⟩
    · skip
      refine ⟨-1, upd vN 6 2, upd (upd (upd vM 0 0) 11 0) 11 2, vW, who, cl, fro, aW, trial,  ?_, ?_, RL_q hr (tr := nI 2) (by decide) (MA_no vM 2)⟩
      · unfold fX8_holdsToMeet
        rw [cTwo1 hs ht hu hne, bdS, if_neg nz1, rng_f (L := 30) (N := 30) rfl (by omega) hz _ _]
        all_goals first | rfl | (simp only; rw [if_neg nz2]; rfl) | (simp only; rw [if_neg nz1]; rfl)
      · unfold fX9_holdsToMeet
        rw [m_gd, bdS, mTwo1 hs ht hu hne, bdS, why_2 (L := 30) (N := 30) rfl (by omega) hz, bdS, if_neg nz2]
        all_goals first | rfl | (simp only; rw [if_neg nz2]; rfl) | (simp only; rw [if_neg nz1]; rfl)
  · skip
    refine ⟨-1, upd vN 6 1, upd (upd (upd vM 0 0) 11 0) 11 1, vW, who, cl, fro, aW, trial,  ?_, ?_, RL_q hr (tr := nI 1) (by decide) (MA_no vM 1)⟩
    · unfold fX8_holdsToMeet
      rw [q1, bdS, if_pos z0]
      all_goals first | rfl | (simp only; rw [if_neg nz2]; rfl) | (simp only; rw [if_neg nz1]; rfl)
    · unfold fX9_holdsToMeet
      rw [m_gd, bdS, q2, bdS, why_1, bdS, if_neg nz1]
      all_goals first | rfl | (simp only; rw [if_neg nz2]; rfl) | (simp only; rw [if_neg nz1]; rfl)
theorem R_holds (hr : RLn vN vR tc vH vU mn mp mf plc ut uc un uw fc kd sz d1 d2 wd srt nxt vD now past ims vB rn vM tm rr st und kp) (aH : Nat) (aW : Nat) (vW : Nat → Int32) (who : Nat → Int32) (cl : Nat → Int32) (fro : Nat → Int32) (vG : Nat → Int32) (trial : Nat → Int32) (x : Int32) (y : Int32) (z : Int32) (u : Int32) : ∃ r vN' vM' vW' who' cl' fro' a' trial', fX8_holds aH aW vN vH plc vD now kd vG vW who cl srt nxt fro sz wd d1 d2 x y z u = some (r, vN', vW', who', cl', fro', a') ∧ fX9_holds vM rr st trial x y z u = some (r, vM', trial') ∧ RLn vN' vR tc vH vU mn mp mf plc ut uc un uw fc kd sz d1 d2 wd srt nxt vD now past ims vB rn vM' tm rr st und kp := by
  rcases aT hr x with ⟨h, c, hs, t, ht, rfl⟩ | ⟨q1, q2⟩
  · rcases aP hs y z with ⟨g, y', hg, hy, rfl, rfl⟩ | ⟨q1, q2⟩
    · rcases i_or u 30 (by omega) with ⟨k, hk, rfl⟩ | hu
      · obtain ⟨a, vW', who', cl', fro', a', e1, q1⟩ := C_holds (vG := vG) (vN := vN) (vW := vW) (vD := vD) (who := who) (cl := cl) (fro := fro) (aH := aH) (aW := aW) (RS_CX hs) ht hg hy hk
        obtain ⟨b, vM', tr', e2, q2, hma⟩ := M_holds (trial := trial) (RS_MX hs) ht hg hy hk
        obtain rfl := MNp_un q1 q2
        exact ⟨_, _, vM', vW', who', cl', fro', _, tr', e1, e2, RL_q hr (by decide) hma⟩
      · skip
        refine ⟨-1, upd vN 6 2, upd (upd (upd vM 0 0) 11 0) 11 2, vW, who, cl, fro, aW, trial,  ?_, ?_, RL_q hr (tr := nI 2) (by decide) (MA_no vM 2)⟩
        · unfold fX8_holds
          rw [cT1 hs ht, bdS, if_neg nz1, cP1 hs hg hy, bdS, if_neg nz1, rng_f (L := 30) (N := 30) rfl (by omega) hu _ _]
          all_goals first | rfl | (simp only; rw [if_neg nz2]; rfl) | (simp only; rw [if_neg nz1]; rfl)
        · unfold fX9_holds
          rw [m_gd, bdS, mT1 hs ht, bdS, if_neg nz1, mP1 hs hg hy, bdS, if_neg nz1, show fX9_holds_J27 rr st trial (nI t) (nI g) (nI y') u 1 (upd (upd vM 0 0) 11 0) = some (-1, upd (upd (upd vM 0 0) 11 0) 11 2, trial) by unfold fX9_holds_J27; rw [show fX9_why 1 u 30 = some (nI 2) from why_2 (L := 30) (N := 30) rfl (by omega) hu, bdS, if_neg nz2]; rfl]
          all_goals first | rfl | (simp only; rw [if_neg nz2]; rfl) | (simp only; rw [if_neg nz1]; rfl)
    · skip
      refine ⟨-1, upd vN 6 1, upd (upd (upd vM 0 0) 11 0) 11 1, vW, who, cl, fro, aW, trial,  ?_, ?_, RL_q hr (tr := nI 1) (by decide) (MA_no vM 1)⟩
      · unfold fX8_holds
        rw [cT1 hs ht, bdS, if_neg nz1, q1, bdS, if_pos z0]
        all_goals first | rfl | (simp only; rw [if_neg nz2]; rfl) | (simp only; rw [if_neg nz1]; rfl)
      · unfold fX9_holds
        rw [m_gd, bdS, mT1 hs ht, bdS, if_neg nz1, q2, bdS, if_pos z0, show fX9_holds_J26 rr st trial (nI t) y z u (upd (upd vM 0 0) 11 0) = some (-1, upd (upd (upd vM 0 0) 11 0) 11 1, trial) by unfold fX9_holds_J26 fX9_holds_J27; rw [show fX9_why 0 u 30 = some (nI 1) from why_1 _ _, bdS, if_neg nz1]; rfl]
        all_goals first | rfl | (simp only; rw [if_neg nz2]; rfl) | (simp only; rw [if_neg nz1]; rfl)
  · skip
    refine ⟨-1, upd vN 6 1, upd (upd (upd vM 0 0) 11 0) 11 1, vW, who, cl, fro, aW, trial,  ?_, ?_, RL_q hr (tr := nI 1) (by decide) (MA_no vM 1)⟩
    · unfold fX8_holds
      rw [q1, bdS, if_pos z0]
      all_goals first | rfl | (simp only; rw [if_neg nz2]; rfl) | (simp only; rw [if_neg nz1]; rfl)
    · unfold fX9_holds
      rw [m_gd, bdS, q2, bdS, if_pos z0, show fX9_holds_J26 rr st trial x y z u (upd (upd vM 0 0) 11 0) = some (-1, upd (upd (upd vM 0 0) 11 0) 11 1, trial) by unfold fX9_holds_J26 fX9_holds_J27; rw [show fX9_why 0 u 30 = some (nI 1) from why_1 _ _, bdS, if_neg nz1]; rfl]
      all_goals first | rfl | (simp only; rw [if_neg nz2]; rfl) | (simp only; rw [if_neg nz1]; rfl)
theorem R_putFor (hr : RLn vN vR tc vH vU mn mp mf plc ut uc un uw fc kd sz d1 d2 wd srt nxt vD now past ims vB rn vM tm rr st und kp) (aH : Nat) (aW : Nat) (vW : Nat → Int32) (who : Nat → Int32) (cl : Nat → Int32) (fro : Nat → Int32) (trial : Nat → Int32) (x : Int32) (y : Int32) (z : Int32) : ∃ r vN' vM' vW' who' cl' fro' a' trial', fX8_putFor aH aW vN vH vD now plc vW who kd cl srt nxt fro sz wd x y z = some (r, vN', vW', who', cl', fro', a') ∧ fX9_putFor vM rr st trial x y z = some (r, vM', trial') ∧ RLn vN' vR tc vH vU mn mp mf plc ut uc un uw fc kd sz d1 d2 wd srt nxt vD now past ims vB rn vM' tm rr st und kp := by
  rcases aT hr x with ⟨h, c, hs, t, ht, rfl⟩ | ⟨q1, q2⟩
  · obtain ⟨k1, k2, k3, k4, k5⟩ := cell_t hs ht
    rcases aP1 hs k5 y with ⟨p, hp, rfl⟩ | ⟨q1, q2⟩
    · rcases i_or z 60 (by omega) with ⟨k, hk, rfl⟩ | hz
      · obtain ⟨vW', who', cl', fro', a', e1⟩ := C_putFor (vN := vN) (vW := vW) (vD := vD) (who := who) (cl := cl) (fro := fro) (aH := aH) (aW := aW) (RS_CX hs) ht hp hk
        obtain ⟨vM', tr', e2, hma⟩ := M_putFor (trial := trial) (RS_MX hs) ht hp hk
        exact ⟨_, _, vM', vW', who', cl', fro', _, tr', e1, e2, RL_q hr (by decide) hma⟩
      · skip
        refine ⟨-1, upd vN 6 2, upd (upd (upd vM 0 0) 11 0) 11 2, vW, who, cl, fro, aW, trial,  ?_, ?_, RL_q hr (tr := nI 2) (by decide) (MA_no vM 2)⟩
        · unfold fX8_putFor
          rw [cT1 hs ht, bdS, if_neg nz1, k1, bdS, k2, bdS, cP1 hs k5 hp, bdS, if_neg nz1, rng_f (L := 60) (N := 60) rfl (by omega) hz _ _]
          all_goals first | rfl | (simp only; rw [if_neg nz2]; rfl) | (simp only; rw [if_neg nz1]; rfl)
        · unfold fX9_putFor
          rw [m_gd, bdS, mT1 hs ht, bdS, if_neg nz1, k3, gdT, k4, mP1 hs k5 hp, bdS, if_neg nz1, show fX9_in z 0 60 = some (nI 0) from m_inn_f (n := 60) (by omega) hz, bdS, if_pos z0]
          all_goals first | rfl | (simp only; rw [if_neg nz2]; rfl) | (simp only; rw [if_neg nz1]; rfl)
    · skip
      refine ⟨-1, upd vN 6 1, upd (upd (upd vM 0 0) 11 0) 11 1, vW, who, cl, fro, aW, trial,  ?_, ?_, RL_q hr (tr := nI 1) (by decide) (MA_no vM 1)⟩
      · unfold fX8_putFor
        rw [cT1 hs ht, bdS, if_neg nz1, k1, bdS, k2, bdS, q1, bdS, if_pos z0]
        all_goals first | rfl | (simp only; rw [if_neg nz2]; rfl) | (simp only; rw [if_neg nz1]; rfl)
      · unfold fX9_putFor
        rw [m_gd, bdS, mT1 hs ht, bdS, if_neg nz1, k3, gdT, k4, q2, bdS, if_pos z0]
        all_goals first | rfl | (simp only; rw [if_neg nz2]; rfl) | (simp only; rw [if_neg nz1]; rfl)
  · skip
    refine ⟨-1, upd vN 6 1, upd (upd (upd vM 0 0) 11 0) 11 1, vW, who, cl, fro, aW, trial,  ?_, ?_, RL_q hr (tr := nI 1) (by decide) (MA_no vM 1)⟩
    · unfold fX8_putFor
      rw [q1, bdS, if_pos z0]
      all_goals first | rfl | (simp only; rw [if_neg nz2]; rfl) | (simp only; rw [if_neg nz1]; rfl)
    · unfold fX9_putFor
      rw [m_gd, bdS, q2, bdS, if_pos z0]
      all_goals first | rfl | (simp only; rw [if_neg nz2]; rfl) | (simp only; rw [if_neg nz1]; rfl)
theorem R_worstHeld (hr : RLn vN vR tc vH vU mn mp mf plc ut uc un uw fc kd sz d1 d2 wd srt nxt vD now past ims vB rn vM tm rr st und kp) (aH : Nat) (aW : Nat) (vW : Nat → Int32) (who : Nat → Int32) (cl : Nat → Int32) (fro : Nat → Int32) (trial : Nat → Int32) (x : Int32) : ∃ r vN' vM' vW' who' cl' fro' a' trial', fX8_worstHeld aH aW vN vH vW vD now who kd cl srt nxt fro sz wd x = some (r, vN', vW', who', cl', fro', a') ∧ fX9_worstHeld vM rr st trial x = some (r, vM', trial') ∧ RLn vN' vR tc vH vU mn mp mf plc ut uc un uw fc kd sz d1 d2 wd srt nxt vD now past ims vB rn vM' tm rr st und kp := by
  rcases id hr.2.2 with hn | ⟨h, c, hs⟩
  · skip
    refine ⟨-1, upd vN 6 1, upd (upd (upd vM 0 0) 11 0) 11 1, vW, who, cl, fro, aW, trial,  ?_, ?_, RL_q hr (tr := nI 1) (by decide) (MA_no vM 1)⟩
    · unfold fX8_worstHeld
      rw [c_stands_f (hn.2.2.2.1 2 (by omega)), bdS, if_pos z0]
      all_goals first | rfl | (simp only; rw [if_neg nz2]; rfl) | (simp only; rw [if_neg nz1]; rfl)
    · unfold fX9_worstHeld
      rw [m_gd, bdS, show upd (upd vM 0 0) 11 0 14 = nI 0 from hn.1, why_1, bdS, if_neg nz1]
      all_goals first | rfl | (simp only; rw [if_neg nz2]; rfl) | (simp only; rw [if_neg nz1]; rfl)
  · rcases i_or x 60 (by omega) with ⟨k, hk, rfl⟩ | hx
    · obtain ⟨vW', who', cl', fro', a', e1⟩ := C_worstHeld (vN := vN) (vW := vW) (vD := vD) (who := who) (cl := cl) (fro := fro) (aH := aH) (aW := aW) (RS_CX hs) hk
      obtain ⟨vM', tr', e2, hma⟩ := M_worstHeld (trial := trial) (RS_MX hs) hk
      exact ⟨_, _, vM', vW', who', cl', fro', _, tr', e1, e2, RL_q hr (by decide) hma⟩
    · skip
      refine ⟨-1, upd vN 6 2, upd (upd (upd vM 0 0) 11 0) 11 2, vW, who, cl, fro, aW, trial,  ?_, ?_, RL_q hr (tr := nI 2) (by decide) (MA_no vM 2)⟩
      · unfold fX8_worstHeld
        rw [cS1 hs, bdS, if_neg nz1, rng_f (L := 60) (N := 60) rfl (by omega) hx _ _]
        all_goals first | rfl | (simp only; rw [if_neg nz2]; rfl) | (simp only; rw [if_neg nz1]; rfl)
      · unfold fX9_worstHeld
        rw [m_gd, bdS, m141 hs, why_2 (L := 60) (N := 60) rfl (by omega) hx, bdS, if_neg nz2]
        all_goals first | rfl | (simp only; rw [if_neg nz2]; rfl) | (simp only; rw [if_neg nz1]; rfl)
theorem whyW_n (v2 : vH 2 = nI 0) (x : Int32) : fX8_whyNoWants vN vH x = some (nI 1) := by
  unfold fX8_whyNoWants
  rw [c_stands_f v2, bdS, if_pos z0]
  rfl
theorem whyW_f (e : fX4_stands vH = some (nI 1)) {x : Int32} (hx : x < 0 ∨ nI (60 + 1) ≤ x) : fX8_whyNoWants vN vH x = some (nI 2) := by
  unfold fX8_whyNoWants
  rw [e, bdS, if_neg nz1, rng_f (L := 60) (N := 60) rfl (by omega) hx _ _]
  rfl
theorem whyH_n (v2 : vH 2 = nI 0) (x : Int32) : fX8_whyNoHeirs vN vH x = some (nI 1) := by
  unfold fX8_whyNoHeirs
  rw [c_stands_f v2, bdS, if_pos z0]
  rfl
theorem whyH_f (e : fX4_stands vH = some (nI 1)) {x : Int32} (hx : x < 0 ∨ nI (99 + 1) ≤ x) : fX8_whyNoHeirs vN vH x = some (nI 2) := by
  unfold fX8_whyNoHeirs
  rw [e, bdS, if_neg nz1, rng_f (L := 99) (N := 99) rfl (by omega) hx _ _]
  rfl
theorem whyH_t (e : fX4_stands vH = some (nI 1)) {k : Nat} (hk : k ≤ 99) : fX8_whyNoHeirs vN vH (nI k) = some (nI 0) := by
  unfold fX8_whyNoHeirs
  rw [e, bdS, if_neg nz1, rng_t (L := 99) (N := 99) rfl (by omega) hk _ _]
  rfl
theorem R_pays (hr : RLn vN vR tc vH vU mn mp mf plc ut uc un uw fc kd sz d1 d2 wd srt nxt vD now past ims vB rn vM tm rr st und kp) (aH : Nat) (aW : Nat) (vW : Nat → Int32) (who : Nat → Int32) (cl : Nat → Int32) (fro : Nat → Int32) (vG : Nat → Int32) (trial : Nat → Int32) (x : Int32) : ∃ r vN' vM' vW' who' cl' fro' a' trial', fX8_pays aH aW vN vH vU un vD now ut uc vG vW who kd cl srt nxt fro sz wd uw x = some (r, vN', vW', who', cl', fro', a') ∧ fX9_pays vM st trial rr x = some (r, vM', trial') ∧ RLn vN' vR tc vH vU mn mp mf plc ut uc un uw fc kd sz d1 d2 wd srt nxt vD now past ims vB rn vM' tm rr st und kp := by
  rcases id hr.2.2 with hn | ⟨h, c, hs⟩
  · skip
    refine ⟨-1, upd vN 6 1, upd (upd (upd vM 0 0) 11 0) 11 1, vW, who, cl, fro, aW, trial,  ?_, ?_, RL_q hr (tr := nI 1) (by decide) (MA_no vM 1)⟩
    · unfold fX8_pays
      rw [whyW_n (hn.2.2.2.1 2 (by omega)), bdS, if_neg nz1]
      all_goals first | rfl | (simp only; rw [if_neg nz2]; rfl) | (simp only; rw [if_neg nz1]; rfl)
    · unfold fX9_pays
      rw [m_gd, bdS, show upd (upd vM 0 0) 11 0 14 = nI 0 from hn.1, why_1, bdS, if_neg nz1]
      all_goals first | rfl | (simp only; rw [if_neg nz2]; rfl) | (simp only; rw [if_neg nz1]; rfl)
  · rcases i_or x 60 (by omega) with ⟨k, hk, rfl⟩ | hx
    · obtain ⟨vW', who', cl', fro', e1⟩ := C_pays (vG := vG) (vN := vN) (vW := vW) (vD := vD) (who := who) (cl := cl) (fro := fro) (aH := aH) (aW := aW) (RS_CX hs) hs.1.2.2.2.2.2.1 hs.2.2.2.1.2.1 hk
      obtain ⟨vM', tr', e2, hma⟩ := M_pays (trial := trial) (RS_MX hs) hs.1.2.2.2.2.2.1 hk
      exact ⟨_, _, vM', vW', who', cl', fro', _, tr', e1, e2, RL_q hr (by decide) hma⟩
    · skip
      refine ⟨-1, upd vN 6 2, upd (upd (upd vM 0 0) 11 0) 11 2, vW, who, cl, fro, aW, trial,  ?_, ?_, RL_q hr (tr := nI 2) (by decide) (MA_no vM 2)⟩
      · unfold fX8_pays
        rw [whyW_f (cS1 hs) hx, bdS, if_neg nz2]
        all_goals first | rfl | (simp only; rw [if_neg nz2]; rfl) | (simp only; rw [if_neg nz1]; rfl)
      · unfold fX9_pays
        rw [m_gd, bdS, m141 hs, why_2 (L := 60) (N := 60) rfl (by omega) hx, bdS, if_neg nz2]
        all_goals first | rfl | (simp only; rw [if_neg nz2]; rfl) | (simp only; rw [if_neg nz1]; rfl)
theorem R_best (hr : RLn vN vR tc vH vU mn mp mf plc ut uc un uw fc kd sz d1 d2 wd srt nxt vD now past ims vB rn vM tm rr st und kp) (aH : Nat) (aW : Nat) (vW : Nat → Int32) (who : Nat → Int32) (cl : Nat → Int32) (fro : Nat → Int32) (vG : Nat → Int32) (trial : Nat → Int32) (x : Int32) : ∃ r vN' vM' vW' who' cl' fro' a' trial', fX8_best aH aW vN vH vU un vD now ut uc uw kd vG vW who cl srt nxt fro sz wd x = some (r, vN', vW', who', cl', fro', a') ∧ fX9_best vM st trial rr x = some (r, vM', trial') ∧ RLn vN' vR tc vH vU mn mp mf plc ut uc un uw fc kd sz d1 d2 wd srt nxt vD now past ims vB rn vM' tm rr st und kp := by
  rcases id hr.2.2 with hn | ⟨h, c, hs⟩
  · skip
    refine ⟨-1, upd vN 6 1, upd (upd (upd vM 0 0) 11 0) 11 1, vW, who, cl, fro, aW, trial,  ?_, ?_, RL_q hr (tr := nI 1) (by decide) (MA_no vM 1)⟩
    · unfold fX8_best
      rw [whyW_n (hn.2.2.2.1 2 (by omega)), bdS, if_neg nz1]
      all_goals first | rfl | (simp only; rw [if_neg nz2]; rfl) | (simp only; rw [if_neg nz1]; rfl)
    · unfold fX9_best
      rw [m_gd, bdS, show upd (upd vM 0 0) 11 0 14 = nI 0 from hn.1, why_1, bdS, if_neg nz1]
      all_goals first | rfl | (simp only; rw [if_neg nz2]; rfl) | (simp only; rw [if_neg nz1]; rfl)
  · rcases i_or x 60 (by omega) with ⟨k, hk, rfl⟩ | hx
    · obtain ⟨S, vW', who', cl', fro', a', e1, q1⟩ := C_best (vG := vG) (vN := vN) (vW := vW) (vD := vD) (who := who) (cl := cl) (fro := fro) (aH := aH) (aW := aW) (RS_CX hs) hs.1.2.2.2.2.2.1 hs.2.2.2.1.2.1 hk
      obtain ⟨T, vM', tr', e2, q2, hma⟩ := M_best (trial := trial) (RS_MX hs) hs.1.2.2.2.2.2.1 hk
      obtain rfl := AX_un q1 q2
      exact ⟨_, _, vM', vW', who', cl', fro', _, tr', e1, e2, RL_q hr (by decide) hma⟩
    · skip
      refine ⟨-1, upd vN 6 2, upd (upd (upd vM 0 0) 11 0) 11 2, vW, who, cl, fro, aW, trial,  ?_, ?_, RL_q hr (tr := nI 2) (by decide) (MA_no vM 2)⟩
      · unfold fX8_best
        rw [whyW_f (cS1 hs) hx, bdS, if_neg nz2]
        all_goals first | rfl | (simp only; rw [if_neg nz2]; rfl) | (simp only; rw [if_neg nz1]; rfl)
      · unfold fX9_best
        rw [m_gd, bdS, m141 hs, why_2 (L := 60) (N := 60) rfl (by omega) hx, bdS, if_neg nz2]
        all_goals first | rfl | (simp only; rw [if_neg nz2]; rfl) | (simp only; rw [if_neg nz1]; rfl)
theorem R_bestPays (hr : RLn vN vR tc vH vU mn mp mf plc ut uc un uw fc kd sz d1 d2 wd srt nxt vD now past ims vB rn vM tm rr st und kp) (aH : Nat) (aW : Nat) (vW : Nat → Int32) (who : Nat → Int32) (cl : Nat → Int32) (fro : Nat → Int32) (vG : Nat → Int32) (trial : Nat → Int32) (x : Int32) : ∃ r vN' vM' vW' who' cl' fro' a' trial', fX8_bestPays aH aW vN vH vU un vD now ut uc uw kd vG vW who cl srt nxt fro sz wd x = some (r, vN', vW', who', cl', fro', a') ∧ fX9_bestPays vM st trial rr x = some (r, vM', trial') ∧ RLn vN' vR tc vH vU mn mp mf plc ut uc un uw fc kd sz d1 d2 wd srt nxt vD now past ims vB rn vM' tm rr st und kp := by
  rcases id hr.2.2 with hn | ⟨h, c, hs⟩
  · skip
    refine ⟨-1, upd vN 6 1, upd (upd (upd vM 0 0) 11 0) 11 1, vW, who, cl, fro, aW, trial,  ?_, ?_, RL_q hr (tr := nI 1) (by decide) (MA_no vM 1)⟩
    · unfold fX8_bestPays
      rw [whyW_n (hn.2.2.2.1 2 (by omega)), bdS, if_neg nz1]
      all_goals first | rfl | (simp only; rw [if_neg nz2]; rfl) | (simp only; rw [if_neg nz1]; rfl)
    · unfold fX9_bestPays
      rw [m_gd, bdS, show upd (upd vM 0 0) 11 0 14 = nI 0 from hn.1, why_1, bdS, if_neg nz1]
      all_goals first | rfl | (simp only; rw [if_neg nz2]; rfl) | (simp only; rw [if_neg nz1]; rfl)
  · rcases i_or x 60 (by omega) with ⟨k, hk, rfl⟩ | hx
    · obtain ⟨S, vW', who', cl', fro', e1, q1⟩ := C_bestPays (vG := vG) (vN := vN) (vW := vW) (vD := vD) (who := who) (cl := cl) (fro := fro) (aH := aH) (aW := aW) (RS_CX hs) hs.1.2.2.2.2.2.1 hs.2.2.2.1.2.1 hk
      obtain ⟨T, vM', tr', e2, q2, hma⟩ := M_bestPays (trial := trial) (RS_MX hs) hs.1.2.2.2.2.2.1 hk
      obtain rfl := AX_un q1 q2
      exact ⟨_, _, vM', vW', who', cl', fro', _, tr', e1, e2, RL_q hr (by decide) hma⟩
    · skip
      refine ⟨-1, upd vN 6 2, upd (upd (upd vM 0 0) 11 0) 11 2, vW, who, cl, fro, aW, trial,  ?_, ?_, RL_q hr (tr := nI 2) (by decide) (MA_no vM 2)⟩
      · unfold fX8_bestPays
        rw [whyW_f (cS1 hs) hx, bdS, if_neg nz2]
        all_goals first | rfl | (simp only; rw [if_neg nz2]; rfl) | (simp only; rw [if_neg nz1]; rfl)
      · unfold fX9_bestPays
        rw [m_gd, bdS, m141 hs, why_2 (L := 60) (N := 60) rfl (by omega) hx, bdS, if_neg nz2]
        all_goals first | rfl | (simp only; rw [if_neg nz2]; rfl) | (simp only; rw [if_neg nz1]; rfl)
theorem R_ruleAt (hr : RLn vN vR tc vH vU mn mp mf plc ut uc un uw fc kd sz d1 d2 wd srt nxt vD now past ims vB rn vM tm rr st und kp)  (x : Int32) : ∃ r vN' vM' , fX8_ruleAt vN vH vB rn x = some (r, vN') ∧ fX9_ruleAt vM rr x = some (r, vM') ∧ RLn vN' vR tc vH vU mn mp mf plc ut uc un uw fc kd sz d1 d2 wd srt nxt vD now past ims vB rn vM' tm rr st und kp := by
  rcases id hr.2.2 with hn | ⟨h, c, hs⟩
  · skip
    refine ⟨-1, upd vN 6 1, upd (upd (upd vM 0 0) 11 0) 11 1,  ?_, ?_, RL_q hr (tr := nI 1) (by decide) (MA_no vM 1)⟩
    · unfold fX8_ruleAt
      rw [c_stands_f (hn.2.2.2.1 2 (by omega)), bdS, if_pos z0]
      all_goals first | rfl | (simp only; rw [if_neg nz2]; rfl) | (simp only; rw [if_neg nz1]; rfl)
    · unfold fX9_ruleAt
      rw [m_gd, bdS, if_pos (show upd (upd vM 0 0) 11 0 14 = 0 from hn.1)]
      all_goals first | rfl | (simp only; rw [if_neg nz2]; rfl) | (simp only; rw [if_neg nz1]; rfl)
  · obtain ⟨vM', a, tr, e2, hma, q⟩ := M_ruleAt (PI_WFh hs.1 hs.2.1) hs.1.2.2.2.2.2.2.1 hs.2.2.2.2.2.2.1 hs.2.2.2.2.2.2.2.2.2.1 x
    rcases q with ⟨i, hi, rfl, rfl, rfl⟩ | ⟨hno, rfl, rfl⟩
    · exact ⟨_, _, vM', C_ruleAt (vN := vN) hs.1.1.2.2.2.1 hs.2.2.1 hs.2.2.2.1.1.2.2.1 hs.2.2.2.2.2.2.2.2.1 hi, e2, RL_q hr (by decide) hma⟩
    · refine ⟨-1, upd vN 6 1, vM', ?_, e2, RL_q hr (tr := nI 1) (by decide) hma⟩
      have hl := hs.2.2.2.2.2.2.2.2.1.1.1
      have hlen := RL_len h
      unfold fX8_ruleAt
      rw [cS1 hs, bdS, if_neg nz1, show fX0_count vB = some (vB 2) from rfl, bdS, hl]
      rcases i32_or x (rlist h).length (by omega) with ⟨j, hj, rfl⟩ | hx
      · exact absurd rfl (hno j hj)
      · rcases hx with hx | hx
        · rw [if_pos hx]
          rfl
        · rw [if_neg (show ¬ x < 0 from ge_nneg (by omega) hx), if_neg (show ¬ x < nI (rlist h).length by rw [Int32.lt_iff_toInt_lt]; rw [Int32.le_iff_toInt_le] at hx; omega)]
          rfl
theorem R_there (hr : RLn vN vR tc vH vU mn mp mf plc ut uc un uw fc kd sz d1 d2 wd srt nxt vD now past ims vB rn vM tm rr st und kp)  (x : Int32) (y : Int32) : ∃ r vN' vM' , fX8_there vN vH vB rn x y = some (r, vN') ∧ fX9_there vM rr x y = some (r, vM') ∧ RLn vN' vR tc vH vU mn mp mf plc ut uc un uw fc kd sz d1 d2 wd srt nxt vD now past ims vB rn vM' tm rr st und kp := by
  rcases id hr.2.2 with hn | ⟨h, c, hs⟩
  · skip
    refine ⟨-1, upd vN 6 1, upd (upd (upd vM 0 0) 11 0) 11 1,  ?_, ?_, RL_q hr (tr := nI 1) (by decide) (MA_no vM 1)⟩
    · unfold fX8_there
      rw [c_stands_f (hn.2.2.2.1 2 (by omega)), bdS, if_pos z0]
      all_goals first | rfl | (simp only; rw [if_neg nz2]; rfl) | (simp only; rw [if_neg nz1]; rfl)
    · unfold fX9_there
      rw [m_gd, bdS, if_pos (show upd (upd vM 0 0) 11 0 14 = 0 from hn.1)]
      all_goals first | rfl | (simp only; rw [if_neg nz2]; rfl) | (simp only; rw [if_neg nz1]; rfl)
  · have n14 : ¬ upd (upd vM 0 0) 11 0 14 = 0 := by rw [m141 hs]; decide
    have J36 : fX8_there_J36 vN = some (-1, upd vN 6 2) := rfl
    rcases i_or x 99 (by omega) with ⟨k, hk, rfl⟩ | hx
    · have c1 : ¬ nI k < 0 := nI_pos (by omega)
      have c2 : ¬ (100 : Int32) ≤ nI k := (show ¬ nI 100 ≤ nI k by rw [nI_leI (by omega) (by omega)]; omega)
      rcases i_or y 11 (by omega) with ⟨m, hm, rfl⟩ | hy
      · obtain ⟨vM', e2, hma⟩ := M_there (PI_WFh hs.1 hs.2.1) hs.1.2.2.2.2.2.2.1 hs.2.2.2.2.2.2.1 hs.2.2.2.2.2.2.2.2.2.1 (x := k) (y := m) (by omega) (by omega)
        exact ⟨_, _, vM', C_there (vN := vN) hs.1.1.2.2.2.1 hs.2.2.1 hs.2.2.2.1.1.2.2.1 hs.2.2.2.2.2.2.2.2.1 (by omega) (by omega), e2, RL_q hr (by decide) hma⟩
      · refine ⟨-1, upd vN 6 2, upd (upd (upd vM 0 0) 11 0) 11 2, ?_, ?_, RL_q hr (tr := nI 2) (by decide) (MA_no vM 2)⟩
        · unfold fX8_there
          rw [cS1 hs, bdS, if_neg nz1, if_neg c1, if_neg c2, J36]
          rcases hy with hy | hy
          · rw [if_pos hy]
          · rw [if_neg (show ¬ y < 0 from ge_nneg (by omega) hy), if_neg (show ¬ y < (12 : Int32) from (show ¬ y < nI 12 by have hy : nI 12 ≤ y := hy; rw [Int32.lt_iff_toInt_lt]; rw [Int32.le_iff_toInt_le] at hy; omega))]
        · unfold fX9_there
          rw [m_gd, bdS, if_neg n14, show fX9_in (nI k) 0 99 = some (nI 1) from m_inn_t (n := 99) (by omega) hk, bdS, if_neg nz1, show fX9_in y 0 11 = some (nI 0) from m_inn_f (n := 11) (by omega) hy, bdS, if_pos z0]
          rfl
    · refine ⟨-1, upd vN 6 2, upd (upd (upd vM 0 0) 11 0) 11 2, ?_, ?_, RL_q hr (tr := nI 2) (by decide) (MA_no vM 2)⟩
      · unfold fX8_there
        rw [cS1 hs, bdS, if_neg nz1, J36]
        rcases hx with hx | hx
        · rw [if_pos hx]
        · rw [if_neg (show ¬ x < 0 from ge_nneg (by omega) hx), if_pos (show (100 : Int32) ≤ x from hx)]
      · unfold fX9_there
        rw [m_gd, bdS, if_neg n14, show fX9_in x 0 99 = some (nI 0) from m_inn_f (n := 99) (by omega) hx, bdS, if_pos z0]
        rfl
theorem R_surely (hr : RLn vN vR tc vH vU mn mp mf plc ut uc un uw fc kd sz d1 d2 wd srt nxt vD now past ims vB rn vM tm rr st und kp)  (x : Int32) : ∃ r vN' vM' , fX8_surely vN vH vB rn x = some (r, vN') ∧ fX9_surely vM rr x = some (r, vM') ∧ RLn vN' vR tc vH vU mn mp mf plc ut uc un uw fc kd sz d1 d2 wd srt nxt vD now past ims vB rn vM' tm rr st und kp := by
  rcases id hr.2.2 with hn | ⟨h, c, hs⟩
  · skip
    refine ⟨-1, upd vN 6 1, upd (upd (upd vM 0 0) 11 0) 11 1,  ?_, ?_, RL_q hr (tr := nI 1) (by decide) (MA_no vM 1)⟩
    · unfold fX8_surely
      rw [c_stands_f (hn.2.2.2.1 2 (by omega)), bdS, if_pos z0]
      all_goals first | rfl | (simp only; rw [if_neg nz2]; rfl) | (simp only; rw [if_neg nz1]; rfl)
    · unfold fX9_surely
      rw [m_gd, bdS, if_pos (show upd (upd vM 0 0) 11 0 14 = 0 from hn.1)]
      all_goals first | rfl | (simp only; rw [if_neg nz2]; rfl) | (simp only; rw [if_neg nz1]; rfl)
  · have n14 : ¬ upd (upd vM 0 0) 11 0 14 = 0 := by rw [m141 hs]; decide
    rcases i_or x 99 (by omega) with ⟨k, hk, rfl⟩ | hx
    · obtain ⟨vM', e2, hma⟩ := M_surely (PI_WFh hs.1 hs.2.1) hs.1.2.2.2.2.2.2.1 hs.2.2.2.2.2.2.1 hs.2.2.2.2.2.2.2.2.2.1 (x := k) (by omega)
      exact ⟨_, _, vM', C_surely (vN := vN) hs.1.1.2.2.2.1 hs.2.2.1 hs.2.2.2.1.1.2.2.1 hs.2.2.2.2.2.2.2.2.1 (by omega), e2, RL_q hr (by decide) hma⟩
    · refine ⟨-1, upd vN 6 2, upd (upd (upd vM 0 0) 11 0) 11 2, ?_, ?_, RL_q hr (tr := nI 2) (by decide) (MA_no vM 2)⟩
      · unfold fX8_surely
        rw [cS1 hs, bdS, if_neg nz1]
        rcases hx with hx | hx
        · rw [if_pos hx]
          rfl
        · rw [if_neg (show ¬ x < 0 from ge_nneg (by omega) hx), if_neg (show ¬ x < (100 : Int32) from (show ¬ x < nI 100 by have hx : nI 100 ≤ x := hx; rw [Int32.lt_iff_toInt_lt]; rw [Int32.le_iff_toInt_le] at hx; omega))]
          rfl
      · unfold fX9_surely
        rw [m_gd, bdS, if_neg n14, show fX9_in x 0 99 = some (nI 0) from m_inn_f (n := 99) (by omega) hx, bdS, if_pos z0]
        rfl
theorem R_damp (hr : RLn vN vR tc vH vU mn mp mf plc ut uc un uw fc kd sz d1 d2 wd srt nxt vD now past ims vB rn vM tm rr st und kp) (aH : Nat) (aW : Nat) (vW : Nat → Int32) (who : Nat → Int32) (cl : Nat → Int32) (fro : Nat → Int32) (trial : Nat → Int32) (x : Int32) (y : Int32) (z : Int32) : ∃ r vN' vM' vW' who' cl' fro' a' trial', fX8_damp aH aW vN vH vW vD now who kd cl srt nxt fro sz wd x y z = some (r, vN', vW', who', cl', fro', a') ∧ fX9_damp vM rr st trial x y z = some (r, vM', trial') ∧ RLn vN' vR tc vH vU mn mp mf plc ut uc un uw fc kd sz d1 d2 wd srt nxt vD now past ims vB rn vM' tm rr st und kp := by
  rcases aT hr x with ⟨h, c, hs, t, ht, rfl⟩ | ⟨q1, q2⟩
  · rcases damp_or y z with ⟨s, k, h1, h2, rfl, rfl⟩ | ⟨q1, q2⟩
    · obtain ⟨vW', who', cl', fro', e1⟩ := C_damp (vN := vN) (vW := vW) (vD := vD) (who := who) (cl := cl) (fro := fro) (aH := aH) (aW := aW) (RS_CX hs) hs.2.2.2.1.1.2.1 ht h1 h2
      obtain ⟨vM', tr', e2, hma⟩ := M_damp (trial := trial) (RS_MX hs) ht h1 h2
      exact ⟨_, _, vM', vW', who', cl', fro', _, tr', e1, e2, RL_q hr (by decide) hma⟩
    · skip
      refine ⟨-1, upd vN 6 2, upd (upd (upd vM 0 0) 11 0) 11 2, vW, who, cl, fro, aW, trial,  ?_, ?_, RL_q hr (tr := nI 2) (by decide) (MA_no vM 2)⟩
      · unfold fX8_damp
        rw [cT1 hs ht, bdS, if_neg nz1, q1, bdS, if_pos z0]
        all_goals first | rfl | (simp only; rw [if_neg nz2]; rfl) | (simp only; rw [if_neg nz1]; rfl)
      · unfold fX9_damp
        rw [m_gd, bdS, mT1 hs ht, bdS, q2, bdS]
        all_goals first | rfl | (simp only; rw [if_neg nz2]; rfl) | (simp only; rw [if_neg nz1]; rfl)
  · skip
    refine ⟨-1, upd vN 6 1, upd (upd (upd vM 0 0) 11 0) 11 1, vW, who, cl, fro, aW, trial,  ?_, ?_, RL_q hr (tr := nI 1) (by decide) (MA_no vM 1)⟩
    · unfold fX8_damp
      rw [q1, bdS, if_pos z0]
      all_goals first | rfl | (simp only; rw [if_neg nz2]; rfl) | (simp only; rw [if_neg nz1]; rfl)
    · unfold fX9_damp
      rw [m_gd, bdS, q2, bdS, damp_1, bdS]
      all_goals first | rfl | (simp only; rw [if_neg nz2]; rfl) | (simp only; rw [if_neg nz1]; rfl)
theorem R_dampSteps (hr : RLn vN vR tc vH vU mn mp mf plc ut uc un uw fc kd sz d1 d2 wd srt nxt vD now past ims vB rn vM tm rr st und kp) (aH : Nat) (aW : Nat) (vW : Nat → Int32) (who : Nat → Int32) (cl : Nat → Int32) (fro : Nat → Int32) (trial : Nat → Int32) (y : Int32) (z : Int32) : ∃ r vN' vM' vW' who' cl' fro' a' trial', fX8_dampSteps aH aW vN vH vW vD now who kd cl srt nxt fro sz wd y z = some (r, vN', vW', who', cl', fro', a') ∧ fX9_dampSteps vM st trial rr y z = some (r, vM', trial') ∧ RLn vN' vR tc vH vU mn mp mf plc ut uc un uw fc kd sz d1 d2 wd srt nxt vD now past ims vB rn vM' tm rr st und kp := by
  rcases id hr.2.2 with hn | ⟨h, c, hs⟩
  · skip
    refine ⟨-1, upd vN 6 1, upd (upd (upd vM 0 0) 11 0) 11 1, vW, who, cl, fro, aW, trial,  ?_, ?_, RL_q hr (tr := nI 1) (by decide) (MA_no vM 1)⟩
    · unfold fX8_dampSteps
      rw [c_stands_f (hn.2.2.2.1 2 (by omega)), bdS, if_pos z0]
      all_goals first | rfl | (simp only; rw [if_neg nz2]; rfl) | (simp only; rw [if_neg nz1]; rfl)
    · unfold fX9_dampSteps
      rw [m_gd, bdS, show upd (upd vM 0 0) 11 0 14 = nI 0 from hn.1, damp_1, bdS]
      all_goals first | rfl | (simp only; rw [if_neg nz2]; rfl) | (simp only; rw [if_neg nz1]; rfl)
  · rcases damp_or y z with ⟨s, k, h1, h2, rfl, rfl⟩ | ⟨q1, q2⟩
    · obtain ⟨vW', who', cl', fro', e1⟩ := C_dampSteps (vN := vN) (vW := vW) (vD := vD) (who := who) (cl := cl) (fro := fro) (aH := aH) (aW := aW) (RS_CX hs) hs.2.2.2.1.1.2.1 h1 h2
      obtain ⟨vM', tr', e2, hma⟩ := M_dampSteps (trial := trial) (RS_MX hs) h1 h2
      exact ⟨_, _, vM', vW', who', cl', fro', _, tr', e1, e2, RL_q hr (by decide) hma⟩
    · skip
      refine ⟨-1, upd vN 6 2, upd (upd (upd vM 0 0) 11 0) 11 2, vW, who, cl, fro, aW, trial,  ?_, ?_, RL_q hr (tr := nI 2) (by decide) (MA_no vM 2)⟩
      · unfold fX8_dampSteps
        rw [cS1 hs, bdS, if_neg nz1, q1, bdS, if_pos z0]
        all_goals first | rfl | (simp only; rw [if_neg nz2]; rfl) | (simp only; rw [if_neg nz1]; rfl)
      · unfold fX9_dampSteps
        rw [m_gd, bdS, m141 hs, q2, bdS]
        all_goals first | rfl | (simp only; rw [if_neg nz2]; rfl) | (simp only; rw [if_neg nz1]; rfl)
theorem R_dampWhen (hr : RLn vN vR tc vH vU mn mp mf plc ut uc un uw fc kd sz d1 d2 wd srt nxt vD now past ims vB rn vM tm rr st und kp) (aH : Nat) (aW : Nat) (vW : Nat → Int32) (who : Nat → Int32) (cl : Nat → Int32) (fro : Nat → Int32) (trial : Nat → Int32) (x : Int32) (p : Int32) (y : Int32) (z : Int32) : ∃ r vN' vM' vW' who' cl' fro' a' trial', fX8_dampWhen aH aW vN vH vD now plc vW who kd cl srt nxt fro sz wd x p y z = some (r, vN', vW', who', cl', fro', a') ∧ fX9_dampWhen vM rr st trial x p y z = some (r, vM', trial') ∧ RLn vN' vR tc vH vU mn mp mf plc ut uc un uw fc kd sz d1 d2 wd srt nxt vD now past ims vB rn vM' tm rr st und kp := by
  rcases aT hr x with ⟨h, c, hs, t, ht, rfl⟩ | ⟨q1, q2⟩
  · obtain ⟨k1, k2, k3, k4, k5⟩ := cell_t hs ht
    rcases aP1 hs k5 p with ⟨p, hp, rfl⟩ | ⟨q1, q2⟩
    · rcases damp_or y z with ⟨s, k, h1, h2, rfl, rfl⟩ | ⟨q1, q2⟩
      · obtain ⟨vW', who', cl', fro', e1⟩ := C_dampWhen (vN := vN) (vW := vW) (vD := vD) (who := who) (cl := cl) (fro := fro) (aH := aH) (aW := aW) (RS_CX hs) hs.2.2.2.1.1.2.1 ht hp h1 h2
        obtain ⟨vM', tr', e2, hma⟩ := M_dampWhen (trial := trial) (RS_MX hs) ht hp h1 h2
        exact ⟨_, _, vM', vW', who', cl', fro', _, tr', e1, e2, RL_q hr (by decide) hma⟩
      · skip
        refine ⟨-1, upd vN 6 2, upd (upd (upd vM 0 0) 11 0) 11 2, vW, who, cl, fro, aW, trial,  ?_, ?_, RL_q hr (tr := nI 2) (by decide) (MA_no vM 2)⟩
        · unfold fX8_dampWhen
          rw [cT1 hs ht, bdS, if_neg nz1, k1, bdS, k2, bdS, cP1 hs k5 hp, bdS, if_neg nz1, q1, bdS, if_pos z0]
          all_goals first | rfl | (simp only; rw [if_neg nz2]; rfl) | (simp only; rw [if_neg nz1]; rfl)
        · unfold fX9_dampWhen
          rw [m_gd, bdS, mT1 hs ht, bdS, if_neg nz1, k3, gdT, k4, mP1 hs k5 hp, bdS, if_neg nz1, gdT, show (1 : Int32) = nI 1 from rfl, q2, bdS]
          all_goals first | rfl | (simp only; rw [if_neg nz2]; rfl) | (simp only; rw [if_neg nz1]; rfl)
    · skip
      refine ⟨-1, upd vN 6 1, upd (upd (upd vM 0 0) 11 0) 11 1, vW, who, cl, fro, aW, trial,  ?_, ?_, RL_q hr (tr := nI 1) (by decide) (MA_no vM 1)⟩
      · unfold fX8_dampWhen
        rw [cT1 hs ht, bdS, if_neg nz1, k1, bdS, k2, bdS, q1, bdS, if_pos z0]
        all_goals first | rfl | (simp only; rw [if_neg nz2]; rfl) | (simp only; rw [if_neg nz1]; rfl)
      · unfold fX9_dampWhen
        rw [m_gd, bdS, mT1 hs ht, bdS, if_neg nz1, k3, gdT, k4, q2, bdS, if_pos z0]
        all_goals first | rfl | (simp only; rw [if_neg nz2]; rfl) | (simp only; rw [if_neg nz1]; rfl)
  · skip
    refine ⟨-1, upd vN 6 1, upd (upd (upd vM 0 0) 11 0) 11 1, vW, who, cl, fro, aW, trial,  ?_, ?_, RL_q hr (tr := nI 1) (by decide) (MA_no vM 1)⟩
    · unfold fX8_dampWhen
      rw [q1, bdS, if_pos z0]
      all_goals first | rfl | (simp only; rw [if_neg nz2]; rfl) | (simp only; rw [if_neg nz1]; rfl)
    · unfold fX9_dampWhen
      rw [m_gd, bdS, q2, bdS, if_pos z0]
      all_goals first | rfl | (simp only; rw [if_neg nz2]; rfl) | (simp only; rw [if_neg nz1]; rfl)
theorem R_rests (hr : RLn vN vR tc vH vU mn mp mf plc ut uc un uw fc kd sz d1 d2 wd srt nxt vD now past ims vB rn vM tm rr st und kp)  (x : Int32) : ∃ r vN' vM' , fX8_rests vN vH x = some (r, vN') ∧ fX9_rests vM x = some (r, vM') ∧ RLn vN' vR tc vH vU mn mp mf plc ut uc un uw fc kd sz d1 d2 wd srt nxt vD now past ims vB rn vM' tm rr st und kp := by
  rcases id hr.2.2 with hn | ⟨h, c, hs⟩
  · skip
    refine ⟨-1, upd vN 6 1, upd (upd (upd vM 0 0) 11 0) 11 1,  ?_, ?_, RL_q hr (tr := nI 1) (by decide) (MA_no vM 1)⟩
    · unfold fX8_rests
      rw [whyH_n (hn.2.2.2.1 2 (by omega)), bdS, if_neg nz1]
      all_goals first | rfl | (simp only; rw [if_neg nz2]; rfl) | (simp only; rw [if_neg nz1]; rfl)
    · unfold fX9_rests
      rw [m_gd, bdS, show upd (upd vM 0 0) 11 0 14 = nI 0 from hn.1, why_1, bdS, if_neg nz1]
      all_goals first | rfl | (simp only; rw [if_neg nz2]; rfl) | (simp only; rw [if_neg nz1]; rfl)
  · rcases i_or x 99 (by omega) with ⟨k, hk, rfl⟩ | hx
    · obtain ⟨v, e, h26, ho⟩ := m_seekRests (vM := upd (upd vM 0 0) 11 0) (nI k)
      refine ⟨nI (restsA (nI k)), upd vN 6 0, v, ?_, ?_, RL_q hr (tr := nI 0) (by decide) ⟨by rw [ho 11 (by omega)]; rfl, fun j h1 h2 h3 => by rw [ho j (by omega)]; exact (MA_0 vM).2 j h1 h2 h3⟩⟩
      · unfold fX8_rests
        rw [whyH_t (cS1 hs) hk, bdS, if_pos z0]
        exact c_restsLoop (nI k)
      · unfold fX9_rests
        rw [m_gd, bdS, m141 hs, show fX9_why (nI 1) (nI k) 99 = some (nI 0) from m_why_0 (n := 99) (by omega) rfl hk, bdS, if_pos z0, e, bdS]
        rfl
    · skip
      refine ⟨-1, upd vN 6 2, upd (upd (upd vM 0 0) 11 0) 11 2,  ?_, ?_, RL_q hr (tr := nI 2) (by decide) (MA_no vM 2)⟩
      · unfold fX8_rests
        rw [whyH_f (cS1 hs) hx, bdS, if_neg nz2]
        all_goals first | rfl | (simp only; rw [if_neg nz2]; rfl) | (simp only; rw [if_neg nz1]; rfl)
      · unfold fX9_rests
        rw [m_gd, bdS, m141 hs, why_2 (L := 99) (N := 99) rfl (by omega) hx, bdS, if_neg nz2]
        all_goals first | rfl | (simp only; rw [if_neg nz2]; rfl) | (simp only; rw [if_neg nz1]; rfl)
theorem R_rest (hr : RLn vN vR tc vH vU mn mp mf plc ut uc un uw fc kd sz d1 d2 wd srt nxt vD now past ims vB rn vM tm rr st und kp)  (x : Int32) : ∃ r vN' vM' , fX8_rest vN vH x = some (r, vN') ∧ fX9_rest vM x = some (r, vM') ∧ RLn vN' vR tc vH vU mn mp mf plc ut uc un uw fc kd sz d1 d2 wd srt nxt vD now past ims vB rn vM' tm rr st und kp := by
  rcases id hr.2.2 with hn | ⟨h, c, hs⟩
  · skip
    refine ⟨-1, upd vN 6 1, upd (upd (upd vM 0 0) 11 0) 11 1,  ?_, ?_, RL_q hr (tr := nI 1) (by decide) (MA_no vM 1)⟩
    · unfold fX8_rest
      rw [whyH_n (hn.2.2.2.1 2 (by omega)), bdS, if_neg nz1]
      all_goals first | rfl | (simp only; rw [if_neg nz2]; rfl) | (simp only; rw [if_neg nz1]; rfl)
    · unfold fX9_rest
      rw [m_gd, bdS, show upd (upd vM 0 0) 11 0 14 = nI 0 from hn.1, why_1, bdS, if_neg nz1]
      all_goals first | rfl | (simp only; rw [if_neg nz2]; rfl) | (simp only; rw [if_neg nz1]; rfl)
  · rcases i_or x 99 (by omega) with ⟨k, hk, rfl⟩ | hx
    · obtain ⟨v, e, h26, ho⟩ := m_seekRests (vM := upd (upd vM 0 0) 11 0) (nI k)
      refine ⟨restA (nI k), upd vN 6 0, v, ?_, ?_, RL_q hr (tr := nI 0) (by decide) ⟨by rw [ho 11 (by omega)]; rfl, fun j h1 h2 h3 => by rw [ho j (by omega)]; exact (MA_0 vM).2 j h1 h2 h3⟩⟩
      · unfold fX8_rest
        rw [whyH_t (cS1 hs) hk, bdS, if_pos z0]
        exact c_restLoop (nI k)
      · unfold fX9_rest
        rw [m_gd, bdS, m141 hs, show fX9_why (nI 1) (nI k) 99 = some (nI 0) from m_why_0 (n := 99) (by omega) rfl hk, bdS, if_pos z0, e, bdS]
        simp only
        rw [h26]
    · skip
      refine ⟨-1, upd vN 6 2, upd (upd (upd vM 0 0) 11 0) 11 2,  ?_, ?_, RL_q hr (tr := nI 2) (by decide) (MA_no vM 2)⟩
      · unfold fX8_rest
        rw [whyH_f (cS1 hs) hx, bdS, if_neg nz2]
        all_goals first | rfl | (simp only; rw [if_neg nz2]; rfl) | (simp only; rw [if_neg nz1]; rfl)
      · unfold fX9_rest
        rw [m_gd, bdS, m141 hs, why_2 (L := 99) (N := 99) rfl (by omega) hx, bdS, if_neg nz2]
        all_goals first | rfl | (simp only; rw [if_neg nz2]; rfl) | (simp only; rw [if_neg nz1]; rfl)
theorem R_heir (hr : RLn vN vR tc vH vU mn mp mf plc ut uc un uw fc kd sz d1 d2 wd srt nxt vD now past ims vB rn vM tm rr st und kp)  (x : Int32) (y : Int32) (z : Int32) (b : Int32) : ∃ r vN' vM' , fX8_heir vN vH x y z b = some (r, vN') ∧ fX9_heir vM x y z b = some (r, vM') ∧ RLn vN' vR tc vH vU mn mp mf plc ut uc un uw fc kd sz d1 d2 wd srt nxt vD now past ims vB rn vM' tm rr st und kp := by
  -- the bids
  have hbid : (∃ i j, i ≤ 6 ∧ j ≤ 6 ∧ y = nI i ∧ z = nI j) ∨ (fX8_heir vN vH x y z b = fX8_heir_J24 vN vH x y z b ∧ (fX9_in y 0 6 = some (nI 0) ∨ (fX9_in y 0 6 = some (nI 1) ∧ fX9_in z 0 6 = some (nI 0)))) := by
    rcases i_or y 6 (by omega) with ⟨i, hi, rfl⟩ | hy
    · have c1 : ¬ nI i < 0 := nI_pos (by omega)
      have c2 : ¬ (6 : Int32) < nI i := (show ¬ nI 6 < nI i by rw [nI_ltI (by omega) (by omega)]; omega)
      rcases i_or z 6 (by omega) with ⟨j, hj, rfl⟩ | hz
      · exact Or.inl ⟨i, j, hi, hj, rfl, rfl⟩
      · refine Or.inr ⟨?_, Or.inr ⟨m_inn_t (n := 6) (by omega) hi, m_inn_f (n := 6) (by omega) hz⟩⟩
        unfold fX8_heir
        rw [if_neg c1, if_neg c2]
        rcases hz with hz | hz
        · rw [if_pos hz]
        · rw [if_neg (show ¬ z < 0 from ge_nneg (by omega) hz), if_pos (show (6 : Int32) < z from ge_lt (n := 6) (by omega) hz)]
    · refine Or.inr ⟨?_, Or.inl (m_inn_f (n := 6) (by omega) hy)⟩
      unfold fX8_heir
      rcases hy with hy | hy
      · rw [if_pos hy]
      · rw [if_neg (show ¬ y < 0 from ge_nneg (by omega) hy), if_pos (show (6 : Int32) < y from ge_lt (n := 6) (by omega) hy)]
  have J25 : ∀ (t r : Int32), fX8_whyNoHeirs vN vH x = some r → ¬ r = 0 → fX8_heir_J25 vN vH x y z b t = some (-100, upd vN 6 r) := by
    intro t r e hr0
    unfold fX8_heir_J25 fX8_heir_J47
    rw [e, bdS, if_neg hr0, if_neg hr0]
  have h8 : ∀ r : Int32, fX8_whyNoHeirs vN vH x = some r → ¬ r = 0 → fX8_heir vN vH x y z b = some (-100, upd vN 6 r) := by
    intro r e hr0
    rcases hbid with ⟨i, j, hi, hj, rfl, rfl⟩ | ⟨q, -⟩
    · have c1 : ¬ nI i < 0 := nI_pos (by omega)
      have c2 : ¬ (6 : Int32) < nI i := (show ¬ nI 6 < nI i by rw [nI_ltI (by omega) (by omega)]; omega)
      have c3 : ¬ nI j < 0 := nI_pos (by omega)
      have c4 : ¬ (6 : Int32) < nI j := (show ¬ nI 6 < nI j by rw [nI_ltI (by omega) (by omega)]; omega)
      unfold fX8_heir
      rw [if_neg c1, if_neg c2, if_neg c3, if_neg c4]
      exact J25 1 r e hr0
    · rw [q]
      exact J25 0 r e hr0
  have J45 : ∀ (r : Int32) (v : Nat → Int32), ¬ r = 0 → fX9_heir_J45 x y z b r v = some (-100, upd v 11 r) := by
    intro r v hr0
    unfold fX9_heir_J45
    rw [if_neg hr0]
  rcases id hr.2.2 with hn | ⟨h, c, hs⟩
  · refine ⟨-100, upd vN 6 1, upd (upd (upd vM 0 0) 11 0) 11 1, h8 1 (whyH_n (hn.2.2.2.1 2 (by omega)) x) nz1, ?_, RL_q hr (tr := nI 1) (by decide) (MA_no vM 1)⟩
    unfold fX9_heir
    rw [m_gd, bdS, show upd (upd vM 0 0) 11 0 14 = nI 0 from hn.1, why_1, bdS, if_neg nz1]
    exact J45 1 _ nz1
  · rcases i_or x 99 (by omega) with ⟨k, hk, rfl⟩ | hx
    · rcases hbid with ⟨i, j, hi, hj, rfl, rfl⟩ | ⟨q1, q2⟩
      · have c1 : ¬ nI i < 0 := nI_pos (by omega)
        have c2 : ¬ (6 : Int32) < nI i := (show ¬ nI 6 < nI i by rw [nI_ltI (by omega) (by omega)]; omega)
        have c3 : ¬ nI j < 0 := nI_pos (by omega)
        have c4 : ¬ (6 : Int32) < nI j := (show ¬ nI 6 < nI j by rw [nI_ltI (by omega) (by omega)]; omega)
        refine ⟨if b = 0 then gn (nI k) (nI i) (nI j) else gn (nI k) (nI j) (nI i), upd vN 6 0, upd (upd vM 0 0) 11 0, ?_, ?_, RL_q hr (tr := nI 0) (by decide) (MA_0 vM)⟩
        · unfold fX8_heir fX8_heir_J25 fX8_heir_J47
          rw [if_neg c1, if_neg c2, if_neg c3, if_neg c4, whyH_t (cS1 hs) hk, bdS, if_pos z0, if_neg (show ¬ (1 : Int32) = 0 by decide), if_pos z0, c_gain, c_gain, bdS, bdS]
          by_cases q : b = 0
          · rw [if_pos q, if_pos q]
            rfl
          · rw [if_neg q, if_neg q]
            rfl
        · unfold fX9_heir fX9_heir_J45
          rw [m_gd, bdS, m141 hs, show fX9_why (nI 1) (nI k) 99 = some (nI 0) from m_why_0 (n := 99) (by omega) rfl hk, bdS, if_pos z0, show fX9_in (nI i) 0 6 = some (nI 1) from m_inn_t (n := 6) (by omega) hi, bdS, if_neg nz1, show fX9_in (nI j) 0 6 = some (nI 1) from m_inn_t (n := 6) (by omega) hj, bdS, if_neg nz1, if_pos z0, m_heirOf, m_heirOf, bdS, bdS]
          by_cases q : b = 0
          · rw [if_pos q, if_pos q]
            rfl
          · rw [if_neg q, if_neg q]
            rfl
      · refine ⟨-100, upd vN 6 2, upd (upd (upd vM 0 0) 11 0) 11 2, ?_, ?_, RL_q hr (tr := nI 2) (by decide) (MA_no vM 2)⟩
        · rw [q1]
          unfold fX8_heir_J24 fX8_heir_J25
          rw [whyH_t (cS1 hs) hk, bdS, if_pos z0, if_pos (show (0 : Int32) = 0 from rfl)]
          unfold fX8_heir_J47
          rw [if_neg (show ¬ (2 : Int32) = 0 by decide)]
        · unfold fX9_heir
          rw [m_gd, bdS, m141 hs, show fX9_why (nI 1) (nI k) 99 = some (nI 0) from m_why_0 (n := 99) (by omega) rfl hk, bdS, if_pos z0]
          rcases q2 with q2 | ⟨q2, q3⟩
          · rw [q2, bdS, if_pos z0]
            exact J45 2 _ nz2
          · rw [q2, bdS, if_neg nz1, q3, bdS, if_pos z0]
            exact J45 2 _ nz2
    · refine ⟨-100, upd vN 6 2, upd (upd (upd vM 0 0) 11 0) 11 2, h8 2 (whyH_f (cS1 hs) hx) nz2, ?_, RL_q hr (tr := nI 2) (by decide) (MA_no vM 2)⟩
      unfold fX9_heir
      rw [m_gd, bdS, m141 hs, why_2 (L := 99) (N := 99) rfl (by omega) hx, bdS, if_neg nz2]
      exact J45 2 _ nz2
end RQ2
