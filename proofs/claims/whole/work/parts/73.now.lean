/-! MATH 53: what is so now, on both sides (written by gen/g73.py) -/
section RQ3
variable {vN vR tc vH vU mn mp mf plc ut uc un uw fc kd sz d1 d2 wd srt nxt vD now vB rn vM tm rr st und kp : Nat → Int32} {past ims : Nat → Nat → Int32} {h c : Nat → Nat}
theorem aR (hr : RLn vN vR tc vH vU mn mp mf plc ut uc un uw fc kd sz d1 d2 wd srt nxt vD now past ims vB rn vM tm rr st und kp) (x : Int32) : (∃ h c, RSt h c vH vU mn mp mf plc ut uc un uw fc kd sz d1 d2 wd srt nxt vD now past ims vB rn vM rr st und kp ∧ ∃ g, g < h 2 ∧ x = nI g) ∨ (fX4_hasRing vH x = some (nI 0) ∧ fX9_isRing (upd (upd vM 0 0) 11 0) rr x = some (nI 0)) := by
  rcases hr.2.2 with hn | ⟨h, c, hs⟩
  · exact Or.inr ⟨hasRing_n (hn.2.2.2.1 2 (by omega)) x, m_isRing_n (show upd (upd vM 0 0) 11 0 14 = nI 0 from hn.1) x⟩
  · rcases i32_or x (h 2) (by have := hs.1.1.2.2.2.1; omega) with ⟨g, hg, rfl⟩ | hx
    · exact Or.inl ⟨h, c, hs, g, hg, rfl⟩
    · exact Or.inr ⟨c_hasRing_f hs.1.1.2.2.2.1 hs.2.2.2.1.1.2.2.1 hx, m_isRing_f (RS_wf hs) hs.2.2.2.2.2.2.1 (m141 hs) hx⟩
theorem c_thingsIn (hs : RSt h c vH vU mn mp mf plc ut uc un uw fc kd sz d1 d2 wd srt nxt vD now past ims vB rn vM rr st und kp) {g : Nat} (hg : g < h 2) : fX1_thingsIn vD now (nI g) (vH 5) = some (nI (bm (fun t => c t / 9 == g) (h 3))) := by
  have h3 := hs.1.1.2.2.2.2.1
  have h2 := hs.1.1.2.2.2.1
  have v5 : vH 5 = nI (h 3) := hs.2.2.2.1.1.2.2.2.2.2.1
  unfold fX1_thingsIn
  rw [v5]
  refine lp_for (fun i => (nI (bm (fun t => c t / 9 == g) i), nI i)) (h 3) ?_ ?_ (by omega) rfl
  · intro i hi
    have hok := hs.2.2.2.2.1.1.1 i hi
    have hlt := okc_lt (RS_wf hs) hok
    have hn : now i = nI (c i) := hs.2.2.2.2.2.1.1 i hi
    simp (disch := omega) only [fX1_thingsIn_B5, fX1_thingsIn_J39, nlq, nI_leI, ok_nI, gdT, nI_clamp, hn, c_ring, bdS, nI_eq, isl_1, nI_or, nI_add, bm]
    rw [if_neg (by omega), if_neg (by omega)]
    by_cases q : c i / 9 = g
    · rw [if_pos q, if_pos (show (c i / 9 == g) = true by simpa using q)]
    · rw [if_neg q, if_neg (show ¬ (c i / 9 == g) = true by simpa using q), Nat.or_zero]
  · simp (disch := omega) only [fX1_thingsIn_B5, fX1_thingsIn_J45, nlq, nI_leI, exS]
    rw [if_pos (Nat.le_refl _)]
theorem m_ringLoop (hs : RSt h c vH vU mn mp mf plc ut uc un uw fc kd sz d1 d2 wd srt nxt vD now past ims vB rn vM rr st und kp) {g : Nat} (hg : g < h 2) {y : Int32} {v : Nat → Int32} {res : Int32 × (Nat → Int32)} (hres : (if y = 0 then (Option.bind (fX9_sortOf v rr (nI g)) fun r80 => (fX9_ring_J118 r80 v)) else (if y = (1 : Int32) then (Option.bind (fX9_placesOf v rr (nI g)) fun r93 => (fX9_ring_J118 r93 v)) else (if y = (2 : Int32) then (fX9_ring_J118 (nI (bm (fun t => c t / 9 == g) (h 3))) v) else (Option.bind (fX9_placesOf v rr (nI g)) fun r110 => (Option.bind (fX9_ones (nI (bm (fun t => c t / 9 == g) (h 3)))) fun r114 => (fX9_ring_J118 (r110 - r114) v)))))) = some res) : lp (fX9_ring_B32 rr st (nI g) y) 5000 (0, 0, v) = some res := by
  have h3 := hs.1.1.2.2.2.2.1
  have h2 := hs.1.1.2.2.2.1
  have r3 : rr 3 = nI (h 3) := hs.2.2.2.2.2.2.1 3 (by omega)
  refine lp_for (fun i => (nI (bm (fun t => c t / 9 == g) i), nI i, v)) (h 3) ?_ ?_ (by omega) rfl
  · intro i hi
    have hok := hs.2.2.2.2.1.1.1 i hi
    have hlt := okc_lt (RS_wf hs) hok
    have hn : st i = nI (c i) := hs.2.2.2.2.2.2.2.1 i (by omega)
    simp (disch := omega) only [fX9_ring_B32, fX9_ring_J66, nlq, nI_leI, ok_nI, gdT, nI_clamp, hn, pk_div, r3, nI_eq, isl_1, nI_or, nI_add, bm]
    rw [if_neg (by omega)]
    by_cases q : c i / 9 = g
    · rw [if_pos q, if_pos (show (c i / 9 == g) = true by simpa using q)]
    · rw [if_neg q, if_neg (show ¬ (c i / 9 == g) = true by simpa using q)]
  · unfold fX9_ring_B32
    simp only
    rw [show okI (3 : Int32) 224 = true from rfl, gdT, show rr (3 : Int32).toNatClampNeg = nI (h 3) from r3, if_pos (show nI (h 3) ≤ nI (h 3) by rw [nI_leI (by omega) (by omega)]; exact Nat.le_refl _), hres]
    rfl
theorem R_ring (hr : RLn vN vR tc vH vU mn mp mf plc ut uc un uw fc kd sz d1 d2 wd srt nxt vD now past ims vB rn vM tm rr st und kp) (x : Int32) (y : Int32) : ∃ r vN' vM', fX8_ring vN vH vD now srt plc x y = some (r, vN') ∧ fX9_ring vM rr st x y = some (r, vM') ∧ RLn vN' vR tc vH vU mn mp mf plc ut uc un uw fc kd sz d1 d2 wd srt nxt vD now past ims vB rn vM' tm rr st und kp := by
  rcases aR hr x with ⟨h, c, hs, g, hg, rfl⟩ | ⟨q1, q2⟩
  · have h2 := hs.1.1.2.2.2.1
    have h3 := hs.1.1.2.2.2.2.1
    have hR1 : fX4_hasRing vH (nI g) = some (nI 1) := c_hasRing_t h2 hs.2.2.2.1.1.2.2.1 hg
    have hM1 : fX9_isRing (upd (upd vM 0 0) 11 0) rr (nI g) = some (nI 1) := m_isRing_t (RS_wf hs) hs.2.2.2.2.2.2.1 (m141 hs) hg
    have cx := RS_CX hs
    have hso : fX4_sortOf vH srt (nI g) = some (nI (so h g)) := c_sortOf (RS_wf hs) cx.2.1 hg
    have hpl : fX4_placesOf vH plc (nI g) = some (nI (pl h g)) := by
      unfold fX4_placesOf fX4_placesOf_J18
      rw [hR1, bdS, if_neg nz1, ok_nI (by omega) (by omega), gdT, nI_clamp (by omega), (hs.2.2.2.1.2.2.1 g hg).2]
    have hr' := hs.2.2.2.2.2.2.1
    have mso : ∀ v, fX9_sortOf v rr (nI g) = some (nI (so h g)) := fun v => m_sortOf hr' (by omega)
    have mpl : ∀ v, fX9_placesOf v rr (nI g) = some (nI (pl h g)) := fun v => m_placesOf hr' (by omega)
    have b7 := bm_7 (fun t => c t / 9 == g) h3
    rcases i_or y 3 (by omega) with ⟨k, hk, rfl⟩ | hy
    · have c0 : ∀ res, (if nI k = 0 then (Option.bind (fX4_sortOf vH srt (nI g)) fun r74 => (Option.bind (fX8_answer vN r74) fun (r77, vN_77) => (some (r77, vN_77)))) else (if nI k = 1 then (Option.bind (fX4_placesOf vH plc (nI g)) fun r87 => (Option.bind (fX8_answer vN r87) fun (r90, vN_90) => (some (r90, vN_90)))) else (if nI k = 2 then (Option.bind (fX8_answer vN (nI (bm (fun t => c t / 9 == g) (h 3)))) fun (r96, vN_96) => (some (r96, vN_96))) else (Option.bind (fX4_placesOf vH plc (nI g)) fun r106 => (Option.bind (fJ6_bitCount_0f7a4 (nI (bm (fun t => c t / 9 == g) (h 3)))) fun r110 => (Option.bind (fX8_answer vN (r106 - r110)) fun (r114, vN_114) => (some (r114, vN_114)))))))) = some res → fX8_ring vN vH vD now srt plc (nI g) (nI k) = some res := by
        intro res hres
        unfold fX8_ring
        rw [hR1, bdS, if_neg nz1, rng_t (L := 3) (N := 3) rfl (by omega) hk _ _, c_thingsIn hs hg, bdS]
        exact hres
      have m0 : ∀ res, lp (fX9_ring_B32 rr st (nI g) (nI k)) 5000 (0, 0, upd (upd vM 0 0) 11 0) = some res → fX9_ring vM rr st (nI g) (nI k) = some res := by
        intro res hres
        unfold fX9_ring
        rw [m_gd, bdS, hM1, bdS, if_neg nz1, show fX9_in (nI k) 0 3 = some (nI 1) from m_inn_t (n := 3) (by omega) hk, bdS, if_neg nz1]
        exact hres
      rcases (show k = 0 ∨ k = 1 ∨ k = 2 ∨ k = 3 by omega) with rfl | rfl | rfl | rfl
      · refine ⟨nI (so h g), upd vN 6 0, upd (upd vM 0 0) 11 0, c0 _ ?_, m0 _ (m_ringLoop hs hg ?_), RL_q hr (tr := nI 0) (by decide) (MA_0 vM)⟩
        · rw [if_pos z0, hso]
          rfl
        · rw [if_pos z0, mso]
          rfl
      · refine ⟨nI (pl h g), upd vN 6 0, upd (upd vM 0 0) 11 0, c0 _ ?_, m0 _ (m_ringLoop hs hg ?_), RL_q hr (tr := nI 0) (by decide) (MA_0 vM)⟩
        · rw [if_neg nz1, if_pos (show nI 1 = 1 from rfl), hpl]
          rfl
        · rw [if_neg nz1, if_pos (show nI 1 = 1 from rfl), mpl]
          rfl
      · refine ⟨nI (bm (fun t => c t / 9 == g) (h 3)), upd vN 6 0, upd (upd vM 0 0) 11 0, c0 _ ?_, m0 _ (m_ringLoop hs hg ?_), RL_q hr (tr := nI 0) (by decide) (MA_0 vM)⟩
        · rw [if_neg nz2, if_neg (show ¬ nI 2 = 1 by decide), if_pos (show nI 2 = 2 from rfl)]
          rfl
        · rw [if_neg nz2, if_neg (show ¬ nI 2 = 1 by decide), if_pos (show nI 2 = 2 from rfl)]
          rfl
      · refine ⟨nI (pl h g) - nI (popc (bm (fun t => c t / 9 == g) (h 3))), upd vN 6 0, upd (upd vM 0 0) 11 0, c0 _ ?_, m0 _ (m_ringLoop hs hg ?_), RL_q hr (tr := nI 0) (by decide) (MA_0 vM)⟩
        · rw [if_neg (show ¬ nI 3 = 0 by decide), if_neg (show ¬ nI 3 = 1 by decide), if_neg (show ¬ nI 3 = 2 by decide), hpl, bdS, bc_nI _ b7, bdS]
          rfl
        · rw [if_neg (show ¬ nI 3 = 0 by decide), if_neg (show ¬ nI 3 = 1 by decide), if_neg (show ¬ nI 3 = 2 by decide), mpl, bdS, m_ones (by omega), bdS]
          rfl
    · skip
      refine ⟨-1, upd vN 6 1, upd (upd (upd vM 0 0) 11 0) 11 1, ?_, ?_, RL_q hr (tr := nI 1) (by decide) (MA_no vM 1)⟩
      · unfold fX8_ring
        rw [hR1, bdS, if_neg nz1, rng_f (L := 3) (N := 3) rfl (by omega) hy _ _]
        all_goals rfl
      · unfold fX9_ring
        rw [m_gd, bdS, hM1, bdS, if_neg nz1, show fX9_in y 0 3 = some (nI 0) from m_inn_f (n := 3) (by omega) hy, bdS, if_pos z0]
        all_goals rfl
  · skip
    refine ⟨-1, upd vN 6 1, upd (upd (upd vM 0 0) 11 0) 11 1, ?_, ?_, RL_q hr (tr := nI 1) (by decide) (MA_no vM 1)⟩
    · unfold fX8_ring
      rw [q1, bdS, if_pos z0]
      all_goals rfl
    · unfold fX9_ring
      rw [m_gd, bdS, q2, bdS, if_pos z0]
      all_goals rfl
theorem R_thing (hr : RLn vN vR tc vH vU mn mp mf plc ut uc un uw fc kd sz d1 d2 wd srt nxt vD now past ims vB rn vM tm rr st und kp) (x : Int32) (y : Int32) : ∃ r vN' vM', fX8_thing vN vH kd vD now sz x y = some (r, vN') ∧ fX9_thing vM rr st x y = some (r, vM') ∧ RLn vN' vR tc vH vU mn mp mf plc ut uc un uw fc kd sz d1 d2 wd srt nxt vD now past ims vB rn vM' tm rr st und kp := by
  rcases aT hr x with ⟨h, c, hs, t, ht, rfl⟩ | ⟨q1, q2⟩
  · have h3 := hs.1.1.2.2.2.2.1
    have cx := RS_CX hs
    have hr' := hs.2.2.2.2.2.2.1
    obtain ⟨k1, k2, k3, k4, k5⟩ := cell_t hs ht
    have hok := hs.2.2.2.2.1.1.1 t ht
    have hlt := okc_lt (RS_wf hs) hok
    have c7 := hs.2.2.2.2.1.1.2.1
    have c7' : c 7 < 128 := Nat.lt_of_lt_of_le c7 (Nat.pow_le_pow_right (n := 2) (by omega) (show h 3 ≤ 7 from h3))
    have s7 : st (7 : Int32).toNatClampNeg = nI (c 7) := hs.2.2.2.2.2.2.2.1 7 (by omega)
    have st_t : st (nI t).toNatClampNeg = nI (c t) := by rw [nI_clamp (by omega)]; exact hs.2.2.2.2.2.2.2.1 t (by omega)
    rcases i_or y 4 (by omega) with ⟨k, hk, rfl⟩ | hy
    · rcases (show k = 0 ∨ k = 1 ∨ k = 2 ∨ k = 3 ∨ k = 4 by omega) with rfl | rfl | rfl | rfl | rfl
      · refine ⟨nI (h (62 + 3 * t)), upd vN 6 0, upd (upd vM 0 0) 11 0, ?_, ?_, RL_q hr (tr := nI 0) (by decide) (MA_0 vM)⟩
        · unfold fX8_thing
          rw [cT1 hs ht, bdS, if_neg nz1, rng_t (L := 4) (N := 4) rfl (by omega) hk _ _, if_pos z0, c_kindOf (RS_wf hs) cx.2.1 ht]
          rfl
        · unfold fX9_thing
          rw [m_gd, bdS, mT1 hs ht, bdS, if_neg nz1, show fX9_in (nI 0) 0 4 = some (nI 1) from m_inn_t (n := 4) (by omega) hk, bdS, if_neg nz1, if_pos z0, m_kindOf hr' (by omega)]
          rfl
      · refine ⟨nI (c t / 9), upd vN 6 0, upd (upd vM 0 0) 11 0, ?_, ?_, RL_q hr (tr := nI 0) (by decide) (MA_0 vM)⟩
        · unfold fX8_thing
          rw [cT1 hs ht, bdS, if_neg nz1, rng_t (L := 4) (N := 4) rfl (by omega) hk _ _, if_neg nz1, if_pos (show nI 1 = 1 from rfl), k1, bdS, k2]
          rfl
        · unfold fX9_thing
          rw [m_gd, bdS, mT1 hs ht, bdS, if_neg nz1, show fX9_in (nI 1) 0 4 = some (nI 1) from m_inn_t (n := 4) (by omega) hk, bdS, if_neg nz1, if_neg nz1, if_pos (show nI 1 = 1 from rfl), k3, gdT, k4]
      · refine ⟨nI (c t % 9), upd vN 6 0, upd (upd vM 0 0) 11 0, ?_, ?_, RL_q hr (tr := nI 0) (by decide) (MA_0 vM)⟩
        · unfold fX8_thing
          rw [cT1 hs ht, bdS, if_neg nz1, rng_t (L := 4) (N := 4) rfl (by omega) hk _ _, if_neg nz2, if_neg (show ¬ nI 2 = 1 by decide), if_pos (show nI 2 = 2 from rfl), k1, bdS, show fX8_placeOfCell (nI (c t)) = some (nI (c t % 9)) by unfold fX8_placeOfCell; rw [show irm (nI (c t)) 9 = nI (c t % 9) from irm_nI (d := 9) (by omega) (by omega) (by omega)]]
          rfl
        · unfold fX9_thing
          rw [m_gd, bdS, mT1 hs ht, bdS, if_neg nz1, show fX9_in (nI 2) 0 4 = some (nI 1) from m_inn_t (n := 4) (by omega) hk, bdS, if_neg nz1, if_neg nz2, if_neg (show ¬ nI 2 = 1 by decide), if_pos (show nI 2 = 2 from rfl), k3, gdT, st_t, show irm (nI (c t)) 9 = nI (c t % 9) from irm_nI (d := 9) (by omega) (by omega) (by omega)]
      · refine ⟨nI (h (62 + 3 * t + 2)), upd vN 6 0, upd (upd vM 0 0) 11 0, ?_, ?_, RL_q hr (tr := nI 0) (by decide) (MA_0 vM)⟩
        · have hsz : fX4_sizeOf vH sz (nI t) = some (nI (h (62 + 3 * t + 2))) := by
            unfold fX4_sizeOf fX4_sizeOf_J19 fX4_sizeOf_J20
            rw [if_neg (show ¬ nI t < 0 from nI_pos (by omega)), if_neg (show ¬ (7 : Int32) ≤ nI t from (show ¬ nI 7 ≤ nI t by rw [nI_leI (by omega) (by omega)]; omega)), ok_nI (by omega) (by omega), gdT, nI_clamp (by omega), (hs.2.2.2.1.2.2.2.2.2.2.1 t ht).2.2]
          unfold fX8_thing
          rw [cT1 hs ht, bdS, if_neg nz1, rng_t (L := 4) (N := 4) rfl (by omega) hk _ _, if_neg (show ¬ nI 3 = 0 by decide), if_neg (show ¬ nI 3 = 1 by decide), if_neg (show ¬ nI 3 = 2 by decide), if_pos (show nI 3 = 3 from rfl), hsz]
          rfl
        · unfold fX9_thing
          rw [m_gd, bdS, mT1 hs ht, bdS, if_neg nz1, show fX9_in (nI 3) 0 4 = some (nI 1) from m_inn_t (n := 4) (by omega) hk, bdS, if_neg nz1, if_neg (show ¬ nI 3 = 0 by decide), if_neg (show ¬ nI 3 = 1 by decide), if_neg (show ¬ nI 3 = 2 by decide), if_pos (show nI 3 = 3 from rfl)]
          simp (disch := omega) only [nlq, pk_mul, nI_add, ok_nI, gdT, nI_clamp, hr']
      · refine ⟨nI (if (c 7).testBit t then 1 else 0), upd vN 6 0, upd (upd vM 0 0) 11 0, ?_, ?_, RL_q hr (tr := nI 0) (by decide) (MA_0 vM)⟩
        · unfold fX8_thing
          rw [cT1 hs ht, bdS, if_neg nz1, rng_t (L := 4) (N := 4) rfl (by omega) hk _ _, if_neg (show ¬ nI 4 = 0 by decide), if_neg (show ¬ nI 4 = 1 by decide), if_neg (show ¬ nI 4 = 2 by decide), if_neg (show ¬ nI 4 = 3 by decide), c_isHeld h3 hs.2.2.2.2.1.1 hs.2.2.2.2.2.1 ht, bdS]
          cases (c 7).testBit t with
          | true => rw [if_neg (show ¬ nI (if true = true then 1 else 0) = 0 by decide)]; rfl
          | false => rw [if_pos (show nI (if false = true then 1 else 0) = 0 from rfl)]; rfl
        · unfold fX9_thing
          rw [m_gd, bdS, mT1 hs ht, bdS, if_neg nz1, show fX9_in (nI 4) 0 4 = some (nI 1) from m_inn_t (n := 4) (by omega) hk, bdS, if_neg nz1, if_neg (show ¬ nI 4 = 0 by decide), if_neg (show ¬ nI 4 = 1 by decide), if_neg (show ¬ nI 4 = 2 by decide), if_neg (show ¬ nI 4 = 3 by decide), show okI (7 : Int32) 9 = true from rfl, gdT, s7, show isr (nI (c 7)) (nI t) &&& 1 = nI (if (c 7).testBit t then 1 else 0) from bit_nI (by omega) (by omega)]
    · skip
      refine ⟨-1, upd vN 6 1, upd (upd (upd vM 0 0) 11 0) 11 1, ?_, ?_, RL_q hr (tr := nI 1) (by decide) (MA_no vM 1)⟩
      · unfold fX8_thing
        rw [cT1 hs ht, bdS, if_neg nz1, rng_f (L := 4) (N := 4) rfl (by omega) hy _ _]
        all_goals rfl
      · unfold fX9_thing
        rw [m_gd, bdS, mT1 hs ht, bdS, if_neg nz1, show fX9_in y 0 4 = some (nI 0) from m_inn_f (n := 4) (by omega) hy, bdS, if_pos z0]
        all_goals rfl
  · skip
    refine ⟨-1, upd vN 6 1, upd (upd (upd vM 0 0) 11 0) 11 1, ?_, ?_, RL_q hr (tr := nI 1) (by decide) (MA_no vM 1)⟩
    · unfold fX8_thing
      rw [q1, bdS, if_pos z0]
      all_goals rfl
    · unfold fX9_thing
      rw [m_gd, bdS, q2, bdS, if_pos z0]
      all_goals rfl
theorem R_at (hr : RLn vN vR tc vH vU mn mp mf plc ut uc un uw fc kd sz d1 d2 wd srt nxt vD now past ims vB rn vM tm rr st und kp) (x : Int32) (y : Int32) : ∃ r vN' vM', fX8_at vN vH plc vD now x y = some (r, vN') ∧ fX9_at vM rr st x y = some (r, vM') ∧ RLn vN' vR tc vH vU mn mp mf plc ut uc un uw fc kd sz d1 d2 wd srt nxt vD now past ims vB rn vM' tm rr st und kp := by
  rcases aPr hr x y with ⟨h, c, hs, g, y, hg, hy, rfl, rfl⟩ | ⟨q1, q2⟩
  · have h2 := hs.1.1.2.2.2.1
    have h3 := hs.1.1.2.2.2.2.1
    have y9 := (hs.1.2.1 g hg).2.2
    have hct : fX1_thingAt vD now (nI (9 * g + y)) (vH 5) = _ := c_dthing (RS_wf hs) hs.2.2.2.1.1.2.2.2.2.2.1 hs.2.2.2.2.1.1 hs.2.2.2.2.2.1 (show 9 * g + y < 36 by omega)
    have hmt := fun v => m_thingAt (vM := v) hs.2.2.2.2.2.2.1 h3 hs.2.2.2.2.2.2.2.1 (fun t ht => okc_lt (RS_wf hs) (hs.2.2.2.2.1.1.1 t ht)) (show 9 * g + y < 36 by omega)
    cases hf : fnd (fun u => c u == 9 * g + y) (h 3) with
    | none =>
      rw [hf] at hct
      have hmt' : ∀ v, fX9_thingAt v rr 9 st (nI (9 * g + y)) = some (-2) := fun v => by have := hmt v; rw [hf] at this; exact this
      refine ⟨-2, upd vN 6 0, upd (upd vM 0 0) 11 0, ?_, ?_, RL_q hr (tr := nI 0) (by decide) (MA_0 vM)⟩
      · unfold fX8_at
        rw [cP1 hs hg hy, bdS, if_neg nz1, c_cellAt, bdS, show fX1_thingAt vD now (nI (9 * g + y)) (vH 5) = some (-1) from hct, bdS, if_neg (show ¬ (0 : Int32) ≤ -1 by decide)]
        rfl
      · unfold fX9_at
        rw [m_gd, bdS, mP1 hs hg hy, bdS, if_neg nz1, show (9 : Int32) * nI g + nI y = nI (9 * g + y) by rw [show (9 : Int32) = nI 9 from rfl, pk_mul, nI_add], hmt']
        rfl
    | some u =>
      obtain ⟨u1, u2, u3⟩ := fnd_some hf
      rw [hf] at hct
      have hmt' : ∀ v, fX9_thingAt v rr 9 st (nI (9 * g + y)) = some (nI u) := fun v => by have := hmt v; rw [hf] at this; exact this
      refine ⟨nI u, upd vN 6 0, upd (upd vM 0 0) 11 0, ?_, ?_, RL_q hr (tr := nI 0) (by decide) (MA_0 vM)⟩
      · unfold fX8_at
        rw [cP1 hs hg hy, bdS, if_neg nz1, c_cellAt, bdS, show fX1_thingAt vD now (nI (9 * g + y)) (vH 5) = some (nI u) from hct, bdS, if_pos (show (0 : Int32) ≤ nI u from (show nI 0 ≤ nI u by rw [nI_leI (by omega) (by omega)]; omega))]
        rfl
      · unfold fX9_at
        rw [m_gd, bdS, mP1 hs hg hy, bdS, if_neg nz1, show (9 : Int32) * nI g + nI y = nI (9 * g + y) by rw [show (9 : Int32) = nI 9 from rfl, pk_mul, nI_add], hmt']
        rfl
  · skip
    refine ⟨-1, upd vN 6 1, upd (upd (upd vM 0 0) 11 0) 11 1, ?_, ?_, RL_q hr (tr := nI 1) (by decide) (MA_no vM 1)⟩
    · unfold fX8_at
      rw [q1, bdS, if_pos z0]
      all_goals rfl
    · unfold fX9_at
      rw [m_gd, bdS, q2, bdS, if_pos z0]
      all_goals rfl
theorem R_narrow (hr : RLn vN vR tc vH vU mn mp mf plc ut uc un uw fc kd sz d1 d2 wd srt nxt vD now past ims vB rn vM tm rr st und kp) (x : Int32) (y : Int32) : ∃ r vN' vM', fX8_narrow vN vH plc wd x y = some (r, vN') ∧ fX9_narrow vM rr x y = some (r, vM') ∧ RLn vN' vR tc vH vU mn mp mf plc ut uc un uw fc kd sz d1 d2 wd srt nxt vD now past ims vB rn vM' tm rr st und kp := by
  rcases aPr hr x y with ⟨h, c, hs, g, y, hg, hy, rfl, rfl⟩ | ⟨q1, q2⟩
  · have h2 := hs.1.1.2.2.2.1
    have y9 := (hs.1.2.1 g hg).2.2
    have hX : 9 * g + y < 36 := by omega
    have pn := hs.1.2.2.2.1 (9 * g + y) hX
    have hw := c_widthOf (vH := vH) hX hs.2.2.2.1.2.2.2.2.1
    have e16 : (16 : Int32) + (9 : Int32) * nI g + nI y = nI (16 + (9 * g + y)) := by
      rw [show (9 : Int32) = nI 9 from rfl, show (16 : Int32) = nI 16 from rfl, pk_mul, nI_add, nI_add, Nat.add_assoc]
    have hrr := hs.2.2.2.2.2.2.1 (16 + (9 * g + y)) (by omega)
    have mok : okI (nI (16 + (9 * g + y))) 224 = true := ok_nI (by omega) (by omega)
    by_cases z : h (16 + (9 * g + y)) = 0
    · refine ⟨-2, upd vN 6 0, upd (upd vM 0 0) 11 0, ?_, ?_, RL_q hr (tr := nI 0) (by decide) (MA_0 vM)⟩
      · unfold fX8_narrow
        rw [cP1 hs hg hy, bdS, if_neg nz1, c_cellAt, bdS, hw, if_pos z, bdS, if_pos (show nI 10 = 10 from rfl)]
        rfl
      · unfold fX9_narrow
        rw [m_gd, bdS, mP1 hs hg hy, bdS, if_neg nz1, e16, mok, gdT, nI_clamp (by omega), hrr, if_pos (show nI (h (16 + (9 * g + y))) = 0 by rw [z]; rfl)]
        rfl
    · refine ⟨nI (h (16 + (9 * g + y)) - 1), upd vN 6 0, upd (upd vM 0 0) 11 0, ?_, ?_, RL_q hr (tr := nI 0) (by decide) (MA_0 vM)⟩
      · unfold fX8_narrow
        rw [cP1 hs hg hy, bdS, if_neg nz1, c_cellAt, bdS, hw, if_neg z, bdS, if_neg (show ¬ nI (h (16 + (9 * g + y)) - 1) = 10 from (show ¬ nI (h (16 + (9 * g + y)) - 1) = nI 10 by rw [nI_eq (by omega) (by omega)]; omega))]
        rfl
      · unfold fX9_narrow
        rw [m_gd, bdS, mP1 hs hg hy, bdS, if_neg nz1, e16, mok, gdT, nI_clamp (by omega), hrr, if_neg (nI_ne0 (by omega) (by omega)), show nI (h (16 + (9 * g + y))) - 1 = nI (h (16 + (9 * g + y)) - 1) from pk_sub (b := 1) (by omega)]
        rfl
  · skip
    refine ⟨-1, upd vN 6 1, upd (upd (upd vM 0 0) 11 0) 11 1, ?_, ?_, RL_q hr (tr := nI 1) (by decide) (MA_no vM 1)⟩
    · unfold fX8_narrow
      rw [q1, bdS, if_pos z0]
      all_goals rfl
    · unfold fX9_narrow
      rw [m_gd, bdS, q2, bdS, if_pos z0]
      all_goals rfl
theorem R_ahead (hr : RLn vN vR tc vH vU mn mp mf plc ut uc un uw fc kd sz d1 d2 wd srt nxt vD now past ims vB rn vM tm rr st und kp) (x : Int32) : ∃ r vN' vM', fX8_ahead vN vH vD now nxt x = some (r, vN') ∧ fX9_ahead vM rr st x = some (r, vM') ∧ RLn vN' vR tc vH vU mn mp mf plc ut uc un uw fc kd sz d1 d2 wd srt nxt vD now past ims vB rn vM' tm rr st und kp := by
  rcases aT hr x with ⟨h, c, hs, t, ht, rfl⟩ | ⟨q1, q2⟩
  · have h3 := hs.1.1.2.2.2.2.1
    have cx := RS_CX hs
    obtain ⟨k1, k2, k3, k4, k5⟩ := cell_t hs ht
    have hok := hs.2.2.2.2.1.1.1 t ht
    have hlt := okc_lt (RS_wf hs) hok
    have hlt2 := okc_lt (RS_wf hs) (ah_ok (RS_wf hs) hok).1
    have st_t : st (nI t).toNatClampNeg = nI (c t) := by rw [nI_clamp (by omega)]; exact hs.2.2.2.2.2.2.2.1 t (by omega)
    have ei : irm (nI (ah h (c t))) 9 = nI (ah h (c t) % 9) := irm_nI (d := 9) (by omega) (by omega) (by omega)
    refine ⟨nI (ah h (c t) % 9), upd vN 6 0, upd (upd vM 0 0) 11 0, ?_, ?_, RL_q hr (tr := nI 0) (by decide) (MA_0 vM)⟩
    · unfold fX8_ahead
      rw [cT1 hs ht, bdS, if_neg nz1, k1, bdS, c_nextOf cx.2.1 hlt hok, bdS, show fX8_placeOfCell (nI (ah h (c t))) = some (nI (ah h (c t) % 9)) by unfold fX8_placeOfCell; rw [ei]]
      rfl
    · unfold fX9_ahead
      rw [m_gd, bdS, mT1 hs ht, bdS, if_neg nz1, k3, gdT, st_t, m_aheadOf (RS_wf hs) hs.2.2.2.2.2.2.1 hok, bdS, ei]
      rfl
  · skip
    refine ⟨-1, upd vN 6 1, upd (upd (upd vM 0 0) 11 0) 11 1, ?_, ?_, RL_q hr (tr := nI 1) (by decide) (MA_no vM 1)⟩
    · unfold fX8_ahead
      rw [q1, bdS, if_pos z0]
      all_goals rfl
    · unfold fX9_ahead
      rw [m_gd, bdS, q2, bdS, if_pos z0]
      all_goals rfl
end RQ3
