/-! MATH 56: the tape; what is told, on both sides (written by gen/g76.py) -/
section RQ6
variable {vN vR tc vH vU mn mp mf plc ut uc un uw fc kd sz d1 d2 wd srt nxt vD now vB rn vM tm rr st und kp : Nat → Int32} {past ims : Nat → Nat → Int32} {h c : Nat → Nat}
theorem RL_0 (hr : RLn vN vR tc vH vU mn mp mf plc ut uc un uw fc kd sz d1 d2 wd srt nxt vD now past ims vB rn vM tm rr st und kp) (x : Int32) : RLn vN vR tc vH vU mn mp mf plc ut uc un uw fc kd sz d1 d2 wd srt nxt vD now past ims vB rn (upd vM 0 x) tm rr st und kp := by
  obtain ⟨⟨r6, r7, r8⟩, ⟨nT, tb, t1, t2, t3, t4⟩, q⟩ := hr
  refine ⟨⟨r6, r7, r8⟩, ⟨nT, tb, t1, t2, t3, t4⟩, ?_⟩
  rcases q with hn | ⟨h, c, hs⟩
  · exact Or.inl hn
  · exact Or.inr ⟨h, c, RS_m hs rfl rfl rfl⟩
theorem R_fault (hr : RLn vN vR tc vH vU mn mp mf plc ut uc un uw fc kd sz d1 d2 wd srt nxt vD now past ims vB rn vM tm rr st und kp) : fX8_fault vN = some (vN 7) ∧ fX9_fault vM = some (vN 7, upd vM 0 0) ∧ RLn vN vR tc vH vU mn mp mf plc ut uc un uw fc kd sz d1 d2 wd srt nxt vD now past ims vB rn (upd vM 0 0) tm rr st und kp := by
  refine ⟨rfl, ?_, RL_0 hr 0⟩
  rw [hr.1.2.1]
  rfl
theorem R_trouble (hr : RLn vN vR tc vH vU mn mp mf plc ut uc un uw fc kd sz d1 d2 wd srt nxt vD now past ims vB rn vM tm rr st und kp) : fX8_trouble vN = some (vN 6) ∧ fX9_trouble vM = some (vN 6, upd vM 0 0) ∧ RLn vN vR tc vH vU mn mp mf plc ut uc un uw fc kd sz d1 d2 wd srt nxt vD now past ims vB rn (upd vM 0 0) tm rr st und kp := by
  refine ⟨rfl, ?_, RL_0 hr 0⟩
  rw [hr.1.1]
  rfl
theorem R_where (hr : RLn vN vR tc vH vU mn mp mf plc ut uc un uw fc kd sz d1 d2 wd srt nxt vD now past ims vB rn vM tm rr st und kp) : ∃ r, fX8_where vN = some r ∧ fX9_where vM = some (r, upd vM 0 0) ∧ RLn vN vR tc vH vU mn mp mf plc ut uc un uw fc kd sz d1 d2 wd srt nxt vD now past ims vB rn (upd vM 0 0) tm rr st und kp := by
  by_cases q : vM 11 = 4
  · refine ⟨vN 8, ?_, ?_, RL_0 hr 0⟩
    · unfold fX8_where
      rw [hr.1.1, if_pos q]
      rfl
    · unfold fX9_where
      rw [if_pos q, hr.1.2.2 q]
      rfl
  · refine ⟨-1, ?_, ?_, RL_0 hr 0⟩
    · unfold fX8_where
      rw [hr.1.1, if_neg q]
      rfl
    · unfold fX9_where
      rw [if_neg q]
      rfl
/-! size -/
def plSum (h : Nat → Nat) : Nat → Nat
  | 0 => 0
  | g + 1 => plSum h g + pl h g
theorem c_all (hs : RSt h c vH vU mn mp mf plc ut uc un uw fc kd sz d1 d2 wd srt nxt vD now past ims vB rn vM rr st und kp) : fX4_placesOfAll vH plc = some (nI (plSum h (h 2))) := by
  have h2 := hs.1.1.2.2.2.1
  have v2 : vH 2 = nI (h 2) := hs.2.2.2.1.1.2.2.1
  unfold fX4_placesOfAll
  refine lp_for (fun i => (nI (plSum h i), nI i)) (h 2) ?_ ?_ (by omega) rfl
  · intro i hi
    have hpl : fX4_placesOf vH plc (nI i) = some (nI (pl h i)) := by
      unfold fX4_placesOf fX4_placesOf_J18
      rw [c_hasRing_t h2 v2 hi, bdS, if_neg nz1, ok_nI (by omega) (by omega), gdT, nI_clamp (by omega), (hs.2.2.2.1.2.2.1 i hi).2]
    unfold fX4_placesOfAll_B4
    simp only
    rw [v2, if_neg (show ¬ nI (h 2) ≤ nI i by rw [nI_leI (by omega) (by omega)]; omega), hpl, bdS, nI_add, show nI i + 1 = nI (i + 1) from nI_add i 1]
    rfl
  · unfold fX4_placesOfAll_B4
    simp only
    rw [v2, if_pos (show nI (h 2) ≤ nI (h 2) by rw [nI_leI (by omega) (by omega)]; exact Nat.le_refl _)]
    rfl
theorem m_all (hs : RSt h c vH vU mn mp mf plc ut uc un uw fc kd sz d1 d2 wd srt nxt vD now past ims vB rn vM rr st und kp) (v : Nat → Int32) : fX9_allPlaces v rr = some (nI (plSum h (h 2))) := by
  have h2 := hs.1.1.2.2.2.1
  have r2 : rr (2 : Int32).toNatClampNeg = nI (h 2) := hs.2.2.2.2.2.2.1 2 (by omega)
  unfold fX9_allPlaces
  refine lp_for (fun i => (nI (plSum h i), nI i)) (h 2) ?_ ?_ (by omega) rfl
  · intro i hi
    unfold fX9_allPlaces_B4
    simp only
    rw [show okI (2 : Int32) 224 = true from rfl, gdT, r2, if_neg (show ¬ nI (h 2) ≤ nI i by rw [nI_leI (by omega) (by omega)]; omega), m_placesOf hs.2.2.2.2.2.2.1 (by omega), bdS, nI_add, show nI i + 1 = nI (i + 1) from nI_add i 1]
    rfl
  · unfold fX9_allPlaces_B4
    simp only
    rw [show okI (2 : Int32) 224 = true from rfl, gdT, r2, if_pos (show nI (h 2) ≤ nI (h 2) by rw [nI_leI (by omega) (by omega)]; exact Nat.le_refl _)]
    rfl
theorem R_size (hr : RLn vN vR tc vH vU mn mp mf plc ut uc un uw fc kd sz d1 d2 wd srt nxt vD now past ims vB rn vM tm rr st und kp) (j : Int64) (x : Int32) : ∃ r, fX8_size vN vH plc vU vD now j vR x = some r ∧ fX9_size vM rr st x = some (r, upd vM 0 0) ∧ RLn vN vR tc vH vU mn mp mf plc ut uc un uw fc kd sz d1 d2 wd srt nxt vD now past ims vB rn (upd vM 0 0) tm rr st und kp := by
  obtain ⟨nT, tb, t1, t2, t3, t4⟩ := id hr.2.1
  rcases i32_or x 13 (by omega) with ⟨k, hk, rfl⟩ | hx
  · rcases id hr.2.2 with hn | ⟨h, c, hs⟩
    · -- no house: all is 0, but the tape
      by_cases k12 : k = 12
      · subst k12
        refine ⟨nI nT, ?_, ?_, RL_0 hr 0⟩
        · unfold fX8_size
          rw [if_neg (show ¬ nI 12 = 0 by decide), if_neg (show ¬ nI 12 = 1 by decide), if_neg (show ¬ nI 12 = 2 by decide), if_neg (show ¬ nI 12 = 3 by decide), if_neg (show ¬ nI 12 = 4 by decide), if_neg (show ¬ nI 12 = 5 by decide), if_neg (show ¬ nI 12 = 6 by decide), if_neg (show ¬ nI 12 = 7 by decide), if_neg (show ¬ nI 12 = 8 by decide), if_neg (show ¬ nI 12 = 9 by decide), if_neg (show ¬ nI 12 = 10 by decide), if_neg (show ¬ nI 12 = 11 by decide), if_pos (show nI 12 = 12 from rfl), show fX5_count j vR = some (vR 1) from rfl, t2]
          rfl
        · unfold fX9_size
          rw [if_pos (show nI 12 = 12 from rfl), t3]
      · refine ⟨nI 0, ?_, ?_, RL_0 hr 0⟩
        · have z : ∀ i, i < 7 → vH i = nI 0 := hn.2.2.2.1
          have hall : fX4_placesOfAll vH plc = some (nI 0) := by
            unfold fX4_placesOfAll
            refine lp_ex (by omega) ?_
            unfold fX4_placesOfAll_B4
            simp only
            rw [z 2 (by omega), if_pos (show nI 0 ≤ 0 by decide)]
            rfl
          rcases (show k = 0 ∨ k = 1 ∨ k = 2 ∨ k = 3 ∨ k = 4 ∨ k = 5 ∨ k = 6 ∨ k = 7 ∨ k = 8 ∨ k = 9 ∨ k = 10 ∨ k = 11 by omega) with rfl | rfl | rfl | rfl | rfl | rfl | rfl | rfl | rfl | rfl | rfl | rfl
          · unfold fX8_size
            rw [if_pos (show nI 0 = 0 from rfl), z 0 (by omega)]
          · unfold fX8_size
            rw [if_neg (show ¬ nI 1 = 0 by decide), if_pos (show nI 1 = 1 from rfl), z 1 (by omega)]
          · unfold fX8_size
            rw [if_neg (show ¬ nI 2 = 0 by decide), if_neg (show ¬ nI 2 = 1 by decide), if_pos (show nI 2 = 2 from rfl), z 2 (by omega)]
          · unfold fX8_size
            rw [if_neg (show ¬ nI 3 = 0 by decide), if_neg (show ¬ nI 3 = 1 by decide), if_neg (show ¬ nI 3 = 2 by decide), if_pos (show nI 3 = 3 from rfl), hall]
            rfl
          · unfold fX8_size
            rw [if_neg (show ¬ nI 4 = 0 by decide), if_neg (show ¬ nI 4 = 1 by decide), if_neg (show ¬ nI 4 = 2 by decide), if_neg (show ¬ nI 4 = 3 by decide), if_pos (show nI 4 = 4 from rfl), z 5 (by omega)]
          · unfold fX8_size
            rw [if_neg (show ¬ nI 5 = 0 by decide), if_neg (show ¬ nI 5 = 1 by decide), if_neg (show ¬ nI 5 = 2 by decide), if_neg (show ¬ nI 5 = 3 by decide), if_neg (show ¬ nI 5 = 4 by decide), if_pos (show nI 5 = 5 from rfl), z 3 (by omega)]
          · unfold fX8_size
            rw [if_neg (show ¬ nI 6 = 0 by decide), if_neg (show ¬ nI 6 = 1 by decide), if_neg (show ¬ nI 6 = 2 by decide), if_neg (show ¬ nI 6 = 3 by decide), if_neg (show ¬ nI 6 = 4 by decide), if_neg (show ¬ nI 6 = 5 by decide), if_pos (show nI 6 = 6 from rfl), z 4 (by omega)]
          · unfold fX8_size
            rw [if_neg (show ¬ nI 7 = 0 by decide), if_neg (show ¬ nI 7 = 1 by decide), if_neg (show ¬ nI 7 = 2 by decide), if_neg (show ¬ nI 7 = 3 by decide), if_neg (show ¬ nI 7 = 4 by decide), if_neg (show ¬ nI 7 = 5 by decide), if_neg (show ¬ nI 7 = 6 by decide), if_pos (show nI 7 = 7 from rfl), show fX7_count vU = some (vU 0) from rfl, hn.2.2.2.2.1]
            rfl
          · unfold fX8_size
            rw [if_neg (show ¬ nI 8 = 0 by decide), if_neg (show ¬ nI 8 = 1 by decide), if_neg (show ¬ nI 8 = 2 by decide), if_neg (show ¬ nI 8 = 3 by decide), if_neg (show ¬ nI 8 = 4 by decide), if_neg (show ¬ nI 8 = 5 by decide), if_neg (show ¬ nI 8 = 6 by decide), if_neg (show ¬ nI 8 = 7 by decide), if_pos (show nI 8 = 8 from rfl), z 6 (by omega)]
          · unfold fX8_size
            rw [if_neg (show ¬ nI 9 = 0 by decide), if_neg (show ¬ nI 9 = 1 by decide), if_neg (show ¬ nI 9 = 2 by decide), if_neg (show ¬ nI 9 = 3 by decide), if_neg (show ¬ nI 9 = 4 by decide), if_neg (show ¬ nI 9 = 5 by decide), if_neg (show ¬ nI 9 = 6 by decide), if_neg (show ¬ nI 9 = 7 by decide), if_neg (show ¬ nI 9 = 8 by decide), if_pos (show nI 9 = 9 from rfl), show fX1_nightNow vD now = some (now 8) from rfl, hn.2.2.2.2.2.2.2.1]
            rfl
          · unfold fX8_size
            rw [if_neg (show ¬ nI 10 = 0 by decide), if_neg (show ¬ nI 10 = 1 by decide), if_neg (show ¬ nI 10 = 2 by decide), if_neg (show ¬ nI 10 = 3 by decide), if_neg (show ¬ nI 10 = 4 by decide), if_neg (show ¬ nI 10 = 5 by decide), if_neg (show ¬ nI 10 = 6 by decide), if_neg (show ¬ nI 10 = 7 by decide), if_neg (show ¬ nI 10 = 8 by decide), if_neg (show ¬ nI 10 = 9 by decide), if_pos (show nI 10 = 10 from rfl), show fX1_countKept vD = some (vD 3) from rfl, hn.2.2.2.2.2.1]
            rfl
          · unfold fX8_size
            rw [if_neg (show ¬ nI 11 = 0 by decide), if_neg (show ¬ nI 11 = 1 by decide), if_neg (show ¬ nI 11 = 2 by decide), if_neg (show ¬ nI 11 = 3 by decide), if_neg (show ¬ nI 11 = 4 by decide), if_neg (show ¬ nI 11 = 5 by decide), if_neg (show ¬ nI 11 = 6 by decide), if_neg (show ¬ nI 11 = 7 by decide), if_neg (show ¬ nI 11 = 8 by decide), if_neg (show ¬ nI 11 = 9 by decide), if_neg (show ¬ nI 11 = 10 by decide), if_pos (show nI 11 = 11 from rfl), show fX1_countImages vD = some (vD 5) from rfl, hn.2.2.2.2.2.2.1]
            rfl
        · unfold fX9_size
          rw [if_neg (show ¬ nI k = 12 from (show ¬ nI k = nI 12 by rw [nI_eq (by omega) (by omega)]; exact k12)), if_pos (show vM 14 = 0 from hn.1), show fX9_in (nI k) 0 11 = some (nI 1) from m_inn_t (n := 11) (by omega) (by omega), bdS, if_neg nz1]
          rfl
    · obtain ⟨hP, h0, h2, ⟨⟨a0, a1, a2, a3, a4, a5, a6⟩, cw, -⟩, hG, hD, hrr, hst, -, h14, ⟨K, p, cs, u1, u2, u3, u4, u5, -⟩, ⟨K', cs', i1, i2, i3, -⟩⟩ := id hs
      have n14 : ¬ vM 14 = 0 := by rw [h14]; decide
      rcases (show k = 0 ∨ k = 1 ∨ k = 2 ∨ k = 3 ∨ k = 4 ∨ k = 5 ∨ k = 6 ∨ k = 7 ∨ k = 8 ∨ k = 9 ∨ k = 10 ∨ k = 11 ∨ k = 12 by omega) with rfl | rfl | rfl | rfl | rfl | rfl | rfl | rfl | rfl | rfl | rfl | rfl | rfl
      · refine ⟨nI (h 0), ?_, ?_, RL_0 hr 0⟩
        · unfold fX8_size
          rw [if_pos (show nI 0 = 0 from rfl), a0]
        · unfold fX9_size
          rw [if_neg (show ¬ nI 0 = 12 by decide), if_neg n14, if_pos (show nI 0 = 0 from rfl), show okI (0 : Int32) 224 = true from rfl, gdT, show rr (0 : Int32).toNatClampNeg = nI (h 0) from hrr 0 (by omega)]
      · refine ⟨nI (h 1), ?_, ?_, RL_0 hr 0⟩
        · unfold fX8_size
          rw [if_neg (show ¬ nI 1 = 0 by decide), if_pos (show nI 1 = 1 from rfl), a1]
        · unfold fX9_size
          rw [if_neg (show ¬ nI 1 = 12 by decide), if_neg n14, if_neg (show ¬ nI 1 = 0 by decide), if_pos (show nI 1 = 1 from rfl), show okI (1 : Int32) 224 = true from rfl, gdT, show rr (1 : Int32).toNatClampNeg = nI (h 1) from hrr 1 (by omega)]
      · refine ⟨nI (h 2), ?_, ?_, RL_0 hr 0⟩
        · unfold fX8_size
          rw [if_neg (show ¬ nI 2 = 0 by decide), if_neg (show ¬ nI 2 = 1 by decide), if_pos (show nI 2 = 2 from rfl), a2]
        · unfold fX9_size
          rw [if_neg (show ¬ nI 2 = 12 by decide), if_neg n14, if_neg (show ¬ nI 2 = 0 by decide), if_neg (show ¬ nI 2 = 1 by decide), if_pos (show nI 2 = 2 from rfl), show okI (2 : Int32) 224 = true from rfl, gdT, show rr (2 : Int32).toNatClampNeg = nI (h 2) from hrr 2 (by omega)]
      · refine ⟨nI (plSum h (h 2)), ?_, ?_, RL_0 hr 0⟩
        · unfold fX8_size
          rw [if_neg (show ¬ nI 3 = 0 by decide), if_neg (show ¬ nI 3 = 1 by decide), if_neg (show ¬ nI 3 = 2 by decide), if_pos (show nI 3 = 3 from rfl), c_all hs]
          rfl
        · unfold fX9_size
          rw [if_neg (show ¬ nI 3 = 12 by decide), if_neg n14, if_neg (show ¬ nI 3 = 0 by decide), if_neg (show ¬ nI 3 = 1 by decide), if_neg (show ¬ nI 3 = 2 by decide), if_pos (show nI 3 = 3 from rfl), m_all hs]
          rfl
      · refine ⟨nI (h 3), ?_, ?_, RL_0 hr 0⟩
        · unfold fX8_size
          rw [if_neg (show ¬ nI 4 = 0 by decide), if_neg (show ¬ nI 4 = 1 by decide), if_neg (show ¬ nI 4 = 2 by decide), if_neg (show ¬ nI 4 = 3 by decide), if_pos (show nI 4 = 4 from rfl), a5]
        · unfold fX9_size
          rw [if_neg (show ¬ nI 4 = 12 by decide), if_neg n14, if_neg (show ¬ nI 4 = 0 by decide), if_neg (show ¬ nI 4 = 1 by decide), if_neg (show ¬ nI 4 = 2 by decide), if_neg (show ¬ nI 4 = 3 by decide), if_pos (show nI 4 = 4 from rfl), show okI (3 : Int32) 224 = true from rfl, gdT, show rr (3 : Int32).toNatClampNeg = nI (h 3) from hrr 3 (by omega)]
      · refine ⟨nI (h 4), ?_, ?_, RL_0 hr 0⟩
        · unfold fX8_size
          rw [if_neg (show ¬ nI 5 = 0 by decide), if_neg (show ¬ nI 5 = 1 by decide), if_neg (show ¬ nI 5 = 2 by decide), if_neg (show ¬ nI 5 = 3 by decide), if_neg (show ¬ nI 5 = 4 by decide), if_pos (show nI 5 = 5 from rfl), a3]
        · unfold fX9_size
          rw [if_neg (show ¬ nI 5 = 12 by decide), if_neg n14, if_neg (show ¬ nI 5 = 0 by decide), if_neg (show ¬ nI 5 = 1 by decide), if_neg (show ¬ nI 5 = 2 by decide), if_neg (show ¬ nI 5 = 3 by decide), if_neg (show ¬ nI 5 = 4 by decide), if_pos (show nI 5 = 5 from rfl), show okI (4 : Int32) 224 = true from rfl, gdT, show rr (4 : Int32).toNatClampNeg = nI (h 4) from hrr 4 (by omega)]
      · refine ⟨nI (h 5), ?_, ?_, RL_0 hr 0⟩
        · unfold fX8_size
          rw [if_neg (show ¬ nI 6 = 0 by decide), if_neg (show ¬ nI 6 = 1 by decide), if_neg (show ¬ nI 6 = 2 by decide), if_neg (show ¬ nI 6 = 3 by decide), if_neg (show ¬ nI 6 = 4 by decide), if_neg (show ¬ nI 6 = 5 by decide), if_pos (show nI 6 = 6 from rfl), a4]
        · unfold fX9_size
          rw [if_neg (show ¬ nI 6 = 12 by decide), if_neg n14, if_neg (show ¬ nI 6 = 0 by decide), if_neg (show ¬ nI 6 = 1 by decide), if_neg (show ¬ nI 6 = 2 by decide), if_neg (show ¬ nI 6 = 3 by decide), if_neg (show ¬ nI 6 = 4 by decide), if_neg (show ¬ nI 6 = 5 by decide), if_pos (show nI 6 = 6 from rfl), show okI (5 : Int32) 224 = true from rfl, gdT, show rr (5 : Int32).toNatClampNeg = nI (h 5) from hrr 5 (by omega)]
      · refine ⟨nI (h 6), ?_, ?_, RL_0 hr 0⟩
        · unfold fX8_size
          rw [if_neg (show ¬ nI 7 = 0 by decide), if_neg (show ¬ nI 7 = 1 by decide), if_neg (show ¬ nI 7 = 2 by decide), if_neg (show ¬ nI 7 = 3 by decide), if_neg (show ¬ nI 7 = 4 by decide), if_neg (show ¬ nI 7 = 5 by decide), if_neg (show ¬ nI 7 = 6 by decide), if_pos (show nI 7 = 7 from rfl), show fX7_count vU = some (vU 0) from rfl, cw.1]
          rfl
        · unfold fX9_size
          rw [if_neg (show ¬ nI 7 = 12 by decide), if_neg n14, if_neg (show ¬ nI 7 = 0 by decide), if_neg (show ¬ nI 7 = 1 by decide), if_neg (show ¬ nI 7 = 2 by decide), if_neg (show ¬ nI 7 = 3 by decide), if_neg (show ¬ nI 7 = 4 by decide), if_neg (show ¬ nI 7 = 5 by decide), if_neg (show ¬ nI 7 = 6 by decide), if_pos (show nI 7 = 7 from rfl), show okI (6 : Int32) 224 = true from rfl, gdT, show rr (6 : Int32).toNatClampNeg = nI (h 6) from hrr 6 (by omega)]
      · refine ⟨nI (h 7), ?_, ?_, RL_0 hr 0⟩
        · unfold fX8_size
          rw [if_neg (show ¬ nI 8 = 0 by decide), if_neg (show ¬ nI 8 = 1 by decide), if_neg (show ¬ nI 8 = 2 by decide), if_neg (show ¬ nI 8 = 3 by decide), if_neg (show ¬ nI 8 = 4 by decide), if_neg (show ¬ nI 8 = 5 by decide), if_neg (show ¬ nI 8 = 6 by decide), if_neg (show ¬ nI 8 = 7 by decide), if_pos (show nI 8 = 8 from rfl), a6]
        · unfold fX9_size
          rw [if_neg (show ¬ nI 8 = 12 by decide), if_neg n14, if_neg (show ¬ nI 8 = 0 by decide), if_neg (show ¬ nI 8 = 1 by decide), if_neg (show ¬ nI 8 = 2 by decide), if_neg (show ¬ nI 8 = 3 by decide), if_neg (show ¬ nI 8 = 4 by decide), if_neg (show ¬ nI 8 = 5 by decide), if_neg (show ¬ nI 8 = 6 by decide), if_neg (show ¬ nI 8 = 7 by decide), if_pos (show nI 8 = 8 from rfl), show okI (7 : Int32) 224 = true from rfl, gdT, show rr (7 : Int32).toNatClampNeg = nI (h 7) from hrr 7 (by omega)]
      · refine ⟨nI (c 8), ?_, ?_, RL_0 hr 0⟩
        · unfold fX8_size
          rw [if_neg (show ¬ nI 9 = 0 by decide), if_neg (show ¬ nI 9 = 1 by decide), if_neg (show ¬ nI 9 = 2 by decide), if_neg (show ¬ nI 9 = 3 by decide), if_neg (show ¬ nI 9 = 4 by decide), if_neg (show ¬ nI 9 = 5 by decide), if_neg (show ¬ nI 9 = 6 by decide), if_neg (show ¬ nI 9 = 7 by decide), if_neg (show ¬ nI 9 = 8 by decide), if_pos (show nI 9 = 9 from rfl), show fX1_nightNow vD now = some (now 8) from rfl, hD.2.2]
          rfl
        · unfold fX9_size
          rw [if_neg (show ¬ nI 9 = 12 by decide), if_neg n14, if_neg (show ¬ nI 9 = 0 by decide), if_neg (show ¬ nI 9 = 1 by decide), if_neg (show ¬ nI 9 = 2 by decide), if_neg (show ¬ nI 9 = 3 by decide), if_neg (show ¬ nI 9 = 4 by decide), if_neg (show ¬ nI 9 = 5 by decide), if_neg (show ¬ nI 9 = 6 by decide), if_neg (show ¬ nI 9 = 7 by decide), if_neg (show ¬ nI 9 = 8 by decide), if_pos (show nI 9 = 9 from rfl), show okI (8 : Int32) 9 = true from rfl, gdT, show st (8 : Int32).toNatClampNeg = nI (c 8) from hst 8 (by omega)]
      · refine ⟨nI K, ?_, ?_, RL_0 hr 0⟩
        · unfold fX8_size
          rw [if_neg (show ¬ nI 10 = 0 by decide), if_neg (show ¬ nI 10 = 1 by decide), if_neg (show ¬ nI 10 = 2 by decide), if_neg (show ¬ nI 10 = 3 by decide), if_neg (show ¬ nI 10 = 4 by decide), if_neg (show ¬ nI 10 = 5 by decide), if_neg (show ¬ nI 10 = 6 by decide), if_neg (show ¬ nI 10 = 7 by decide), if_neg (show ¬ nI 10 = 8 by decide), if_neg (show ¬ nI 10 = 9 by decide), if_pos (show nI 10 = 10 from rfl), show fX1_countKept vD = some (vD 3) from rfl, u3]
          rfl
        · unfold fX9_size
          rw [if_neg (show ¬ nI 10 = 12 by decide), if_neg n14, if_neg (show ¬ nI 10 = 0 by decide), if_neg (show ¬ nI 10 = 1 by decide), if_neg (show ¬ nI 10 = 2 by decide), if_neg (show ¬ nI 10 = 3 by decide), if_neg (show ¬ nI 10 = 4 by decide), if_neg (show ¬ nI 10 = 5 by decide), if_neg (show ¬ nI 10 = 6 by decide), if_neg (show ¬ nI 10 = 7 by decide), if_neg (show ¬ nI 10 = 8 by decide), if_neg (show ¬ nI 10 = 9 by decide), if_pos (show nI 10 = 10 from rfl), u5]
      · refine ⟨nI K', ?_, ?_, RL_0 hr 0⟩
        · unfold fX8_size
          rw [if_neg (show ¬ nI 11 = 0 by decide), if_neg (show ¬ nI 11 = 1 by decide), if_neg (show ¬ nI 11 = 2 by decide), if_neg (show ¬ nI 11 = 3 by decide), if_neg (show ¬ nI 11 = 4 by decide), if_neg (show ¬ nI 11 = 5 by decide), if_neg (show ¬ nI 11 = 6 by decide), if_neg (show ¬ nI 11 = 7 by decide), if_neg (show ¬ nI 11 = 8 by decide), if_neg (show ¬ nI 11 = 9 by decide), if_neg (show ¬ nI 11 = 10 by decide), if_pos (show nI 11 = 11 from rfl), show fX1_countImages vD = some (vD 5) from rfl, i2]
          rfl
        · unfold fX9_size
          rw [if_neg (show ¬ nI 11 = 12 by decide), if_neg n14, if_neg (show ¬ nI 11 = 0 by decide), if_neg (show ¬ nI 11 = 1 by decide), if_neg (show ¬ nI 11 = 2 by decide), if_neg (show ¬ nI 11 = 3 by decide), if_neg (show ¬ nI 11 = 4 by decide), if_neg (show ¬ nI 11 = 5 by decide), if_neg (show ¬ nI 11 = 6 by decide), if_neg (show ¬ nI 11 = 7 by decide), if_neg (show ¬ nI 11 = 8 by decide), if_neg (show ¬ nI 11 = 9 by decide), if_neg (show ¬ nI 11 = 10 by decide), if_pos (show nI 11 = 11 from rfl), i3]
      · refine ⟨nI nT, ?_, ?_, RL_0 hr 0⟩
        · unfold fX8_size
          rw [if_neg (show ¬ nI 12 = 0 by decide), if_neg (show ¬ nI 12 = 1 by decide), if_neg (show ¬ nI 12 = 2 by decide), if_neg (show ¬ nI 12 = 3 by decide), if_neg (show ¬ nI 12 = 4 by decide), if_neg (show ¬ nI 12 = 5 by decide), if_neg (show ¬ nI 12 = 6 by decide), if_neg (show ¬ nI 12 = 7 by decide), if_neg (show ¬ nI 12 = 8 by decide), if_neg (show ¬ nI 12 = 9 by decide), if_neg (show ¬ nI 12 = 10 by decide), if_neg (show ¬ nI 12 = 11 by decide), if_pos (show nI 12 = 12 from rfl), show fX5_count j vR = some (vR 1) from rfl, t2]
          rfl
        · unfold fX9_size
          rw [if_pos (show nI 12 = 12 from rfl), t3]
  · have hne : ∀ k, k < 13 → ¬ x = nI k := by
      intro k hk
      rcases hx with hx | hx
      · exact neg_ne hx (by omega)
      · exact ge_ne (by omega) hx hk
    refine ⟨-1, ?_, ?_, RL_0 hr 0⟩
    · unfold fX8_size
      rw [if_neg (show ¬ x = (0 : Int32) from hne 0 (by omega)), if_neg (show ¬ x = (1 : Int32) from hne 1 (by omega)), if_neg (show ¬ x = (2 : Int32) from hne 2 (by omega)), if_neg (show ¬ x = (3 : Int32) from hne 3 (by omega)), if_neg (show ¬ x = (4 : Int32) from hne 4 (by omega)), if_neg (show ¬ x = (5 : Int32) from hne 5 (by omega)), if_neg (show ¬ x = (6 : Int32) from hne 6 (by omega)), if_neg (show ¬ x = (7 : Int32) from hne 7 (by omega)), if_neg (show ¬ x = (8 : Int32) from hne 8 (by omega)), if_neg (show ¬ x = (9 : Int32) from hne 9 (by omega)), if_neg (show ¬ x = (10 : Int32) from hne 10 (by omega)), if_neg (show ¬ x = (11 : Int32) from hne 11 (by omega)), if_neg (show ¬ x = (12 : Int32) from hne 12 (by omega))]
    · unfold fX9_size
      rw [if_neg (show ¬ x = (12 : Int32) from hne 12 (by omega))]
      by_cases q : vM 14 = 0
      · rw [if_pos q, show fX9_in x 0 11 = some (nI 0) from m_inn_f (n := 11) (by omega) ?_, bdS, if_pos z0]
        · rfl
        · rcases hx with hx | hx
          · exact Or.inl hx
          · exact Or.inr (le_trans32 (by decide) hx)
      · rw [if_neg q, if_neg (show ¬ x = (0 : Int32) from hne 0 (by omega)), if_neg (show ¬ x = (1 : Int32) from hne 1 (by omega)), if_neg (show ¬ x = (2 : Int32) from hne 2 (by omega)), if_neg (show ¬ x = (3 : Int32) from hne 3 (by omega)), if_neg (show ¬ x = (4 : Int32) from hne 4 (by omega)), if_neg (show ¬ x = (5 : Int32) from hne 5 (by omega)), if_neg (show ¬ x = (6 : Int32) from hne 6 (by omega)), if_neg (show ¬ x = (7 : Int32) from hne 7 (by omega)), if_neg (show ¬ x = (8 : Int32) from hne 8 (by omega)), if_neg (show ¬ x = (9 : Int32) from hne 9 (by omega)), if_neg (show ¬ x = (10 : Int32) from hne 10 (by omega)), if_neg (show ¬ x = (11 : Int32) from hne 11 (by omega))]
/-! feed -/
theorem byte_eq (z : Int32) : z &&& nI 255 = nI (z.toBitVec.toNat % 256) ∧ vp_nar .byte (z.toInt8.toInt32) = sby (z.toBitVec.toNat % 256) := by
  constructor
  · apply Int32.toBitVec_inj.1
    show z.toBitVec &&& BitVec.ofNat 32 255 = BitVec.ofNat 32 (z.toBitVec.toNat % 256)
    apply BitVec.eq_of_toNat_eq
    rw [BitVec.toNat_and, BitVec.toNat_ofNat, BitVec.toNat_ofNat, show 255 % 2 ^ 32 = 2 ^ 8 - 1 by decide, Nat.and_two_pow_sub_one_eq_mod]
    have := Nat.mod_lt z.toBitVec.toNat (show 0 < 256 by omega)
    omega
  · have h1 : z.toInt8 = Int8.ofNat (z.toBitVec.toNat % 256) := by
      apply Int8.toBitVec_inj.1
      apply BitVec.eq_of_toNat_eq
      show (BitVec.signExtend 8 z.toBitVec).toNat = (BitVec.ofNat 8 (z.toBitVec.toNat % 256)).toNat
      rw [BitVec.signExtend_eq_setWidth_of_le _ (by omega)]
      simp
    have key : ∀ b, b < 256 → vp_nar .byte ((Int8.ofNat b).toInt32) = sby b := by decide +kernel
    rw [h1]
    exact key _ (Nat.mod_lt _ (by omega))
def bv (x : Int32) (i : Nat) : Nat := (isr x (nI (24 - 8 * i))).toBitVec.toNat % 256
theorem bv_lt (x : Int32) (i : Nat) : bv x i < 256 := Nat.mod_lt _ (by omega)
theorem c_append {j : Int64} {m : Nat} (h1 : vR 1 = nI m) (hm : m + 4 ≤ 900) (x : Int32) : ∃ vR' tc', fX5_append j vR tc x = some (vR', tc') ∧ vR' 1 = nI (m + 4) ∧ ∀ p, tc' p = if m ≤ p ∧ p < m + 4 then sby (bv x (p - m)) else tc p := by
  have stp : ∀ (s i : Nat) (t v : Nat → Int32), s ≤ 24 → v 1 = nI i → i < 900 → fX5_append_B3 x (nI s, t, v) = some (.inr (nI s + (-8), upd t i (vp_nar .byte ((isr x (nI s)).toInt8.toInt32)), upd v 1 (nI (i + 1)))) := by
    intro s i t v hs hv hi
    unfold fX5_append_B3
    simp only
    rw [if_neg (show ¬ nI s < 0 from nI_pos (by omega)), hv, if_neg (show ¬ nI i < 0 from nI_pos (by omega)), if_neg (show ¬ (900 : Int32) ≤ nI i from (show ¬ nI 900 ≤ nI i by rw [nI_leI (by omega) (by omega)]; omega)), ok_nI hi (by omega), gdT, nI_clamp (by omega), show nI i + 1 = nI (i + 1) from nI_add i 1]
    rfl
  refine ⟨upd (upd (upd (upd vR 1 (nI (m + 1))) 1 (nI (m + 1 + 1))) 1 (nI (m + 1 + 1 + 1))) 1 (nI (m + 1 + 1 + 1 + 1)), upd (upd (upd (upd tc m (vp_nar .byte ((isr x (nI 24)).toInt8.toInt32))) (m + 1) (vp_nar .byte ((isr x (nI 16)).toInt8.toInt32))) (m + 1 + 1) (vp_nar .byte ((isr x (nI 8)).toInt8.toInt32))) (m + 1 + 1 + 1) (vp_nar .byte ((isr x (nI 0)).toInt8.toInt32)), ?_, rfl, fun p => ?_⟩
  · unfold fX5_append
    rw [show lp (fX5_append_B3 x) 5000 (24, tc, vR) = lp (fX5_append_B3 x) 4999 (nI 24 + (-8), _, _) from lp_inr (by omega) (stp 24 m tc vR (by omega) h1 (by omega)), show nI 24 + (-8) = nI 16 by decide, lp_inr (by omega) (stp 16 (m + 1) _ _ (by omega) rfl (by omega)), show nI 16 + (-8) = nI 8 by decide, lp_inr (by omega) (stp 8 (m + 1 + 1) _ _ (by omega) rfl (by omega)), show nI 8 + (-8) = nI 0 by decide, lp_inr (by omega) (stp 0 (m + 1 + 1 + 1) _ _ (by omega) rfl (by omega))]
    refine lp_ex (by omega) ?_
    unfold fX5_append_B3
    simp only
    rw [if_pos (show nI 0 + (-8) < 0 by decide)]
  · unfold upd bv
    by_cases e3 : p = m + 1 + 1 + 1
    · rw [if_pos e3, if_pos (by omega), (byte_eq _).2, show p - m = 3 by omega]
    · rw [if_neg e3]
      by_cases e2 : p = m + 1 + 1
      · rw [if_pos e2, if_pos (by omega), (byte_eq _).2, show p - m = 2 by omega]
      · rw [if_neg e2]
        by_cases e1 : p = m + 1
        · rw [if_pos e1, if_pos (by omega), (byte_eq _).2, show p - m = 1 by omega]
        · rw [if_neg e1]
          by_cases e0 : p = m
          · rw [if_pos e0, if_pos (by omega), (byte_eq _).2, show p - m = 0 by omega]
          · rw [if_neg e0, if_neg (by omega)]
def wsel (x1 x2 x3 x4 x5 : Int32) (i : Nat) : Int32 := if i < 4 then x1 else if i < 8 then x2 else if i < 12 then x3 else if i < 16 then x4 else x5
theorem m_feedLoop {m : Nat} {v : Nat → Int32} (h2 : v 2 = nI m) (hm : m + 20 ≤ 900) (x1 x2 x3 x4 x5 : Int32) : ∃ v' tm', lp (fX9_feed_B23 x1 x2 x3 x4 x5) 5000 (nI 0, tm, v) = some (nI (m + 20), v', tm') ∧ v' 2 = nI (m + 20) ∧ (∀ k, k ≠ 2 → v' k = v k) ∧ ∀ p, tm' p = if m ≤ p ∧ p < m + 20 then nI (bv (wsel x1 x2 x3 x4 x5 (p - m)) ((p - m) % 4)) else tm p := by
  refine Exists.elim (lp_inv (f := fX9_feed_B23 x1 x2 x3 x4 x5) (fun i s => ∃ t u, s = (nI i, t, u) ∧ u 2 = nI (m + i) ∧ (∀ k, k ≠ 2 → u k = v k) ∧ ∀ p, t p = if m ≤ p ∧ p < m + i then nI (bv (wsel x1 x2 x3 x4 x5 (p - m)) ((p - m) % 4)) else tm p) (fun res => ∃ v' tm', res = (nI (m + 20), v', tm') ∧ v' 2 = nI (m + 20) ∧ (∀ k, k ≠ 2 → v' k = v k) ∧ ∀ p, tm' p = if m ≤ p ∧ p < m + 20 then nI (bv (wsel x1 x2 x3 x4 x5 (p - m)) ((p - m) % 4)) else tm p) 20 ?_ ?_ 5000 0 (nI 0, tm, v) (Nat.zero_le _) ⟨tm, v, rfl, h2, fun _ _ => rfl, fun p => by rw [if_neg (by omega)]⟩ (by omega)) (fun res hr => ?_)
  · rintro i s hi ⟨t, u, rfl, hu2, huo, ht⟩
    left
    have J76 : ∀ y, y = wsel x1 x2 x3 x4 x5 i → fX9_feed_J76 (nI i) t u y = some (.inr (nI (i + 1), upd t (m + i) (nI (bv y (i % 4))), upd u 2 (nI (m + i + 1)))) := by
      intro y hy
      unfold fX9_feed_J76
      have hmod : i % 4 < 4 := Nat.mod_lt _ (by omega)
      rw [hu2, ok_nI (by omega) (by omega), gdT, nI_clamp (by omega), show irm (nI i) 4 = nI (i % 4) from irm_nI (d := 4) (by omega) (by omega) (by omega), show (8 : Int32) * nI (i % 4) = nI (8 * (i % 4)) from pk_mul 8 (i % 4), show (24 : Int32) - nI (8 * (i % 4)) = nI (24 - 8 * (i % 4)) from pk_sub (a := 24) (by omega), show (isr y (nI (24 - 8 * (i % 4)))) &&& 255 = nI (bv y (i % 4)) from (byte_eq _).1, show nI i + 1 = nI (i + 1) from nI_add i 1, show nI (m + i) + 1 = nI (m + i + 1) from nI_add (m + i) 1]
    refine ⟨(nI (i + 1), upd t (m + i) (nI (bv (wsel x1 x2 x3 x4 x5 i) (i % 4))), upd u 2 (nI (m + i + 1))), ?_, _, _, rfl, rfl, fun k hk => ?_, fun p => ?_⟩
    · have hw : wsel x1 x2 x3 x4 x5 i = if i < 4 then x1 else if i < 8 then x2 else if i < 12 then x3 else if i < 16 then x4 else x5 := rfl
      unfold fX9_feed_B23
      simp only
      rw [if_neg (show ¬ (20 : Int32) ≤ nI i from (show ¬ nI 20 ≤ nI i by rw [nI_leI (by omega) (by omega)]; omega))]
      by_cases q1 : i < 4
      · rw [if_neg (show ¬ (4 : Int32) ≤ nI i from (show ¬ nI 4 ≤ nI i by rw [nI_leI (by omega) (by omega)]; omega)), J76 x1 (by rw [hw, if_pos q1])]
        rw [hw, if_pos q1]
      · rw [if_pos (show (4 : Int32) ≤ nI i from (show nI 4 ≤ nI i by rw [nI_leI (by omega) (by omega)]; omega))]
        by_cases q2 : i < 8
        · rw [if_neg (show ¬ (8 : Int32) ≤ nI i from (show ¬ nI 8 ≤ nI i by rw [nI_leI (by omega) (by omega)]; omega)), J76 x2 (by rw [hw, if_neg q1, if_pos q2])]
          rw [hw, if_neg q1, if_pos q2]
        · rw [if_pos (show (8 : Int32) ≤ nI i from (show nI 8 ≤ nI i by rw [nI_leI (by omega) (by omega)]; omega))]
          by_cases q3 : i < 12
          · rw [if_neg (show ¬ (12 : Int32) ≤ nI i from (show ¬ nI 12 ≤ nI i by rw [nI_leI (by omega) (by omega)]; omega)), J76 x3 (by rw [hw, if_neg q1, if_neg q2, if_pos q3])]
            rw [hw, if_neg q1, if_neg q2, if_pos q3]
          · rw [if_pos (show (12 : Int32) ≤ nI i from (show nI 12 ≤ nI i by rw [nI_leI (by omega) (by omega)]; omega))]
            by_cases q4 : i < 16
            · rw [if_neg (show ¬ (16 : Int32) ≤ nI i from (show ¬ nI 16 ≤ nI i by rw [nI_leI (by omega) (by omega)]; omega)), J76 x4 (by rw [hw, if_neg q1, if_neg q2, if_neg q3, if_pos q4])]
              rw [hw, if_neg q1, if_neg q2, if_neg q3, if_pos q4]
            · rw [if_pos (show (16 : Int32) ≤ nI i from (show nI 16 ≤ nI i by rw [nI_leI (by omega) (by omega)]; omega)), J76 x5 (by rw [hw, if_neg q1, if_neg q2, if_neg q3, if_neg q4])]
              rw [hw, if_neg q1, if_neg q2, if_neg q3, if_neg q4]
    · rw [upd_ne hk]
      exact huo k hk
    · by_cases e : p = m + i
      · rw [e, upd_eq, if_pos (by omega), show m + i - m = i by omega]
      · rw [upd_ne e, ht p]
        by_cases q : m ≤ p ∧ p < m + i
        · rw [if_pos q, if_pos (by omega)]
        · rw [if_neg q, if_neg (by omega)]
  · rintro s ⟨t, u, rfl, hu2, huo, ht⟩
    refine ⟨(nI (m + 20), u, t), ?_, u, t, rfl, hu2, huo, ht⟩
    unfold fX9_feed_B23
    simp only
    rw [if_pos (show (20 : Int32) ≤ nI 20 by decide), hu2]
    rfl
  · obtain ⟨e, v', tm', hr, q⟩ := hr
    exact ⟨v', tm', e.trans (congrArg some hr), q⟩
theorem R_feed (hr : RLn vN vR tc vH vU mn mp mf plc ut uc un uw fc kd sz d1 d2 wd srt nxt vD now past ims vB rn vM tm rr st und kp) (j : Int64) (x1 x2 x3 x4 x5 : Int32) : ∃ r vR' tc' vM' tm', fX8_feed vN j vR tc x1 x2 x3 x4 x5 = some (r, vR', tc') ∧ fX9_feed vM tm x1 x2 x3 x4 x5 = some (r, vM', tm') ∧ RLn vN vR' tc' vH vU mn mp mf plc ut uc un uw fc kd sz d1 d2 wd srt nxt vD now past ims vB rn vM' tm' rr st und kp := by
  obtain ⟨⟨r6, r7, r8⟩, ⟨nT, tb, t1, t2, t3, t4⟩, q⟩ := id hr
  by_cases hroom : nT + 20 ≤ 900
  · obtain ⟨a1, b1, e1, g1, f1⟩ := c_append (j := j) (tc := tc) t2 (by omega) x1
    obtain ⟨a2, b2, e2, g2, f2⟩ := c_append (j := j) (tc := b1) g1 (by omega) x2
    obtain ⟨a3, b3, e3, g3, f3⟩ := c_append (j := j) (tc := b2) g2 (by omega) x3
    obtain ⟨a4, b4, e4, g4, f4⟩ := c_append (j := j) (tc := b3) g3 (by omega) x4
    obtain ⟨a5, b5, e5, g5, f5⟩ := c_append (j := j) (tc := b4) g4 (by omega) x5
    obtain ⟨v', tm', em, m2, mo, ft⟩ := m_feedLoop (tm := tm) (v := upd vM 0 0) (show upd vM 0 0 2 = nI nT from t3) hroom x1 x2 x3 x4 x5
    refine ⟨nI (nT + 20), a5, b5, v', tm', ?_, ?_, ⟨by rw [mo 11 (by omega)]; exact r6, by rw [mo 9 (by omega)]; exact r7, fun e => ?_⟩, ⟨nT + 20, fun p => if p < nT then tb p else bv (wsel x1 x2 x3 x4 x5 (p - nT)) ((p - nT) % 4), hroom, g5, m2, hroom, fun p hp => ?_⟩, ?_⟩
    · unfold fX8_feed fX5_hasRoom
      rw [t2, show nI nT + 20 = nI (nT + 20) from nI_add nT 20, if_neg (show ¬ (900 : Int32) < nI (nT + 20) from (show ¬ nI 900 < nI (nT + 20) by rw [nI_ltI (by omega) (by omega)]; omega)), show fX5_hasRoom_J17 1 = some (nI 1) from rfl, bdS, if_neg nz1, e1, bdS]
      simp only
      rw [e2, bdS]
      simp only
      rw [e3, bdS]
      simp only
      rw [e4, bdS]
      simp only
      rw [e5, bdS]
      simp only
      rw [show fX5_count j a5 = some (a5 1) from rfl, bdS, g5]
    · unfold fX9_feed
      rw [t3, show nI nT + 20 = nI (nT + 20) from nI_add nT 20, if_pos (show nI (nT + 20) ≤ 900 from (show nI (nT + 20) ≤ nI 900 by rw [nI_leI (by omega) (by omega)]; omega))]
      exact em
    · rw [mo 11 (by omega)] at e
      rw [mo 10 (by omega)]
      exact r8 e
    · by_cases q1 : p < nT
      · obtain ⟨z1, z2, z3⟩ := t4.2 p q1
        simp only [q1, if_true]
        refine ⟨z1, ?_, ?_⟩
        · rw [f5 p, if_neg (by omega), f4 p, if_neg (by omega), f3 p, if_neg (by omega), f2 p, if_neg (by omega), f1 p, if_neg (by omega)]
          exact z2
        · rw [ft p, if_neg (by omega)]
          exact z3
      · simp only [q1, if_false]
        refine ⟨bv_lt _ _, ?_, ?_⟩
        · unfold wsel
          rcases (show p - nT < 4 ∨ (4 ≤ p - nT ∧ p - nT < 8) ∨ (8 ≤ p - nT ∧ p - nT < 12) ∨ (12 ≤ p - nT ∧ p - nT < 16) ∨ (16 ≤ p - nT ∧ p - nT < 20) by omega) with z | z | z | z | z
          · rw [if_pos z, f5 p, if_neg (by omega), f4 p, if_neg (by omega), f3 p, if_neg (by omega), f2 p, if_neg (by omega), f1 p, if_pos (by omega), show (p - nT) % 4 = p - nT by omega]
          · rw [if_neg (by omega), if_pos (by omega), f5 p, if_neg (by omega), f4 p, if_neg (by omega), f3 p, if_neg (by omega), f2 p, if_pos (by omega), show (p - nT) % 4 = p - (nT + 4) by omega]
          · rw [if_neg (by omega), if_neg (by omega), if_pos (by omega), f5 p, if_neg (by omega), f4 p, if_neg (by omega), f3 p, if_pos (by omega), show (p - nT) % 4 = p - (nT + 4 + 4) by omega]
          · rw [if_neg (by omega), if_neg (by omega), if_neg (by omega), if_pos (by omega), f5 p, if_neg (by omega), f4 p, if_pos (by omega), show (p - nT) % 4 = p - (nT + 4 + 4 + 4) by omega]
          · rw [if_neg (by omega), if_neg (by omega), if_neg (by omega), if_neg (by omega), f5 p, if_pos (by omega), show (p - nT) % 4 = p - (nT + 4 + 4 + 4 + 4) by omega]
        · rw [ft p, if_pos (by omega)]
    · rcases q with hn | ⟨h, c, hs⟩
      · exact Or.inl ⟨by rw [mo 14 (by omega)]; exact hn.1, by rw [mo 20 (by omega)]; exact hn.2.1, by rw [mo 21 (by omega)]; exact hn.2.2.1, hn.2.2.2⟩
      · exact Or.inr ⟨h, c, RS_m hs (by rw [mo 14 (by omega)]; rfl) (by rw [mo 20 (by omega)]; rfl) (by rw [mo 21 (by omega)]; rfl)⟩
  · refine ⟨-1, vR, tc, upd vM 0 0, tm, ?_, ?_, RL_0 hr 0⟩
    · unfold fX8_feed fX5_hasRoom
      rw [t2, show nI nT + 20 = nI (nT + 20) from nI_add nT 20, if_pos (show (900 : Int32) < nI (nT + 20) from (show nI 900 < nI (nT + 20) by rw [nI_ltI (by omega) (by omega)]; omega))]
      rfl
    · unfold fX9_feed
      rw [t3, show nI nT + 20 = nI (nT + 20) from nI_add nT 20, if_neg (show ¬ nI (nT + 20) ≤ 900 from (show ¬ nI (nT + 20) ≤ nI 900 by rw [nI_leI (by omega) (by omega)]; omega))]
end RQ6
