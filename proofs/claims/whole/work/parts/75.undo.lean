/-! MATH 55: nights that go by, undoing, images, on both sides (written by gen/g75.py) -/
section RQ5
variable {vN vR tc vH vU mn mp mf plc ut uc un uw fc kd sz d1 d2 wd srt nxt vD now vB rn vM tm rr st und kp : Nat → Int32} {past ims : Nat → Nat → Int32} {h c : Nat → Nat}
theorem R_night (hr : RLn vN vR tc vH vU mn mp mf plc ut uc un uw fc kd sz d1 d2 wd srt nxt vD now past ims vB rn vM tm rr st und kp) (aH : Nat) (aW : Nat) (vW : Nat → Int32) (who : Nat → Int32) (cl : Nat → Int32) (fro : Nat → Int32)  : ∃ r vN' vM' vD' now' past' vW' who' cl' fro' a' st' und', fX8_night aH aW vN vH vD now past vW who kd cl srt nxt fro sz wd = some (r, vN', vD', now', past', vW', who', cl', fro', a') ∧ fX9_night vM st und rr = some (r, vM', st', und') ∧ RLn vN' vR tc vH vU mn mp mf plc ut uc un uw fc kd sz d1 d2 wd srt nxt vD' now' past' ims vB rn vM' tm rr st' und' kp := by
  rcases id hr.2.2 with hn | ⟨h, c, hs⟩
  · refine ⟨-1, upd vN 6 1, upd (upd (upd vM 0 0) 11 0) 11 1, vD, now, past, vW, who, cl, fro, aW, st, und, ?_, ?_, RL_q hr (tr := nI 1) (by decide) (MA_no vM 1)⟩
    · unfold fX8_night
      rw [c_stands_f (hn.2.2.2.1 2 (by omega)), bdS, if_pos z0]
      rfl
    · unfold fX9_night
      rw [m_gd, bdS, if_pos (show upd (upd vM 0 0) 11 0 14 = 0 from hn.1)]
      rfl
  · have h3 := hs.1.1.2.2.2.2.1
    have hG := hs.2.2.2.2.1
    have hw := RS_wf hs
    have n14 : ¬ upd (upd vM 0 0) 11 0 14 = 0 := by rw [m141 hs]; decide
    have n8 : now 8 = nI (c 8) := hs.2.2.2.2.2.1.2.2
    have s8 : st (8 : Int32).toNatClampNeg = nI (c 8) := hs.2.2.2.2.2.2.2.1 8 (by omega)
    have hnn : fX1_nightNow vD now = some (nI (c 8)) := by
      show some (now 8) = _
      rw [n8]
    have c8 := hG.2.2
    by_cases q9 : c 8 = 999
    · refine ⟨-1, upd vN 6 3, upd (upd (upd vM 0 0) 11 0) 11 3, vD, now, past, vW, who, cl, fro, aW, st, und, ?_, ?_, RL_q hr (tr := nI 3) (by decide) (MA_no vM 3)⟩
      · unfold fX8_night
        rw [cS1 hs, bdS, if_neg nz1, hnn, bdS, if_neg (show ¬ nI (c 8) < 999 from (show ¬ nI (c 8) < nI 999 by rw [nI_ltI (by omega) (by omega)]; omega))]
        rfl
      · unfold fX9_night
        rw [m_gd, bdS, if_neg n14, show okI (8 : Int32) 9 = true from rfl, gdT, s8, if_pos (show nI (c 8) = 999 by rw [q9]; rfl)]
        rfl
    · obtain ⟨vD', past', v', und', e1, e2, d1, d2, hU⟩ := keep_note (v := upd (upd vM 0 0) 11 0) h3 hG hs.2.2.2.2.2.1 hs.2.2.2.2.2.2.2.1 hs.2.2.2.2.2.2.2.2.2.2.1 rfl
      obtain ⟨st', e3, hst'⟩ := m_nightOf (vM := v') hw hs.2.2.2.2.2.2.1 hs.2.2.2.2.2.2.2.1 hG.1
      have cx := RS_CX hs
      obtain ⟨vW1, who1, cl1, f1, w1, -⟩ := c_start0 (vW := vW) (vD := vD') (who := who) (cl := cl) cx
      obtain ⟨vW2, cl2, who2, fro2, f2, w2, w12, -, -⟩ := c_pass0 (fro := fro) hw cx.2.1 hG.1 hG.2.1 w1
      have v5 : vH 5 = nI (h 3) := hs.2.2.2.1.1.2.2.2.2.2.1
      -- the class moves them one by one
      have hlp : ∃ now', lp (fX8_night_B68 aH vN vH) 5000 (nI 0, now, past', cl2, fro2, who2, vD', vW2) = some (nI (bm (going h c) (h 3)), upd vN 6 0, vD', now', past', vW2, who2, cl2, fro2, aH) ∧ DR h (stepN h c) now' := by
        refine Exists.elim (lp_inv (f := fX8_night_B68 aH vN vH) (fun i s => ∃ nw, s = (nI i, nw, past', cl2, fro2, who2, vD', vW2) ∧ (∀ t, t < i → nw t = nI (stepN h c t)) ∧ nw 7 = nI (c 7) ∧ nw 8 = nI (c 8)) (fun res => ∃ now', res = (nI (bm (going h c) (h 3)), upd vN 6 0, vD', now', past', vW2, who2, cl2, fro2, aH) ∧ DR h (stepN h c) now') (h 3) ?_ ?_ 5000 0 (nI 0, now, past', cl2, fro2, who2, vD', vW2) (Nat.zero_le _) ⟨now, rfl, fun t ht => by omega, hs.2.2.2.2.2.1.2.1, n8⟩ (by omega)) (fun res hr => ?_)
        · rintro i s hi ⟨nw, rfl, q1, q2, q3⟩
          left
          have hmv : fX1_move vD' nw (nI i) (nI (stepN h c i)) = some (upd nw i (nI (stepN h c i))) := by
            unfold fX1_move fX1_move_J17
            rw [if_neg (show ¬ nI i < 0 from nI_pos (by omega)), if_neg (show ¬ (7 : Int32) ≤ nI i from (show ¬ nI 7 ≤ nI i by rw [nI_leI (by omega) (by omega)]; omega)), ok_nI (by omega) (by omega), gdT, nI_clamp (by omega)]
          refine ⟨(nI (i + 1), upd nw i (nI (stepN h c i)), past', cl2, fro2, who2, vD', vW2), ?_, _, rfl, fun t ht => ?_, ?_, ?_⟩
          · unfold fX8_night_B68
            simp only
            rw [v5, if_neg (show ¬ nI (h 3) ≤ nI i by rw [nI_leI (by omega) (by omega)]; omega), c_wcell h3 w2 hi, bdS, hmv, bdS, show nI i + 1 = nI (i + 1) from nI_add i 1]
          · by_cases e : t = i
            · rw [e, upd_eq]
            · rw [upd_ne e]
              exact q1 t (by omega)
          · rw [upd_ne (by omega)]
            exact q2
          · rw [upd_ne (by omega)]
            exact q3
        · rintro s ⟨nw, rfl, q1, q2, q3⟩
          refine ⟨(nI (bm (going h c) (h 3)), upd vN 6 0, vD', upd nw 8 (nI (c 8 + 1)), past', vW2, who2, cl2, fro2, aH), ?_, _, rfl, fun t ht => ?_, ?_, ?_⟩
          · unfold fX8_night_B68
            simp only
            rw [v5, if_pos (show nI (h 3) ≤ nI (h 3) by rw [nI_leI (by omega) (by omega)]; exact Nat.le_refl _), show fX1_nextNight vD' nw = some (upd nw 8 (nI (c 8 + 1))) by show some (upd nw 8 (nw 8 + 1)) = _; rw [q3, show nI (c 8) + 1 = nI (c 8 + 1) from nI_add (c 8) 1], bdS, show fX6_went vW2 = some (vW2 12) from rfl, bdS, w12]
            rfl
          · rw [upd_ne (by omega)]
            exact q1 t ht
          · rw [upd_ne (by omega), q2]
            unfold stepN
            rw [nr_7 h3]
          · rw [upd_eq]
            unfold stepN
            rw [nr_8 h3]
        · obtain ⟨e, nw, hr, q⟩ := hr
          exact ⟨nw, e.trans (congrArg some hr), q⟩
      obtain ⟨now', f3, hD'⟩ := hlp
      have c81 : c 8 + 1 < 100000 := by omega
      refine ⟨nI (bm (going h c) (h 3)), upd vN 6 0, v', vD', now', past', vW2, who2, cl2, fro2, aH, st', und', ?_, ?_, RL_act (c' := stepN h c) hr (tr := nI 0) (by decide) (by rw [d2 11 (by omega)]; rfl) (by rw [d2 9 (by omega)]; rfl) (by rw [d2 2 (by omega)]; rfl) (RS_c hs ⟨nr_ok hw hG.1 c81, nr_inj hw hG.1 hG.2.1 (own h c), ?_⟩ hD' hst' ?_ hU (IM_k (d1 5 (by omega) (by omega)) (by rw [d2 21 (by omega)]; rfl) hs.2.2.2.2.2.2.2.2.2.2.2))⟩
      · unfold fX8_night
        rw [cS1 hs, bdS, if_neg nz1, hnn, bdS, if_pos (show nI (c 8) < 999 from (show nI (c 8) < nI 999 by rw [nI_ltI (by omega) (by omega)]; omega)), e1, bdS]
        simp only
        rw [show fX6_start vW vD' now who vH kd cl srt 0 = some (vW1, who1, cl1) from f1, bdS]
        simp only
        rw [show fX6_pass vW1 vH cl1 nxt who1 fro sz wd kd 0 = some (vW2, cl2, who2, fro2) from f2, bdS]
        exact f3
      · unfold fX9_night
        rw [m_gd, bdS, if_neg n14, show okI (8 : Int32) 9 = true from rfl, gdT, s8, if_neg (show ¬ nI (c 8) = 999 from (show ¬ nI (c 8) = nI 999 by rw [nI_eq (by omega) (by omega)]; exact q9)), e2, bdS]
        simp only
        rw [e3, bdS]
      · show nightRow h c _ 8 ≤ 999
        rw [nr_8 h3]
        omega
      · rw [d2 14 (by omega)]
        exact hs.2.2.2.2.2.2.2.2.2.1
theorem R_undo (hr : RLn vN vR tc vH vU mn mp mf plc ut uc un uw fc kd sz d1 d2 wd srt nxt vD now past ims vB rn vM tm rr st und kp)   : ∃ r vN' vM' vD' now' st', fX8_undo vN vD past now = some (r, vN', vD', now') ∧ fX9_undo vM und st = some (r, vM', st') ∧ RLn vN' vR tc vH vU mn mp mf plc ut uc un uw fc kd sz d1 d2 wd srt nxt vD' now' past ims vB rn vM' tm rr st' und kp := by
  have hno : vD 3 = nI 0 → vM 20 = nI 0 → ∃ r vN' vM' vD' now' st', fX8_undo vN vD past now = some (r, vN', vD', now') ∧ fX9_undo vM und st = some (r, vM', st') ∧ RLn vN' vR tc vH vU mn mp mf plc ut uc un uw fc kd sz d1 d2 wd srt nxt vD' now' past ims vB rn vM' tm rr st' und kp := by
    intro d3 m20
    refine ⟨nI 0, upd vN 6 6, upd (upd (upd vM 0 0) 11 0) 11 6, vD, now, st, ?_, ?_, RL_q hr (tr := nI 6) (by decide) (MA_no vM 6)⟩
    · unfold fX8_undo fX1_takeBack
      rw [d3, if_neg (show ¬ (0 : Int32) < nI 0 by decide)]
      rfl
    · unfold fX9_undo
      rw [m_gd, bdS, if_pos (show upd (upd vM 0 0) 11 0 20 = 0 from m20)]
      rfl
  rcases id hr.2.2 with hn | ⟨h, c, hs⟩
  · exact hno hn.2.2.2.2.2.1 hn.2.1
  · obtain ⟨K, p, cs, hK, hp, d3, d4, m20, hq⟩ := hs.2.2.2.2.2.2.2.2.2.2.1
    have h3 := hs.1.1.2.2.2.2.1
    by_cases k0 : K = 0
    · rw [k0] at d3 m20
      exact hno d3 m20
    · obtain ⟨g1, g2, g3⟩ := hq 0 (by omega)
      obtain ⟨p', ep, hp'⟩ := m_copy (n0 := 144) (n2 := 9) (a := 9 * (K - 1)) (b := 0) (k := 9) (p0 := und) (p2 := st) (by omega) (by omega) (by omega) (by omega)
      have hcp : ∀ k, k < 9 → va_cpy (past ((p + 15) % 16)) now 0 0 9 k = past ((p + 15) % 16) k := fun k hk => by
        unfold va_cpy
        rw [if_pos (by omega)]
        congr 1
        omega
      have hC : fX1_takeBack vD past now = some (nI 1, upd (upd vD 3 (nI (K - 1))) 4 (nI ((p + 15) % 16)), va_cpy (past ((p + 15) % 16)) now 0 0 9) := by
        have J37 : ∀ t, t < 16 → t = (p + 15) % 16 → fX1_takeBack_J37 vD past now (nI t) = some (nI 1, upd (upd vD 3 (nI (K - 1))) 4 (nI ((p + 15) % 16)), va_cpy (past ((p + 15) % 16)) now 0 0 9) := by
          intro t ht et
          unfold fX1_takeBack_J37
          rw [ok_nI ht (by omega), gdT, nI_clamp (by omega), d3, show nI K - 1 = nI (K - 1) from pk_sub (b := 1) (by omega), ← et]
          rfl
        unfold fX1_takeBack
        rw [d3, d4, if_pos (show (0 : Int32) < nI K from (show nI 0 < nI K by rw [nI_ltI (by omega) (by omega)]; omega))]
        by_cases pz : p = 0
        · rw [if_pos (show nI p ≤ 0 by rw [pz]; decide)]
          exact J37 15 (by omega) (by omega)
        · rw [if_neg (show ¬ nI p ≤ 0 from (show ¬ nI p ≤ nI 0 by rw [nI_leI (by omega) (by omega)]; omega)), if_neg (show ¬ (16 : Int32) ≤ nI p from (show ¬ nI 16 ≤ nI p by rw [nI_leI (by omega) (by omega)]; omega)), show nI p - 1 = nI (p - 1) from pk_sub (b := 1) (by omega)]
          exact J37 (p - 1) (by omega) (by omega)
      refine ⟨nI 1, upd vN 6 0, upd (upd (upd vM 0 0) 11 0) 20 (nI (K - 1)), upd (upd vD 3 (nI (K - 1))) 4 (nI ((p + 15) % 16)), va_cpy (past ((p + 15) % 16)) now 0 0 9, p', ?_, ?_, RL_act (c' := cs 0) hr (tr := nI 0) (by decide) rfl rfl rfl (RS_c hs g1 ⟨fun t ht => ?_, ?_, ?_⟩ (fun k hk => ?_) hs.2.2.2.2.2.2.2.2.2.1 ⟨K - 1, (p + 15) % 16, fun i => cs (i + 1), by omega, by omega, rfl, rfl, rfl, fun i hi => ?_⟩ (IM_k rfl rfl hs.2.2.2.2.2.2.2.2.2.2.2))⟩
      · unfold fX8_undo
        rw [hC, bdS]
        rfl
      · unfold fX9_undo
        rw [m_gd, bdS, show upd (upd vM 0 0) 11 0 20 = nI K from m20, if_neg (nI_ne0 (by omega) (by omega)), show nI K - 1 = nI (K - 1) from pk_sub (b := 1) (by omega), show (9 : Int32) * nI (K - 1) = nI (9 * (K - 1)) from pk_mul 9 (K - 1), show fX9_copy 144 und 9 st (nI (9 * (K - 1))) 0 9 = some p' from ep, bdS]
        rfl
      · rw [hcp t (by omega)]
        exact g2.1 t ht
      · rw [hcp 7 (by omega)]
        exact g2.2.1
      · rw [hcp 8 (by omega)]
        exact g2.2.2
      · rw [hp' k, if_pos (by omega), ← g3 k hk]
        congr 1
      · obtain ⟨f1, f2, f3⟩ := hq (i + 1) (by omega)
        refine ⟨f1, ?_, fun k hk => ?_⟩
        · rw [show ((p + 15) % 16 + 15 - i) % 16 = (p + 15 - (i + 1)) % 16 by omega]
          exact f2
        · rw [← f3 k hk]
          congr 1
          omega
theorem R_image (hr : RLn vN vR tc vH vU mn mp mf plc ut uc un uw fc kd sz d1 d2 wd srt nxt vD now past ims vB rn vM tm rr st und kp)   : ∃ r vN' vM' vD' ims' kp', fX8_image vN vH vD ims now = some (r, vN', vD', ims') ∧ fX9_image vM st kp = some (r, vM', kp') ∧ RLn vN' vR tc vH vU mn mp mf plc ut uc un uw fc kd sz d1 d2 wd srt nxt vD' now past ims' vB rn vM' tm rr st und kp' := by
  rcases id hr.2.2 with hn | ⟨h, c, hs⟩
  · refine ⟨-1, upd vN 6 1, upd (upd (upd vM 0 0) 11 0) 11 1, vD, ims, kp, ?_, ?_, RL_q hr (tr := nI 1) (by decide) (MA_no vM 1)⟩
    · unfold fX8_image
      rw [c_stands_f (hn.2.2.2.1 2 (by omega)), bdS, if_pos z0]
      rfl
    · unfold fX9_image
      rw [m_gd, bdS, if_pos (show upd (upd vM 0 0) 11 0 14 = 0 from hn.1)]
      rfl
  · obtain ⟨K, cs, hK, d5, m21, hq⟩ := hs.2.2.2.2.2.2.2.2.2.2.2
    have h3 := hs.1.1.2.2.2.2.1
    have n14 : ¬ upd (upd vM 0 0) 11 0 14 = 0 := by rw [m141 hs]; decide
    by_cases k3 : K = 3
    · refine ⟨-1, upd vN 6 3, upd (upd (upd vM 0 0) 11 0) 11 3, vD, ims, kp, ?_, ?_, RL_q hr (tr := nI 3) (by decide) (MA_no vM 3)⟩
      · unfold fX8_image fX1_takeImage
        rw [cS1 hs, bdS, if_neg nz1, d5, k3, if_neg (show ¬ nI 3 < 0 by decide), if_neg (show ¬ nI 3 < 3 by decide)]
        rfl
      · unfold fX9_image
        rw [m_gd, bdS, if_neg n14, show upd (upd vM 0 0) 11 0 21 = nI K from m21, k3, if_pos (show nI 3 = 3 from rfl)]
        rfl
    · obtain ⟨p', ep, hp'⟩ := m_copy (n0 := 9) (n2 := 27) (a := 0) (b := 9 * K) (k := 9) (p0 := st) (p2 := kp) (by omega) (by omega) (by omega) (by omega)
      have hcp : ∀ k, k < 9 → va_cpy now (ims K) 0 0 9 k = now k := fun k hk => by
        unfold va_cpy
        rw [if_pos (by omega)]
        congr 1
        omega
      refine ⟨nI K, upd vN 6 0, upd (upd (upd vM 0 0) 11 0) 21 (nI (K + 1)), upd vD 5 (nI (K + 1)), va_up ims K (va_cpy now (ims K) 0 0 9), p', ?_, ?_, RL_act (c' := c) hr (tr := nI 0) (by decide) rfl rfl rfl (RS_c hs hs.2.2.2.2.1 hs.2.2.2.2.2.1 hs.2.2.2.2.2.2.2.1 hs.2.2.2.2.2.2.2.2.2.1 ?_ ⟨K + 1, fun i => if i = K then c else cs i, by omega, rfl, rfl, fun i hi => ?_⟩)⟩
      · unfold fX8_image fX1_takeImage
        rw [cS1 hs, bdS, if_neg nz1, d5, if_neg (show ¬ nI K < 0 from nI_pos (by omega)), if_pos (show nI K < 3 from (show nI K < nI 3 by rw [nI_ltI (by omega) (by omega)]; omega)), ok_nI (by omega) (by omega), gdT, nI_clamp (by omega), show nI K + 1 = nI (K + 1) from nI_add K 1, show nI (K + 1) - 1 = nI K from pk_sub (a := K + 1) (b := 1) (by omega), bdS]
        simp only
        rw [if_pos (show (0 : Int32) ≤ nI K from (show nI 0 ≤ nI K by rw [nI_leI (by omega) (by omega)]; omega))]
        rfl
      · unfold fX9_image
        rw [m_gd, bdS, if_neg n14, show upd (upd vM 0 0) 11 0 21 = nI K from m21, if_neg (show ¬ nI K = 3 from (show ¬ nI K = nI 3 by rw [nI_eq (by omega) (by omega)]; exact k3)), show (9 : Int32) * nI K = nI (9 * K) from pk_mul 9 K, show fX9_copy 9 st 27 kp 0 (nI (9 * K)) 9 = some p' from ep, bdS, show nI K + 1 = nI (K + 1) from nI_add K 1, show nI (K + 1) - 1 = nI K from pk_sub (a := K + 1) (b := 1) (by omega)]
      · obtain ⟨K', p, cs', hK', hp, d3, d4, m20, hq'⟩ := hs.2.2.2.2.2.2.2.2.2.2.1
        exact ⟨K', p, cs', hK', hp, d3, d4, m20, hq'⟩
      · by_cases e : i = K
        · simp only [e, if_true]
          refine ⟨hs.2.2.2.2.1, ?_, fun k hk => ?_⟩
          · rw [va_up_self]
            exact ⟨fun t ht => by rw [hcp t (by omega)]; exact hs.2.2.2.2.2.1.1 t ht, by rw [hcp 7 (by omega)]; exact hs.2.2.2.2.2.1.2.1, by rw [hcp 8 (by omega)]; exact hs.2.2.2.2.2.1.2.2⟩
          · rw [hp', if_pos (by omega), ← hs.2.2.2.2.2.2.2.1 k hk]
            congr 1
            omega
        · obtain ⟨f1, f2, f3⟩ := hq i (by omega)
          simp only [e, if_false]
          refine ⟨f1, ?_, fun k hk => ?_⟩
          · rw [va_up_ne ims _ e]
            exact f2
          · rw [hp', if_neg (by omega)]
            exact f3 k hk
theorem R_back (hr : RLn vN vR tc vH vU mn mp mf plc ut uc un uw fc kd sz d1 d2 wd srt nxt vD now past ims vB rn vM tm rr st und kp)  (x : Int32) : ∃ r vN' vM' vD' now' st', fX8_back vN vD ims now x = some (r, vN', vD', now') ∧ fX9_back vM kp st x = some (r, vM', st') ∧ RLn vN' vR tc vH vU mn mp mf plc ut uc un uw fc kd sz d1 d2 wd srt nxt vD' now' past ims vB rn vM' tm rr st' und kp := by
  have hno : ∀ K : Nat, K ≤ 3 → vD 5 = nI K → vM 21 = nI K → (x < 0 ∨ nI K ≤ x) → ∃ r vN' vM' vD' now' st', fX8_back vN vD ims now x = some (r, vN', vD', now') ∧ fX9_back vM kp st x = some (r, vM', st') ∧ RLn vN' vR tc vH vU mn mp mf plc ut uc un uw fc kd sz d1 d2 wd srt nxt vD' now' past ims vB rn vM' tm rr st' und kp := by
    intro K hK d5 m21 hx
    refine ⟨nI 0, upd vN 6 1, upd (upd (upd vM 0 0) 11 0) 11 1, vD, now, st, ?_, ?_, RL_q hr (tr := nI 1) (by decide) (MA_no vM 1)⟩
    · unfold fX8_back fX1_returnTo
      rw [d5]
      rcases hx with hx | hx
      · rw [if_pos hx]
        rfl
      · rw [if_neg (show ¬ x < 0 from ge_nneg (by omega) hx), if_pos hx]
        rfl
    · unfold fX9_back
      rw [m_gd, bdS, show upd (upd vM 0 0) 11 0 21 = nI K from m21, show fX9_in x 0 (nI K - 1) = some (nI 0) from m_in_f (n := K) (by omega) hx, bdS, if_pos z0]
      rfl
  rcases id hr.2.2 with hn | ⟨h, c, hs⟩
  · refine hno 0 (by omega) hn.2.2.2.2.2.2.1 hn.2.2.1 ?_
    by_cases q : x < 0
    · exact Or.inl q
    · refine Or.inr ?_
      rw [Int32.le_iff_toInt_le]
      rw [Int32.lt_iff_toInt_lt] at q
      have : (0 : Int32).toInt = 0 := by decide
      have : (nI 0).toInt = 0 := by decide
      omega
  · obtain ⟨K, cs, hK, d5, m21, hq⟩ := hs.2.2.2.2.2.2.2.2.2.2.2
    have h3 := hs.1.1.2.2.2.2.1
    rcases i32_or x K (by omega) with ⟨i, hi, rfl⟩ | hx
    · obtain ⟨g1, g2, g3⟩ := hq i hi
      obtain ⟨p', ep, hp'⟩ := m_copy (n0 := 27) (n2 := 9) (a := 9 * i) (b := 0) (k := 9) (p0 := kp) (p2 := st) (by omega) (by omega) (by omega) (by omega)
      have hcp : ∀ k, k < 9 → va_cpy (ims i) now 0 0 9 k = ims i k := fun k hk => by
        unfold va_cpy
        rw [if_pos (by omega)]
        congr 1
        omega
      obtain ⟨K', p, cs', hK', hp, d3, d4, m20, hq'⟩ := hs.2.2.2.2.2.2.2.2.2.2.1
      refine ⟨nI 1, upd vN 6 0, upd (upd (upd vM 0 0) 11 0) 20 0, upd vD 3 0, va_cpy (ims i) now 0 0 9, p', ?_, ?_, RL_act (c' := cs i) hr (tr := nI 0) (by decide) rfl rfl rfl (RS_c hs g1 ⟨fun t ht => ?_, ?_, ?_⟩ (fun k hk => ?_) hs.2.2.2.2.2.2.2.2.2.1 ⟨0, p, cs', by omega, hp, rfl, d4, rfl, fun j hj => absurd hj (Nat.not_lt_zero j)⟩ (IM_k rfl rfl hs.2.2.2.2.2.2.2.2.2.2.2))⟩
      · unfold fX8_back fX1_returnTo
        rw [d5, if_neg (show ¬ nI i < 0 from nI_pos (by omega)), if_neg (show ¬ nI K ≤ nI i by rw [nI_leI (by omega) (by omega)]; omega), if_pos (show nI i < 3 from (show nI i < nI 3 by rw [nI_ltI (by omega) (by omega)]; omega)), ok_nI (by omega) (by omega), gdT, nI_clamp (by omega)]
        rfl
      · unfold fX9_back
        rw [m_gd, bdS, show upd (upd vM 0 0) 11 0 21 = nI K from m21, show fX9_in (nI i) 0 (nI K - 1) = some (nI 1) from m_in_t (n := K) (by omega) hi, bdS, if_neg nz1, show (9 : Int32) * nI i = nI (9 * i) from pk_mul 9 i, show fX9_copy 27 kp 9 st (nI (9 * i)) 0 9 = some p' from ep, bdS]
        rfl
      · rw [hcp t (by omega)]
        exact g2.1 t ht
      · rw [hcp 7 (by omega)]
        exact g2.2.1
      · rw [hcp 8 (by omega)]
        exact g2.2.2
      · rw [hp' k, if_pos (by omega), ← g3 k hk]
        congr 1
    · exact hno K hK d5 m21 hx
end RQ5
