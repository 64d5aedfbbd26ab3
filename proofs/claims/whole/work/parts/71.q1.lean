/-! MATH 51: questions without arguments, on both sides (written by gen/g71.py) -/
section RQ1
variable {vN vR tc vH vU mn mp mf plc ut uc un uw fc kd sz d1 d2 wd srt nxt vD now vB rn vM tm rr st und kp : Nat → Int32} {past ims : Nat → Nat → Int32}
theorem RL_b {h c : Nat → Nat} {vB' : Nat → Int32} (hr : RLn vN vR tc vH vU mn mp mf plc ut uc un uw fc kd sz d1 d2 wd srt nxt vD now past ims vB rn vM tm rr st und kp) (hs : RSt h c vH vU mn mp mf plc ut uc un uw fc kd sz d1 d2 wd srt nxt vD now past ims vB rn vM rr st und kp) (hB : CB h vB' rn) : RLn vN vR tc vH vU mn mp mf plc ut uc un uw fc kd sz d1 d2 wd srt nxt vD now past ims vB' rn vM tm rr st und kp := by
  obtain ⟨a, b, q⟩ := hr
  obtain ⟨hP, h0, h2, hH, hG, hD, hrr, hst, -, q⟩ := hs
  exact ⟨a, b, Or.inr ⟨h, c, hP, h0, h2, hH, hG, hD, hrr, hst, hB, q⟩⟩
theorem R_goes (hr : RLn vN vR tc vH vU mn mp mf plc ut uc un uw fc kd sz d1 d2 wd srt nxt vD now past ims vB rn vM tm rr st und kp) (aH : Nat) (aW : Nat) (vW : Nat → Int32) (who : Nat → Int32) (cl : Nat → Int32) (fro : Nat → Int32) : ∃ r vN' vM' vW' who' cl' fro' a', fX8_goes aH aW vN vH vW vD now who kd cl srt nxt fro sz wd = some (r, vN', vW', who', cl', fro', a') ∧ fX9_goes vM rr st = some (r, vM') ∧ RLn vN' vR tc vH vU mn mp mf plc ut uc un uw fc kd sz d1 d2 wd srt nxt vD now past ims vB rn vM' tm rr st und kp := by
  rcases id hr.2.2 with hn | ⟨h, c, hs⟩
  · refine ⟨-1, upd vN 6 1, upd (upd (upd vM 0 0) 11 0) 11 1, vW, who, cl, fro, aW,  ?_, ?_, RL_q hr (tr := nI 1) (by decide) (MA_no vM 1)⟩
    · unfold fX8_goes
      rw [c_stands_f (hn.2.2.2.1 2 (by omega)), bdS, if_pos z0]
      rfl
    · unfold fX9_goes
      rw [m_gd, bdS, if_pos (show upd (upd vM 0 0) 11 0 14 = 0 from hn.1)]
      rfl
  · obtain ⟨vW', who', cl', fro', e1⟩ := C_goes (vN := vN) (vW := vW) (vD := vD) (who := who) (cl := cl) (fro := fro) (aH := aH) (aW := aW) (RS_CX hs)
    obtain ⟨vM', e2, hma⟩ := M_goes (RS_MX hs)
    exact ⟨_, _, vM', vW', who', cl', fro', _, e1, e2, RL_q hr (by decide) hma⟩
theorem R_blocked (hr : RLn vN vR tc vH vU mn mp mf plc ut uc un uw fc kd sz d1 d2 wd srt nxt vD now past ims vB rn vM tm rr st und kp) (aH : Nat) (aW : Nat) (vW : Nat → Int32) (who : Nat → Int32) (cl : Nat → Int32) (fro : Nat → Int32) : ∃ r vN' vM' vW' who' cl' fro' a', fX8_blocked aH aW vN vH vW vD now who kd cl srt nxt fro sz wd = some (r, vN', vW', who', cl', fro', a') ∧ fX9_blocked vM rr st = some (r, vM') ∧ RLn vN' vR tc vH vU mn mp mf plc ut uc un uw fc kd sz d1 d2 wd srt nxt vD now past ims vB rn vM' tm rr st und kp := by
  rcases id hr.2.2 with hn | ⟨h, c, hs⟩
  · refine ⟨-1, upd vN 6 1, upd (upd (upd vM 0 0) 11 0) 11 1, vW, who, cl, fro, aW,  ?_, ?_, RL_q hr (tr := nI 1) (by decide) (MA_no vM 1)⟩
    · unfold fX8_blocked
      rw [c_stands_f (hn.2.2.2.1 2 (by omega)), bdS, if_pos z0]
      rfl
    · unfold fX9_blocked
      rw [m_gd, bdS, if_pos (show upd (upd vM 0 0) 11 0 14 = 0 from hn.1)]
      rfl
  · obtain ⟨vW', who', cl', fro', e1⟩ := C_blocked (vN := vN) (vW := vW) (vD := vD) (who := who) (cl := cl) (fro := fro) (aH := aH) (aW := aW) (RS_CX hs)
    obtain ⟨vM', e2, hma⟩ := M_blocked (RS_MX hs)
    exact ⟨_, _, vM', vW', who', cl', fro', _, e1, e2, RL_q hr (by decide) hma⟩
theorem R_still (hr : RLn vN vR tc vH vU mn mp mf plc ut uc un uw fc kd sz d1 d2 wd srt nxt vD now past ims vB rn vM tm rr st und kp) (aH : Nat) (aW : Nat) (vW : Nat → Int32) (who : Nat → Int32) (cl : Nat → Int32) (fro : Nat → Int32) (trial : Nat → Int32) : ∃ r vN' vM' vW' who' cl' fro' a' trial', fX8_still aH aW vN vH vW vD now who kd cl srt nxt fro sz wd = some (r, vN', vW', who', cl', fro', a') ∧ fX9_still vM st trial rr = some (r, vM', trial') ∧ RLn vN' vR tc vH vU mn mp mf plc ut uc un uw fc kd sz d1 d2 wd srt nxt vD now past ims vB rn vM' tm rr st und kp := by
  rcases id hr.2.2 with hn | ⟨h, c, hs⟩
  · refine ⟨-1, upd vN 6 1, upd (upd (upd vM 0 0) 11 0) 11 1, vW, who, cl, fro, aW, trial,  ?_, ?_, RL_q hr (tr := nI 1) (by decide) (MA_no vM 1)⟩
    · unfold fX8_still
      rw [c_stands_f (hn.2.2.2.1 2 (by omega)), bdS, if_pos z0]
      rfl
    · unfold fX9_still
      rw [m_gd, bdS, if_pos (show upd (upd vM 0 0) 11 0 14 = 0 from hn.1)]
      rfl
  · obtain ⟨vW', who', cl', fro', e1⟩ := C_still (vN := vN) (vW := vW) (vD := vD) (who := who) (cl := cl) (fro := fro) (aH := aH) (aW := aW) (RS_CX hs)
    obtain ⟨vM', tr', e2, hma⟩ := M_still (trial := trial) (RS_MX hs)
    exact ⟨_, _, vM', vW', who', cl', fro', _, tr', e1, e2, RL_q hr (by decide) hma⟩
theorem R_period (hr : RLn vN vR tc vH vU mn mp mf plc ut uc un uw fc kd sz d1 d2 wd srt nxt vD now past ims vB rn vM tm rr st und kp) (aH : Nat) (aW : Nat) (vW : Nat → Int32) (who : Nat → Int32) (cl : Nat → Int32) (fro : Nat → Int32) (trial : Nat → Int32) : ∃ r vN' vM' vW' who' cl' fro' a' trial', fX8_period aH aW vN vH vW vD now who kd cl srt nxt fro sz wd = some (r, vN', vW', who', cl', fro', a') ∧ fX9_period vM st trial rr = some (r, vM', trial') ∧ RLn vN' vR tc vH vU mn mp mf plc ut uc un uw fc kd sz d1 d2 wd srt nxt vD now past ims vB rn vM' tm rr st und kp := by
  rcases id hr.2.2 with hn | ⟨h, c, hs⟩
  · refine ⟨-1, upd vN 6 1, upd (upd (upd vM 0 0) 11 0) 11 1, vW, who, cl, fro, aW, trial,  ?_, ?_, RL_q hr (tr := nI 1) (by decide) (MA_no vM 1)⟩
    · unfold fX8_period
      rw [c_stands_f (hn.2.2.2.1 2 (by omega)), bdS, if_pos z0]
      rfl
    · unfold fX9_period
      rw [m_gd, bdS, if_pos (show upd (upd vM 0 0) 11 0 14 = 0 from hn.1)]
      rfl
  · obtain ⟨vW', who', cl', fro', e1⟩ := C_period (vN := vN) (vW := vW) (vD := vD) (who := who) (cl := cl) (fro := fro) (aH := aH) (aW := aW) (RS_CX hs)
    obtain ⟨vM', tr', e2, hma⟩ := M_period (trial := trial) (RS_MX hs)
    exact ⟨_, _, vM', vW', who', cl', fro', _, tr', e1, e2, RL_q hr (by decide) hma⟩
theorem R_meeting (hr : RLn vN vR tc vH vU mn mp mf plc ut uc un uw fc kd sz d1 d2 wd srt nxt vD now past ims vB rn vM tm rr st und kp) (aH : Nat) (aW : Nat) (vW : Nat → Int32) (who : Nat → Int32) (cl : Nat → Int32) : ∃ r vN' vM' vW' who' cl' a', fX8_meeting aH aW vN vH vW vD now who kd cl srt d1 d2 = some (r, vN', vW', who', cl', a') ∧ fX9_meeting vM rr st = some (r, vM') ∧ RLn vN' vR tc vH vU mn mp mf plc ut uc un uw fc kd sz d1 d2 wd srt nxt vD now past ims vB rn vM' tm rr st und kp := by
  rcases id hr.2.2 with hn | ⟨h, c, hs⟩
  · refine ⟨-1, upd vN 6 1, upd (upd (upd vM 0 0) 11 0) 11 1, vW, who, cl, aW,  ?_, ?_, RL_q hr (tr := nI 1) (by decide) (MA_no vM 1)⟩
    · unfold fX8_meeting
      rw [c_stands_f (hn.2.2.2.1 2 (by omega)), bdS, if_pos z0]
      rfl
    · unfold fX9_meeting
      rw [m_gd, bdS, if_pos (show upd (upd vM 0 0) 11 0 14 = 0 from hn.1)]
      rfl
  · obtain ⟨vW', who', cl', e1⟩ := C_meeting (vN := vN) (vW := vW) (vD := vD) (who := who) (cl := cl) (aH := aH) (aW := aW) (RS_CX hs) hs.1.2.2.2.2.1.2
    obtain ⟨vM', e2, hma⟩ := M_meeting (RS_MX hs)
    exact ⟨_, _, vM', vW', who', cl', _, e1, e2, RL_q hr (by decide) hma⟩
theorem R_mostMeet (hr : RLn vN vR tc vH vU mn mp mf plc ut uc un uw fc kd sz d1 d2 wd srt nxt vD now past ims vB rn vM tm rr st und kp) (aH : Nat) (aW : Nat) (vW : Nat → Int32) (who : Nat → Int32) (cl : Nat → Int32) (fro : Nat → Int32) (prs : Nat → Int32) (trial : Nat → Int32) (met : Nat → Int32) : ∃ r vN' vM' vW' who' cl' prs' fro' a' trial' met', fX8_mostMeet aH aW vN vH vW vD now who kd cl srt prs nxt fro sz wd d1 d2 = some (r, vN', vW', who', cl', prs', fro', a') ∧ fX9_mostMeet vM st trial met rr = some (r, vM', trial', met') ∧ RLn vN' vR tc vH vU mn mp mf plc ut uc un uw fc kd sz d1 d2 wd srt nxt vD now past ims vB rn vM' tm rr st und kp := by
  rcases id hr.2.2 with hn | ⟨h, c, hs⟩
  · refine ⟨-1, upd vN 6 1, upd (upd (upd vM 0 0) 11 0) 11 1, vW, who, cl, prs, fro, aW, trial, met,  ?_, ?_, RL_q hr (tr := nI 1) (by decide) (MA_no vM 1)⟩
    · unfold fX8_mostMeet
      rw [c_stands_f (hn.2.2.2.1 2 (by omega)), bdS, if_pos z0]
      rfl
    · unfold fX9_mostMeet
      rw [m_gd, bdS, if_pos (show upd (upd vM 0 0) 11 0 14 = 0 from hn.1)]
      rfl
  · obtain ⟨a, vW', who', cl', prs', fro', e1, q1⟩ := C_mostMeet (prs := prs) (vN := vN) (vW := vW) (vD := vD) (who := who) (cl := cl) (fro := fro) (aH := aH) (aW := aW) (RS_CX hs) hs.1.2.2.2.2.1.2
    obtain ⟨a', vM', tr', met', e2, q2, hma⟩ := M_mostMeet (trial := trial) (met := met) (RS_MX hs)
    obtain rfl := AM_un q1 q2
    exact ⟨_, _, vM', vW', who', cl', prs', fro', _, tr', met', e1, e2, RL_q hr (by decide) hma⟩
theorem R_toWiden (hr : RLn vN vR tc vH vU mn mp mf plc ut uc un uw fc kd sz d1 d2 wd srt nxt vD now past ims vB rn vM tm rr st und kp) (aH : Nat) (aW : Nat) (vW : Nat → Int32) (who : Nat → Int32) (cl : Nat → Int32) (fro : Nat → Int32) (trial : Nat → Int32) : ∃ r vN' vM' vW' who' cl' fro' a' trial' rr', fX8_toWiden aH aW vN vH vW vD now who kd cl srt nxt fro sz wd = some (r, vN', vW', who', cl', fro', a') ∧ fX9_toWiden vM st trial rr = some (r, vM', trial', rr') ∧ RLn vN' vR tc vH vU mn mp mf plc ut uc un uw fc kd sz d1 d2 wd srt nxt vD now past ims vB rn vM' tm rr' st und kp := by
  rcases id hr.2.2 with hn | ⟨h, c, hs⟩
  · refine ⟨-1, upd vN 6 1, upd (upd (upd vM 0 0) 11 0) 11 1, vW, who, cl, fro, aW, trial, rr,  ?_, ?_, RL_q hr (tr := nI 1) (by decide) (MA_no vM 1)⟩
    · unfold fX8_toWiden
      rw [c_stands_f (hn.2.2.2.1 2 (by omega)), bdS, if_pos z0]
      rfl
    · unfold fX9_toWiden
      rw [m_gd, bdS, if_pos (show upd (upd vM 0 0) 11 0 14 = 0 from hn.1)]
      rfl
  · obtain ⟨vW', who', cl', fro', e1⟩ := C_toWiden (vN := vN) (vW := vW) (vD := vD) (who := who) (cl := cl) (fro := fro) (aH := aH) (aW := aW) (RS_CX hs) hs.1.2.2.2.1
    obtain ⟨vM', tr', r', e2, hma, hr'⟩ := M_toWiden (trial := trial) (RS_MX hs)
    exact ⟨_, _, vM', vW', who', cl', fro', _, tr', r', e1, e2, RL_r (RL_q hr (by decide) hma) (fun k hk => by rw [hr' k hk, hs.2.2.2.2.2.2.1 k hk])⟩
theorem R_kept (hr : RLn vN vR tc vH vU mn mp mf plc ut uc un uw fc kd sz d1 d2 wd srt nxt vD now past ims vB rn vM tm rr st und kp) (aH : Nat) (aW : Nat) (vW : Nat → Int32) (who : Nat → Int32) (cl : Nat → Int32) (fro : Nat → Int32) (vG : Nat → Int32) (trial : Nat → Int32) : ∃ r vN' vM' vW' who' cl' fro' a' trial', fX8_kept aH aW vN vH vU un vD now ut uc vG vW who kd cl srt nxt fro sz wd = some (r, vN', vW', who', cl', fro', a') ∧ fX9_kept vM st trial rr = some (r, vM', trial') ∧ RLn vN' vR tc vH vU mn mp mf plc ut uc un uw fc kd sz d1 d2 wd srt nxt vD now past ims vB rn vM' tm rr st und kp := by
  rcases id hr.2.2 with hn | ⟨h, c, hs⟩
  · refine ⟨-1, upd vN 6 1, upd (upd (upd vM 0 0) 11 0) 11 1, vW, who, cl, fro, aW, trial,  ?_, ?_, RL_q hr (tr := nI 1) (by decide) (MA_no vM 1)⟩
    · unfold fX8_kept
      rw [c_stands_f (hn.2.2.2.1 2 (by omega)), bdS, if_pos z0]
      rfl
    · unfold fX9_kept
      rw [m_gd, bdS, if_pos (show upd (upd vM 0 0) 11 0 14 = 0 from hn.1)]
      rfl
  · obtain ⟨vW', who', cl', fro', e1⟩ := C_kept (vG := vG) (vN := vN) (vW := vW) (vD := vD) (who := who) (cl := cl) (fro := fro) (aH := aH) (aW := aW) (RS_CX hs) hs.1.2.2.2.2.2.1 hs.2.2.2.1.2.1
    obtain ⟨vM', tr', e2, hma⟩ := M_kept (trial := trial) (RS_MX hs) hs.1.2.2.2.2.2.1
    exact ⟨_, _, vM', vW', who', cl', fro', _, tr', e1, e2, RL_q hr (by decide) hma⟩
theorem R_rules (hr : RLn vN vR tc vH vU mn mp mf plc ut uc un uw fc kd sz d1 d2 wd srt nxt vD now past ims vB rn vM tm rr st und kp)  : ∃ r vN' vM' , fX8_rules vN vH vB = some (r, vN') ∧ fX9_rules vM rr = some (r, vM') ∧ RLn vN' vR tc vH vU mn mp mf plc ut uc un uw fc kd sz d1 d2 wd srt nxt vD now past ims vB rn vM' tm rr st und kp := by
  rcases id hr.2.2 with hn | ⟨h, c, hs⟩
  · refine ⟨-1, upd vN 6 1, upd (upd (upd vM 0 0) 11 0) 11 1,  ?_, ?_, RL_q hr (tr := nI 1) (by decide) (MA_no vM 1)⟩
    · unfold fX8_rules
      rw [c_stands_f (hn.2.2.2.1 2 (by omega)), bdS, if_pos z0]
      rfl
    · unfold fX9_rules
      rw [m_gd, bdS, if_pos (show upd (upd vM 0 0) 11 0 14 = 0 from hn.1)]
      rfl
  · have e1 := C_rules (vN := vN) hs.1.1.2.2.2.1 hs.2.2.1 hs.2.2.2.1.1.2.2.1 hs.2.2.2.2.2.2.2.2.1
    obtain ⟨vM', e2, hma⟩ := M_rules (PI_WFh hs.1 hs.2.1) hs.1.2.2.2.2.2.2.1 hs.2.2.2.2.2.2.1 hs.2.2.2.2.2.2.2.2.2.1
    exact ⟨_, _, vM', e1, e2, RL_q hr (by decide) hma⟩
theorem R_look (hr : RLn vN vR tc vH vU mn mp mf plc ut uc un uw fc kd sz d1 d2 wd srt nxt vD now past ims vB rn vM tm rr st und kp) (seen : Nat → Int32) (cts : Nat → Int32) : ∃ r vN' vM' vB' seen' cts', fX8_look vN vH vB seen rn = some (r, vN', vB', seen') ∧ fX9_look vM cts rr = some (r, vM', cts') ∧ RLn vN' vR tc vH vU mn mp mf plc ut uc un uw fc kd sz d1 d2 wd srt nxt vD now past ims vB' rn vM' tm rr st und kp := by
  rcases id hr.2.2 with hn | ⟨h, c, hs⟩
  · refine ⟨-1, upd vN 6 1, upd (upd (upd vM 0 0) 11 0) 11 1, vB, seen, cts,  ?_, ?_, RL_q hr (tr := nI 1) (by decide) (MA_no vM 1)⟩
    · unfold fX8_look
      rw [c_stands_f (hn.2.2.2.1 2 (by omega)), bdS, if_pos z0]
      rfl
    · unfold fX9_look
      rw [m_gd, bdS, if_pos (show upd (upd vM 0 0) 11 0 14 = 0 from hn.1)]
      rfl
  · obtain ⟨vB', seen', e1, hB⟩ := C_look (vN := vN) (seen := seen) hs.1.1.2.2.2.1 hs.2.2.1 hs.2.2.2.1.1.2.2.1 hs.2.2.2.2.2.2.2.2.1
    obtain ⟨vM', cts', e2, hma⟩ := M_look (cts := cts) (PI_WFh hs.1 hs.2.1) hs.1.2.2.2.2.2.2.1 hs.2.2.2.2.2.2.1 hs.2.2.2.2.2.2.2.2.2.1
    exact ⟨_, _, vM', vB', seen', cts', e1, e2, RL_b (RL_q hr (by decide) hma) (RS_m hs (hma.2 14 (by omega) (by omega) (by omega)) (hma.2 20 (by omega) (by omega) (by omega)) (hma.2 21 (by omega) (by omega) (by omega))) hB⟩
theorem R_lookLeaves (hr : RLn vN vR tc vH vU mn mp mf plc ut uc un uw fc kd sz d1 d2 wd srt nxt vD now past ims vB rn vM tm rr st und kp) (seen : Nat → Int32) (cts : Nat → Int32) : ∃ r vN' vM' vB' seen' cts', fX8_lookLeaves vN vH vB seen rn = some (r, vN', vB', seen') ∧ fX9_lookLeaves vM cts rr = some (r, vM', cts') ∧ RLn vN' vR tc vH vU mn mp mf plc ut uc un uw fc kd sz d1 d2 wd srt nxt vD now past ims vB' rn vM' tm rr st und kp := by
  rcases id hr.2.2 with hn | ⟨h, c, hs⟩
  · refine ⟨-1, upd vN 6 1, upd (upd (upd vM 0 0) 11 0) 11 1, vB, seen, cts,  ?_, ?_, RL_q hr (tr := nI 1) (by decide) (MA_no vM 1)⟩
    · unfold fX8_lookLeaves
      rw [c_stands_f (hn.2.2.2.1 2 (by omega)), bdS, if_pos z0]
      rfl
    · unfold fX9_lookLeaves
      rw [m_gd, bdS, if_pos (show upd (upd vM 0 0) 11 0 14 = 0 from hn.1)]
      rfl
  · obtain ⟨vB', seen', e1, hB⟩ := C_lookLeaves (vN := vN) (seen := seen) hs.1.1.2.2.2.1 hs.2.2.1 hs.2.2.2.1.1.2.2.1 hs.2.2.2.2.2.2.2.2.1
    obtain ⟨vM', cts', e2, hma⟩ := M_lookLeaves (cts := cts) (PI_WFh hs.1 hs.2.1) hs.1.2.2.2.2.2.2.1 hs.2.2.2.2.2.2.1 hs.2.2.2.2.2.2.2.2.2.1
    exact ⟨_, _, vM', vB', seen', cts', e1, e2, RL_b (RL_q hr (by decide) hma) (RS_m hs (hma.2 14 (by omega) (by omega) (by omega)) (hma.2 20 (by omega) (by omega) (by omega)) (hma.2 21 (by omega) (by omega) (by omega))) hB⟩
end RQ1
