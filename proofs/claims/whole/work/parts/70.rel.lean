/-! MATH 50: what stands between both sides, from call to call (written by gen/g70.py) -/
def GR (h c : Nat → Nat) : Prop := okRow h c ∧ injC h c ∧ c 8 ≤ 999
def UNr (h : Nat → Nat) (vD : Nat → Int32) (past : Nat → Nat → Int32) (vM und : Nat → Int32) : Prop := ∃ (K p : Nat) (cs : Nat → Nat → Nat), K ≤ 16 ∧ p < 16 ∧ vD 3 = nI K ∧ vD 4 = nI p ∧ vM 20 = nI K ∧ ∀ i, i < K → GR h (cs i) ∧ DR h (cs i) (past ((p + 15 - i) % 16)) ∧ ∀ k, k < 9 → und (9 * (K - 1 - i) + k) = nI (cs i k)
def IMr (h : Nat → Nat) (vD : Nat → Int32) (ims : Nat → Nat → Int32) (vM kp : Nat → Int32) : Prop := ∃ (K : Nat) (cs : Nat → Nat → Nat), K ≤ 3 ∧ vD 5 = nI K ∧ vM 21 = nI K ∧ ∀ i, i < K → GR h (cs i) ∧ DR h (cs i) (ims i) ∧ ∀ k, k < 9 → kp (9 * i + k) = nI (cs i k)
def RNo (vH vU vD now vM : Nat → Int32) : Prop := vM 14 = nI 0 ∧ vM 20 = nI 0 ∧ vM 21 = nI 0 ∧ (∀ k, k < 7 → vH k = nI 0) ∧ vU 0 = nI 0 ∧ vD 3 = nI 0 ∧ vD 5 = nI 0 ∧ now 8 = nI 0 ∧ ∃ p, p < 16 ∧ vD 4 = nI p
def RSt (h c : Nat → Nat) (vH : Nat → Int32) (vU : Nat → Int32) (mn : Nat → Int32) (mp : Nat → Int32) (mf : Nat → Int32) (plc : Nat → Int32) (ut : Nat → Int32) (uc : Nat → Int32) (un : Nat → Int32) (uw : Nat → Int32) (fc : Nat → Int32) (kd : Nat → Int32) (sz : Nat → Int32) (d1 : Nat → Int32) (d2 : Nat → Int32) (wd : Nat → Int32) (srt : Nat → Int32) (nxt : Nat → Int32) (vD : Nat → Int32) (now : Nat → Int32) (past : Nat → Nat → Int32) (ims : Nat → Nat → Int32) (vB : Nat → Int32) (rn : Nat → Int32) (vM : Nat → Int32) (rr : Nat → Int32) (st : Nat → Int32) (und : Nat → Int32) (kp : Nat → Int32) : Prop := PI h ∧ 0 < h 0 ∧ 0 < h 2 ∧ HD h vH vU mn mp mf plc ut uc un uw fc kd sz d1 d2 wd srt nxt ∧ GR h c ∧ DR h c now ∧ (∀ k, k < 224 → rr k = nI (h k)) ∧ (∀ k, k < 9 → st k = nI (c k)) ∧ CB h vB rn ∧ vM 14 = nI 1 ∧ UNr h vD past vM und ∧ IMr h vD ims vM kp
def RLn (vN : Nat → Int32) (vR : Nat → Int32) (tc : Nat → Int32) (vH : Nat → Int32) (vU : Nat → Int32) (mn : Nat → Int32) (mp : Nat → Int32) (mf : Nat → Int32) (plc : Nat → Int32) (ut : Nat → Int32) (uc : Nat → Int32) (un : Nat → Int32) (uw : Nat → Int32) (fc : Nat → Int32) (kd : Nat → Int32) (sz : Nat → Int32) (d1 : Nat → Int32) (d2 : Nat → Int32) (wd : Nat → Int32) (srt : Nat → Int32) (nxt : Nat → Int32) (vD : Nat → Int32) (now : Nat → Int32) (past : Nat → Nat → Int32) (ims : Nat → Nat → Int32) (vB : Nat → Int32) (rn : Nat → Int32) (vM : Nat → Int32) (tm : Nat → Int32) (rr : Nat → Int32) (st : Nat → Int32) (und : Nat → Int32) (kp : Nat → Int32) : Prop := (vN 6 = vM 11 ∧ vN 7 = vM 9 ∧ (vM 11 = nI 4 → vN 8 = vM 10)) ∧ (∃ nT tb, nT ≤ 900 ∧ vR 1 = nI nT ∧ vM 2 = nI nT ∧ TPR tb nT tc tm) ∧ (RNo vH vU vD now vM ∨ ∃ h c, RSt h c vH vU mn mp mf plc ut uc un uw fc kd sz d1 d2 wd srt nxt vD now past ims vB rn vM rr st und kp)
section RLS
variable {vN vR tc vH vU mn mp mf plc ut uc un uw fc kd sz d1 d2 wd srt nxt vD now vB rn vM tm rr st und kp : Nat → Int32} {past ims : Nat → Nat → Int32} {h c : Nat → Nat} {vM' rr' vB' rn' : Nat → Int32}
theorem GR.ok (hg : GR h c) : okRow h c ∧ injC h c ∧ c 8 ≤ 1000 := ⟨hg.1, hg.2.1, by have := hg.2.2; omega⟩
theorem RS_CX (hs : RSt h c vH vU mn mp mf plc ut uc un uw fc kd sz d1 d2 wd srt nxt vD now past ims vB rn vM rr st und kp) : CX h c vH nxt wd sz kd srt plc d1 d2 now := by
  obtain ⟨hP, h0, h2, ⟨⟨a0, a1, a2, a3, a4, a5, a6⟩, cw, hg, hn, hw, hd, htt, hmm⟩, hG, hD, hrr, hst, hB, h14, hU, hI⟩ := hs
  exact ⟨PI_WFh hP h0, ⟨a0, a2, a5, hn, fun x hx _ => hw x hx, fun x e => (nomatch e), fun t ht => ⟨(htt t ht).2.2, (htt t ht).1⟩, fun g hgg => (hg g hgg).1⟩, hG.ok.1, hG.ok.2.1, hG.ok.2.2, hD, h2, a4, fun g hgg => (hg g hgg).2, fun d hdd => ⟨(hd d hdd).1, (hd d hdd).2, (hP.2.2.2.2.1.1 d hdd).1, (hP.2.2.2.2.1.1 d hdd).2⟩⟩
theorem RS_MX (hs : RSt h c vH vU mn mp mf plc ut uc un uw fc kd sz d1 d2 wd srt nxt vD now past ims vB rn vM rr st und kp) : MX h c vM rr st := by
  obtain ⟨hP, h0, h2, hH, hG, hD, hrr, hst, hB, h14, hU, hI⟩ := hs
  exact ⟨PI_WFh hP h0, hG.ok.1, hG.ok.2.1, hG.ok.2.2, hrr, hst, h14⟩
theorem RS_m (hs : RSt h c vH vU mn mp mf plc ut uc un uw fc kd sz d1 d2 wd srt nxt vD now past ims vB rn vM rr st und kp) (e14 : vM' 14 = vM 14) (e20 : vM' 20 = vM 20) (e21 : vM' 21 = vM 21) : RSt h c vH vU mn mp mf plc ut uc un uw fc kd sz d1 d2 wd srt nxt vD now past ims vB rn vM' rr st und kp := by
  obtain ⟨hP, h0, h2, hH, hG, hD, hrr, hst, hB, h14, ⟨K, p, cs, u1, u2, u3, u4, u5, u6⟩, ⟨K', cs', i1, i2, i3, i4⟩⟩ := hs
  exact ⟨hP, h0, h2, hH, hG, hD, hrr, hst, hB, by rw [e14]; exact h14, ⟨K, p, cs, u1, u2, u3, u4, by rw [e20]; exact u5, u6⟩, ⟨K', cs', i1, i2, by rw [e21]; exact i3, i4⟩⟩
/-- a question's end: trouble is told, nothing else has changed that matters -/
theorem RL_q (hr : RLn vN vR tc vH vU mn mp mf plc ut uc un uw fc kd sz d1 d2 wd srt nxt vD now past ims vB rn vM tm rr st und kp) {tr : Int32} (h4 : tr ≠ nI 4) (hma : MA vM vM' tr) : RLn (upd vN 6 tr) vR tc vH vU mn mp mf plc ut uc un uw fc kd sz d1 d2 wd srt nxt vD now past ims vB rn vM' tm rr st und kp := by
  obtain ⟨⟨r6, r7, r8⟩, ⟨nT, tb, t1, t2, t3, t4⟩, q⟩ := hr
  obtain ⟨m11, mo⟩ := hma
  refine ⟨⟨m11.symm, ?_, fun e => ?_⟩, ⟨nT, tb, t1, t2, by rw [mo 2 (by omega) (by omega) (by omega)]; exact t3, t4⟩, ?_⟩
  · show vN 7 = vM' 9
    rw [mo 9 (by omega) (by omega) (by omega)]
    exact r7
  · rw [m11] at e
    exact absurd e h4
  · rcases q with ⟨n1, n2, n3, n4⟩ | ⟨h, c, hs⟩
    · exact Or.inl ⟨by rw [mo 14 (by omega) (by omega) (by omega)]; exact n1, by rw [mo 20 (by omega) (by omega) (by omega)]; exact n2, by rw [mo 21 (by omega) (by omega) (by omega)]; exact n3, n4⟩
    · exact Or.inr ⟨h, c, RS_m hs (mo 14 (by omega) (by omega) (by omega)) (mo 20 (by omega) (by omega) (by omega)) (mo 21 (by omega) (by omega) (by omega))⟩
theorem RL_r (hr : RLn vN vR tc vH vU mn mp mf plc ut uc un uw fc kd sz d1 d2 wd srt nxt vD now past ims vB rn vM tm rr st und kp) (e : ∀ k, k < 224 → rr' k = rr k) : RLn vN vR tc vH vU mn mp mf plc ut uc un uw fc kd sz d1 d2 wd srt nxt vD now past ims vB rn vM tm rr' st und kp := by
  obtain ⟨a, b, q⟩ := hr
  refine ⟨a, b, ?_⟩
  rcases q with hn | ⟨h, c, hP, h0, h2, hH, hG, hD, hrr, q⟩
  · exact Or.inl hn
  · exact Or.inr ⟨h, c, hP, h0, h2, hH, hG, hD, fun k hk => by rw [e k hk]; exact hrr k hk, q⟩
theorem MA_no (vM : Nat → Int32) (w : Int32) : MA vM (upd (upd (upd vM 0 0) 11 0) 11 w) w := by
  refine ⟨rfl, fun k h1 h2 _ => ?_⟩
  unfold upd
  rw [if_neg h2, if_neg h2, if_neg h1]
theorem MA_0 (vM : Nat → Int32) : MA vM (upd (upd vM 0 0) 11 0) (nI 0) := by
  refine ⟨rfl, fun k h1 h2 _ => ?_⟩
  unfold upd
  rw [if_neg h2, if_neg h1]
theorem m_gd (vM : Nat → Int32) : fX9_good vM = some (upd (upd vM 0 0) 11 0) := rfl
theorem z0 : nI 0 = (0 : Int32) := rfl
theorem rng_f {α : Type} {x L : Int32} {N : Nat} (hL : L = nI N) (hN : N + 1 < 2 ^ 31) (hx : x < 0 ∨ nI (N + 1) ≤ x) (a b : α) : (if x < 0 then a else if x ≤ L then b else a) = a := by
  subst hL
  rcases hx with hx | hx
  · rw [if_pos hx]
  · rw [if_neg (show ¬ x < 0 from ge_nneg hN hx), if_neg (ge_nle hN hx)]
theorem rng_t {α : Type} {L : Int32} {N k : Nat} (hL : L = nI N) (hN : N + 1 < 2 ^ 31) (hk : k ≤ N) (a b : α) : (if nI k < 0 then a else if nI k ≤ L then b else a) = b := by
  subst hL
  rw [if_neg (show ¬ nI k < 0 from nI_pos (by omega)), if_pos (show nI k ≤ nI N by rw [nI_leI (by omega) (by omega)]; exact hk)]
theorem i_or (x : Int32) (N : Nat) (hN : N + 1 < 2 ^ 31) : (∃ k, k ≤ N ∧ x = nI k) ∨ (x < 0 ∨ nI (N + 1) ≤ x) := by
  rcases i32_or x (N + 1) hN with ⟨k, hk, rfl⟩ | h
  · exact Or.inl ⟨k, by omega, rfl⟩
  · exact Or.inr h
theorem why_1 (x L : Int32) : fX9_why (nI 0) x L = some (nI 1) := by
  unfold fX9_why
  rw [if_pos z0]
  rfl
theorem why_2 {x L : Int32} {N : Nat} (hL : L = nI N) (hN : N < 2 ^ 30) (hx : x < 0 ∨ nI (N + 1) ≤ x) : fX9_why (nI 1) x L = some (nI 2) := by
  subst hL
  unfold fX9_why
  rw [if_neg nz1, show fX9_in x 0 (nI N) = some (nI 0) from m_inn_f hN hx, bdS, if_pos z0]
  rfl
end RLS
