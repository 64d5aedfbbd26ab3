/-! MATH 27: the box's rules -/
def mN (h : Nat → Nat) (m : Nat) : Nat := h (107 + 3 * m)
def mP (h : Nat → Nat) (m : Nat) : Nat := h (107 + 3 * m + 1)
def mF (h : Nat → Nat) (m : Nat) : Nat := h (107 + 3 * m + 2)
def WFm (h : Nat → Nat) : Prop := ∀ m, m < h 7 → mF h m ≤ 1
def CK (h : Nat → Nat) (vH mn mp mf : Nat → Int32) : Prop := vH 6 = nI (h 7) ∧ ∀ m, m < h 7 → mn m = nI (mN h m) ∧ mp m = nI (mP h m) ∧ mf m = nI (mF h m)
def mis (h : Nat → Nat) (p s f m : Nat) : Bool := ((f + s * mN h m) % p == mP h m) != (mF h m == 1)
def rok (h : Nat → Nat) (p s f : Nat) : Bool := (fnd (mis h p s f) (h 7)).isNone
def RF (h : Nat → Nat) (p s : Nat) : Nat → List Nat
  | 0 => []
  | f + 1 => RF h p s f ++ (if rok h p s f then [10000 * p + 100 * s + f] else [])
def RS (h : Nat → Nat) (p : Nat) : Nat → List Nat
  | 0 => []
  | j + 1 => RS h p j ++ RF h p (j + 1) p
def RP (h : Nat → Nat) : Nat → List Nat
  | 0 => []
  | k + 1 => RP h k ++ RS h (k + 2) (k + 1)
theorem rlist_ex : ∃ f : (Nat → Nat) → List Nat, ∀ h, f h = RP h 11 := ⟨fun h => RP h 11, fun _ => rfl⟩
noncomputable def rlist : (Nat → Nat) → List Nat := Classical.choose rlist_ex
theorem rlist_eq (h : Nat → Nat) : rlist h = RP h 11 := Classical.choose_spec rlist_ex h
def pre (h : Nat → Nat) (k j f : Nat) : List Nat := RP h k ++ (RS h (k + 2) j ++ RF h (k + 2) (j + 1) f)
theorem pre_f (h : Nat → Nat) (k j f : Nat) : pre h k j (f + 1) = pre h k j f ++ (if rok h (k + 2) (j + 1) f then [10000 * (k + 2) + 100 * (j + 1) + f] else []) := by
  unfold pre
  rw [RF]
  simp only [List.append_assoc]
theorem pre_j (h : Nat → Nat) (k j : Nat) : pre h k (j + 1) 0 = pre h k j (k + 2) := by
  unfold pre
  rw [RS]
  show _ ++ ((_ ++ _) ++ []) = _
  rw [List.append_nil]
theorem pre_k (h : Nat → Nat) (k : Nat) : pre h (k + 1) 0 0 = pre h k (k + 1) 0 := by
  unfold pre
  rw [RP]
  simp [RS, RF]
theorem pre_0 (h : Nat → Nat) : pre h 0 0 0 = [] := rfl
theorem pre_11 (h : Nat → Nat) : pre h 11 0 0 = rlist h := by
  rw [rlist_eq]
  unfold pre
  show _ ++ ([] ++ []) = _
  rw [List.append_nil, List.append_nil]
theorem RF_len (h : Nat → Nat) (p s f : Nat) : (RF h p s f).length ≤ f := by
  induction f with
  | zero => exact Nat.le_refl _
  | succ f ih =>
    rw [RF, List.length_append]
    split
    · show _ + 1 ≤ _; omega
    · show _ + 0 ≤ _; omega
theorem RS_len (h : Nat → Nat) (p j : Nat) : (RS h p j).length ≤ j * p := by
  induction j with
  | zero => exact Nat.zero_le _
  | succ j ih =>
    rw [RS, List.length_append, Nat.succ_mul]
    have := RF_len h p (j + 1) p
    omega
theorem RP_len (h : Nat → Nat) : ∀ k, k ≤ 11 → (RP h k).length ≤ [0, 2, 8, 20, 40, 70, 112, 168, 240, 330, 440, 572][k]! := by
  intro k
  induction k with
  | zero => intro _; exact Nat.le_refl _
  | succ k ih =>
    intro hk
    have h1 := ih (by omega)
    have h2 := RS_len h (k + 2) (k + 1)
    rw [RP, List.length_append]
    have h3 : ∀ k, k < 11 → [0, 2, 8, 20, 40, 70, 112, 168, 240, 330, 440, 572][k]! + (k + 1) * (k + 2) ≤ [0, 2, 8, 20, 40, 70, 112, 168, 240, 330, 440, 572][k + 1]! := by decide
    have := h3 k (by omega)
    omega
theorem RP_lenk (h : Nat → Nat) (k j f : Nat) (hk : k < 11) (hj : j < k + 1) (hf : f ≤ k + 2) : (pre h k j f).length + (k + 2 - f) ≤ 572 := by
  unfold pre
  rw [List.length_append, List.length_append]
  have h1 := RP_len h k (by omega)
  have h2 := RS_len h (k + 2) j
  have h4 := RF_len h (k + 2) (j + 1) f
  have h3 : ∀ k, k < 11 → [0, 2, 8, 20, 40, 70, 112, 168, 240, 330, 440, 572][k]! + (k + 1) * (k + 2) ≤ 572 := by decide
  have := h3 k hk
  have : (j + 1) * (k + 2) ≤ (k + 1) * (k + 2) := Nat.mul_le_mul_right _ (by omega)
  rw [Nat.succ_mul] at this
  omega
theorem RL_len (h : Nat → Nat) : (rlist h).length ≤ 572 := by rw [rlist_eq]; exact RP_len h 11 (by omega)
/-- numbers of rules -/
def ruleNo (r : Nat) : Prop := 2 ≤ r / 10000 ∧ r / 10000 ≤ 12 ∧ r / 100 % 100 < 12 ∧ r % 100 < 12
theorem RF_no (h : Nat → Nat) {p s : Nat} (hp : 2 ≤ p) (hp2 : p ≤ 12) (hs : s < 12) : ∀ f, f ≤ p → ∀ r, r ∈ RF h p s f → ruleNo r := by
  intro f
  induction f with
  | zero => intro _ r hr; cases hr
  | succ f ih =>
    intro hf r hr
    rw [RF, List.mem_append] at hr
    rcases hr with hr | hr
    · exact ih (by omega) r hr
    · split at hr
      · obtain rfl : r = 10000 * p + 100 * s + f := by simpa using hr
        unfold ruleNo
        omega
      · cases hr
theorem RS_no (h : Nat → Nat) {p : Nat} (hp : 2 ≤ p) (hp2 : p ≤ 12) : ∀ j, j < p → ∀ r, r ∈ RS h p j → ruleNo r := by
  intro j
  induction j with
  | zero => intro _ r hr; cases hr
  | succ j ih =>
    intro hj r hr
    rw [RS, List.mem_append] at hr
    rcases hr with hr | hr
    · exact ih (by omega) r hr
    · exact RF_no h hp hp2 (by omega) p (Nat.le_refl _) r hr
theorem RP_no (h : Nat → Nat) : ∀ k, k ≤ 11 → ∀ r, r ∈ RP h k → ruleNo r := by
  intro k
  induction k with
  | zero => intro _ r hr; cases hr
  | succ k ih =>
    intro hk r hr
    rw [RP, List.mem_append] at hr
    rcases hr with hr | hr
    · exact ih (by omega) r hr
    · exact RS_no h (by omega) (by omega) (k + 1) (by omega) r hr
theorem RL_no (h : Nat → Nat) {r : Nat} (hr : r ∈ rlist h) : ruleNo r := RP_no h 11 (by omega) r (by rw [← rlist_eq]; exact hr)
/-- a walk over all rules, in their order: three loops, one in the other -/
theorem tri {α σ1 σ2 σ3 ρ : Type} (h : Nat → Nat) (R : List Nat → α → Prop) (Q : ρ → Prop)
    (F1 : σ1 → Option (ρ ⊕ σ1)) (F2 : Nat → σ2 → Option ((ρ ⊕ σ1) ⊕ σ2)) (F3 : Nat → Nat → σ3 → Option (((ρ ⊕ σ1) ⊕ σ2) ⊕ σ3))
    (m1 : Nat → α → σ1) (m2 : Nat → Nat → α → σ2) (m3 : Nat → Nat → Nat → α → σ3)
    (h3s : ∀ k j f a, k < 11 → j < k + 1 → f < k + 2 → R (pre h k j f) a → (∃ a', F3 k j (m3 k j f a) = some (.inr (m3 k j (f + 1) a')) ∧ R (pre h k j (f + 1)) a') ∨ ∃ r, F3 k j (m3 k j f a) = some (.inl (.inl (.inl r))) ∧ Q r)
    (h3e : ∀ k j a, k < 11 → j < k + 1 → F3 k j (m3 k j (k + 2) a) = some (.inl (.inr (m2 k (j + 1) a))))
    (h2s : ∀ k j a, k < 11 → j < k + 1 → F2 k (m2 k j a) = lp (F3 k j) 5000 (m3 k j 0 a))
    (h2e : ∀ k a, k < 11 → F2 k (m2 k (k + 1) a) = some (.inl (.inr (m1 (k + 1) a))))
    (h1s : ∀ k a, k < 11 → F1 (m1 k a) = lp (F2 k) 5000 (m2 k 0 a))
    (h1e : ∀ a, R (rlist h) a → ∃ r, F1 (m1 11 a) = some (.inl r) ∧ Q r) (a0 : α) (h0 : R [] a0) : ∃ r, lp F1 5000 (m1 0 a0) = some r ∧ Q r := by
  have L3 : ∀ k j a, k < 11 → j < k + 1 → R (pre h k j 0) a → (∃ a', lp (F3 k j) 5000 (m3 k j 0 a) = some (.inr (m2 k (j + 1) a')) ∧ R (pre h k (j + 1) 0) a') ∨ ∃ r, lp (F3 k j) 5000 (m3 k j 0 a) = some (.inl (.inl r)) ∧ Q r := by
    intro k j a hk hj hR
    obtain ⟨res, e, hres⟩ := lp_inv (f := F3 k j) (fun f s => ∃ a, s = m3 k j f a ∧ R (pre h k j f) a) (fun res => (∃ a', res = .inr (m2 k (j + 1) a') ∧ R (pre h k (j + 1) 0) a') ∨ ∃ r, res = .inl (.inl r) ∧ Q r) (k + 2) (by
      rintro f s hf ⟨a, rfl, hR⟩
      rcases h3s k j f a hk hj hf hR with ⟨a', e, hR'⟩ | ⟨r, e, hq⟩
      · exact Or.inl ⟨_, e, a', rfl, hR'⟩
      · exact Or.inr ⟨_, e, Or.inr ⟨r, rfl, hq⟩⟩) (by
      rintro s ⟨a, rfl, hR⟩
      exact ⟨_, h3e k j a hk hj, Or.inl ⟨a, rfl, by rw [pre_j]; exact hR⟩⟩) 5000 0 _ (Nat.zero_le _) ⟨a, rfl, hR⟩ (by omega)
    rcases hres with ⟨a', rfl, hR'⟩ | ⟨r, rfl, hq⟩
    · exact Or.inl ⟨a', e, hR'⟩
    · exact Or.inr ⟨r, e, hq⟩
  have L2 : ∀ k a, k < 11 → R (pre h k 0 0) a → (∃ a', lp (F2 k) 5000 (m2 k 0 a) = some (.inr (m1 (k + 1) a')) ∧ R (pre h (k + 1) 0 0) a') ∨ ∃ r, lp (F2 k) 5000 (m2 k 0 a) = some (.inl r) ∧ Q r := by
    intro k a hk hR
    obtain ⟨res, e, hres⟩ := lp_inv (f := F2 k) (fun j s => ∃ a, s = m2 k j a ∧ R (pre h k j 0) a) (fun res => (∃ a', res = .inr (m1 (k + 1) a') ∧ R (pre h (k + 1) 0 0) a') ∨ ∃ r, res = .inl r ∧ Q r) (k + 1) (by
      rintro j s hj ⟨a, rfl, hR⟩
      rw [h2s k j a hk hj]
      rcases L3 k j a hk hj hR with ⟨a', e, hR'⟩ | ⟨r, e, hq⟩
      · exact Or.inl ⟨_, e, a', rfl, hR'⟩
      · exact Or.inr ⟨_, e, Or.inr ⟨r, rfl, hq⟩⟩) (by
      rintro s ⟨a, rfl, hR⟩
      exact ⟨_, h2e k a hk, Or.inl ⟨a, rfl, by rw [pre_k]; exact hR⟩⟩) 5000 0 _ (Nat.zero_le _) ⟨a, rfl, hR⟩ (by omega)
    rcases hres with ⟨a', rfl, hR'⟩ | ⟨r, rfl, hq⟩
    · exact Or.inl ⟨a', e, hR'⟩
    · exact Or.inr ⟨r, e, hq⟩
  exact lp_inv (f := F1) (fun k s => ∃ a, s = m1 k a ∧ R (pre h k 0 0) a) Q 11 (by
    rintro k s hk ⟨a, rfl, hR⟩
    rw [h1s k a hk]
    rcases L2 k a hk hR with ⟨a', e, hR'⟩ | ⟨r, e, hq⟩
    · exact Or.inl ⟨_, e, a', rfl, hR'⟩
    · exact Or.inr ⟨_, e, hq⟩) (by
    rintro s ⟨a, rfl, hR⟩
    rw [pre_11] at hR
    exact h1e a hR) 5000 0 _ (Nat.zero_le _) ⟨a0, rfl, by rw [pre_0]; exact h0⟩ (by omega)
section BX
variable {h c : Nat → Nat} {vH mn mp mf vB rn seen vM r vN cts : Nat → Int32}
theorem mul12 {s x : Nat} (hs : s ≤ 12) (hx : x < 1000) : s * x ≤ 12000 := Nat.le_trans (Nat.mul_le_mul hs (Nat.le_of_lt hx)) (by decide)
theorem c_allowsRule (hw : WFh h) (hm : WFm h) (hk : CK h vH mn mp mf) {p s f : Nat} (hp0 : 0 < p) (hp : p ≤ 12) (hs : s ≤ 12) (hf : f ≤ 12) : fX4_allowsRule vH mn mp mf (nI p) (nI s) (nI f) = some (nI (if rok h p s f then 1 else 0)) := by
  have h7 := hw.2.2.2.2.2.2.2.2.1
  obtain ⟨v6, hk⟩ := hk
  unfold fX4_allowsRule
  simp (disch := omega) only [nlit, nI_ltI]
  rw [if_pos hp0]
  refine Exists.elim (lp_find (f := fX4_allowsRule_B9 vH mn mp mf (nI p) (nI s) (nI f)) (mis h p s f) (h 7) (fun i t => t = nI i) (fun o res => res = nI (if o.isNone then 1 else 0)) ?_ ?_ rfl (show h 7 < 5000 by omega)) (fun res hr => ?_)
  · rintro i t hi rfl
    obtain ⟨k1, k2, k3⟩ := hk i hi
    have b1 : mN h i < 1000 := hw.1 _ (by omega)
    have b2 : mP h i < 1000 := hw.1 _ (by omega)
    have b3 := hm i hi
    have b4 := mul12 hs b1
    have hmod : (f + s * mN h i) % p < p := Nat.mod_lt _ hp0
    simp (disch := omega) only [fX4_allowsRule_B9, fX4_allowsRule_J57, v6, nlit, nI_leI, ok_nI, gdT, nI_clamp, k1, k2, k3, pk_mul, nI_add, nz_nI, irm_nI, nI_eq, exS]
    rw [if_neg (by omega), if_neg (by omega)]
    unfold mis
    have hf01 : mF h i = 0 ∨ mF h i = 1 := by omega
    by_cases q1 : (f + s * mN h i) % p = mP h i
    · rw [if_pos q1]
      rcases hf01 with q2 | q2
      · rw [q2, if_neg (by omega)]
        exact ⟨fun e => by simp [q1] at e, fun _ => ⟨_, rfl, rfl⟩⟩
      · rw [q2, if_pos rfl]
        exact ⟨fun _ => ⟨_, rfl, rfl⟩, fun e => by simp [q1] at e⟩
    · rw [if_neg q1]
      rcases hf01 with q2 | q2
      · rw [q2, if_pos rfl]
        exact ⟨fun _ => ⟨_, rfl, rfl⟩, fun e => by simp [q1] at e⟩
      · rw [q2, if_neg (by omega)]
        exact ⟨fun e => by simp [q1] at e, fun _ => ⟨_, rfl, rfl⟩⟩
  · rintro t rfl
    simp (disch := omega) only [fX4_allowsRule_B9, fX4_allowsRule_J75, v6, nlit, nI_leI, exS]
    rw [if_pos (Nat.le_refl _)]
    exact ⟨_, rfl, rfl⟩
  · rw [hr.1, hr.2]
    rfl
theorem m_isRule (hw : WFh h) (hm : WFm h) (hr : ∀ k, k < 224 → r k = nI (h k)) {p s f : Nat} (hp0 : 0 < p) (hp : p ≤ 12) (hs : s ≤ 12) (hf : f ≤ 12) : fX9_isRule vM r (nI p) (nI s) (nI f) = some (nI (if rok h p s f then 1 else 0)) := by
  have h7 := hw.2.2.2.2.2.2.2.2.1
  unfold fX9_isRule
  simp only [nlit]
  refine lp_for (fun i => (nI (if (fnd (mis h p s f) i).isNone then 1 else 0), nI i)) (h 7) ?_ ?_ (by omega) rfl
  · intro i hi
    have b1 : mN h i < 1000 := hw.1 _ (by omega)
    have b2 : mP h i < 1000 := hw.1 _ (by omega)
    have b3 := hm i hi
    have b4 := mul12 hs b1
    have hmod : (f + s * mN h i) % p < p := Nat.mod_lt _ hp0
    have e1 : h (107 + 3 * i) = mN h i := rfl
    have e2 : h (107 + 3 * i + 1) = mP h i := rfl
    have e3 : h (107 + 3 * i + 2) = mF h i := rfl
    rw [fnd_s]
    simp (disch := omega) only [fX9_isRule_B6, fX9_isRule_J93, fX9_isRule_J94, fX9_isRule_J63, fX9_isRule_J86, nlit, ok_nI, gdT, nI_clamp, hr, nI_leI, e1, e2, e3, pk_mul, nI_add, nz_nI, irm_nI, nI_eq]
    rw [if_neg (by omega)]
    cases hfn : fnd (mis h p s f) i with
    | some u => rfl
    | none =>
      simp only [Option.isNone_none, if_true, n10, if_false]
      have hf01 : mF h i = 0 ∨ mF h i = 1 := by omega
      unfold mis
      by_cases q1 : (f + s * mN h i) % p = mP h i
      · rcases hf01 with q2 | q2
        · simp [q1, q2, n10]
        · simp [q1, q2]
      · rcases hf01 with q2 | q2
        · simp [q1, q2]
        · have : ¬ nI 0 = nI 1 := by decide
          simp [q1, q2, this]
  · simp (disch := omega) only [fX9_isRule_B6, nlit, ok_nI, gdT, nI_clamp, hr, nI_leI]
    rw [if_pos (Nat.le_refl _)]
    unfold rok
    cases (fnd (mis h p s f) (h 7)).isNone <;> rfl
theorem gd_app {l : List Nat} {x i : Nat} (hi : i < l.length) : (l ++ [x]).getD i 0 = l.getD i 0 := by
  rw [List.getD_eq_getElem?_getD, List.getD_eq_getElem?_getD, List.getElem?_append_left hi]
/-- the class's list of rules -/
def LB (l : List Nat) (vB rn : Nat → Int32) : Prop := vB 2 = nI l.length ∧ ∀ i, i < l.length → rn i = nI (l.getD i 0)
theorem LB_add {l : List Nat} {x : Nat} (hl : l.length < 572) (hb : LB l vB rn) : ∃ vB' rn', fX0_add vB rn (nI x) = some (vB', rn') ∧ LB (l ++ [x]) vB' rn' ∧ ∀ k, k ≠ 2 → vB' k = vB k := by
  obtain ⟨b1, b2⟩ := hb
  refine ⟨upd vB 2 (nI (l.length + 1)), upd rn l.length (nI x), ?_, ⟨?_, fun i hi => ?_⟩, fun k hk => ?_⟩
  · simp (disch := omega) only [fX0_add, fX0_add_J37, b1, nlit, nI_ltI, nI_leI, ok_nI, gdT, nI_clamp, nI_add]
    rw [if_neg (by omega), if_neg (by omega)]
  · rw [List.length_append]; rfl
  · rw [List.length_append] at hi
    have hi : i < l.length + 1 := hi
    unfold upd
    by_cases e : i = l.length
    · rw [if_pos e, e]
      simp [List.getD]
    · rw [if_neg e, b2 i (by omega)]
      rw [gd_app (by omega)]
  · unfold upd; rw [if_neg hk]
theorem C_learn (hw : WFh h) (hm : WFm h) (hk : CK h vH mn mp mf) : ∃ vB' rn', fX0_learn vB vH mn mp mf rn = some (vB', rn') ∧ LB (rlist h) vB' rn' ∧ vB' 3 = nI 0 := by
  unfold fX0_learn
  simp only [nlit]
  obtain ⟨res, e, vB', rn', hres, hl, h3⟩ := tri (α := (Nat → Int32) × (Nat → Int32)) h (fun l a => LB l a.2 a.1 ∧ a.2 3 = nI 0) (fun res => ∃ vB' rn', res = (vB', rn') ∧ LB (rlist h) vB' rn' ∧ vB' 3 = nI 0)
    (fX0_learn_B12 vH mn mp mf) (fun k => fX0_learn_B20 vH mn mp mf (nI (k + 2))) (fun k j => fX0_learn_B28 vH mn mp mf (nI (k + 2)) (nI (j + 1)))
    (fun k a => (nI (k + 2), a.1, a.2)) (fun k j a => (nI (j + 1), a.1, a.2)) (fun k j f a => (nI f, a.1, a.2))
    (by
      rintro k j f ⟨rn, vB⟩ hk1 hj hf ⟨hl, h3⟩
      left
      have hlen := RP_lenk h k j f hk1 hj (by omega)
      simp (disch := omega) only [fX0_learn_B28, fX0_learn_J62, nlit, nI_leI, c_allowsRule hw hm hk, bdS, pk_mul, nI_add]
      rw [if_neg (by omega), pre_f]
      cases hq : rok h (k + 2) (j + 1) f with
      | false => exact ⟨(rn, vB), rfl, by simpa using hl, h3⟩
      | true =>
        obtain ⟨vB', rn', e, hl', ho⟩ := LB_add (x := 10000 * (k + 2) + 100 * (j + 1) + f) (by omega) hl
        simp only [if_true, n10, if_false, e, bdS]
        exact ⟨(rn', vB'), rfl, hl', by show vB' 3 = _; rw [ho 3 (by omega)]; exact h3⟩)
    (by
      intro k j a hk1 hj
      simp (disch := omega) only [fX0_learn_B28, nlit, nI_leI, exS, nI_add]
      rw [if_pos (Nat.le_refl _)])
    (by
      intro k j a hk1 hj
      simp (disch := omega) only [fX0_learn_B20, nlit, nI_leI]
      rw [if_neg (by omega)])
    (by
      intro k a hk1
      simp (disch := omega) only [fX0_learn_B20, nlit, nI_leI, exS, nI_add]
      rw [if_pos (by omega)])
    (by
      intro k a hk1
      simp (disch := omega) only [fX0_learn_B12, nlit, nI_ltI]
      rw [if_neg (by omega)])
    (by
      rintro ⟨rn, vB⟩ ⟨hl, h3⟩
      simp (disch := omega) only [fX0_learn_B12, nlit, nI_ltI, exS]
      rw [if_pos (by omega)]
      exact ⟨_, rfl, vB, rn, rfl, hl, h3⟩) (rn, upd (upd vB 2 (nI 0)) 3 (nI 0)) ⟨⟨rfl, fun i hi => absurd hi (Nat.not_lt_zero _)⟩, rfl⟩
  exact ⟨vB', rn', e.trans (congrArg some hres), hl, h3⟩
/-- where a rule puts the box on a night -/
def plBy (x r : Nat) : Nat := (r % 100 + r / 100 % 100 * x) % (r / 10000)
theorem plBy_eq {p s f : Nat} (hs : s < 100) (hf : f < 100) (x : Nat) : plBy x (10000 * p + 100 * s + f) = (f + s * x) % p := by
  unfold plBy
  have e1 : (10000 * p + 100 * s + f) % 100 = f := by omega
  have e2 : (10000 * p + 100 * s + f) / 100 % 100 = s := by omega
  have e3 : (10000 * p + 100 * s + f) / 10000 = p := by omega
  rw [e1, e2, e3]
theorem plBy_lt {r : Nat} (hr : ruleNo r) (x : Nat) : plBy x r < 12 := by
  obtain ⟨h1, h2, h3, h4⟩ := hr
  have := Nat.mod_lt (r % 100 + r / 100 % 100 * x) (show r / 10000 > 0 by omega)
  unfold plBy
  omega
theorem c_placeBy {r x : Nat} (hr : ruleNo r) (hx : x < 1000) : fX0_placeBy (nI r) (nI x) = some (nI (plBy x r)) := by
  obtain ⟨h1, h2, h3, h4⟩ := hr
  have := mul12 (show r / 100 % 100 ≤ 12 by omega) hx
  simp (disch := omega) only [fX0_placeBy, nlit, pk_div, nI_ltI, nz_nI, gdT, irm_nI, pk_mul, nI_add]
  rw [if_pos (by omega)]
  rfl
theorem c_ruleNumber {l : List Nat} (hl : l.length ≤ 572) (hb : LB l vB rn) {i : Nat} (hi : i < l.length) : fX0_ruleNumber vB rn (nI i) = some (nI (l.getD i 0)) := by
  simp (disch := omega) only [fX0_ruleNumber, fX0_ruleNumber_J29, hb.1, nlit, nI_ltI, nI_leI, ok_nI, gdT, nI_clamp, hb.2 i hi]
  rw [if_neg (by omega), if_neg (by omega), if_neg (by omega)]
def cntL (q : Nat → Bool) (l : List Nat) : Nat → Nat
  | 0 => 0
  | i + 1 => cntL q l i + if q (l.getD i 0) then 1 else 0
theorem cntL_le (q : Nat → Bool) (l : List Nat) (i : Nat) : cntL q l i ≤ i := by
  induction i with
  | zero => exact Nat.le_refl _
  | succ i ih => rw [cntL]; split <;> omega
theorem getD_mem {l : List Nat} {i : Nat} (hi : i < l.length) : l.getD i 0 ∈ l := by
  rw [List.getD_eq_getElem?_getD, List.getElem?_eq_getElem hi]
  exact List.getElem_mem hi
theorem cntL_app (q : Nat → Bool) (l : List Nat) (x : Nat) : cntL q (l ++ [x]) (l ++ [x]).length = cntL q l l.length + if q x then 1 else 0 := by
  rw [List.length_append]
  show cntL q (l ++ [x]) (l.length + 1) = _
  rw [cntL]
  have e1 : ∀ i, i ≤ l.length → cntL q (l ++ [x]) i = cntL q l i := by
    intro i
    induction i with
    | zero => intro _; rfl
    | succ i ih =>
      intro hi
      rw [cntL, cntL, ih (by omega), gd_app (by omega)]
  rw [e1 _ (Nat.le_refl _)]
  simp [List.getD]
/-- how many rules have it -/
noncomputable def nR (h : Nat → Nat) (q : Nat → Bool) : Nat := cntL q (rlist h) (rlist h).length
theorem nR_le (h : Nat → Nat) (q : Nat → Bool) : nR h q ≤ 572 := Nat.le_trans (cntL_le _ _ _) (RL_len h)
theorem c_countAt (hb : LB (rlist h) vB rn) {x y : Nat} (hx : x < 1000) (hy : y < 1000) : fX0_countAt vB rn (nI x) (nI y) = some (nI (nR h (fun r => plBy x r == y))) := by
  have hl := RL_len h
  unfold fX0_countAt nR
  simp only [nlit]
  refine lp_for (fun i => (nI (cntL (fun r => plBy x r == y) (rlist h) i), nI i)) (rlist h).length ?_ ?_ (by omega) rfl
  · intro i hi
    have hn := RL_no h (getD_mem hi)
    have := plBy_lt hn x
    simp (disch := omega) only [fX0_countAt_B5, fX0_countAt_J34, hb.1, nlit, nI_leI, c_ruleNumber hl hb hi, bdS, c_placeBy hn hx, nI_eq, nI_add]
    rw [if_neg (by omega), cntL]
    by_cases q : plBy x ((rlist h).getD i 0) = y
    · rw [if_pos q, if_pos (by simpa using q)]
    · rw [if_neg q, if_neg (by simpa using q)]
  · simp (disch := omega) only [fX0_countAt_B5, hb.1, nlit, nI_leI, exS]
    rw [if_pos (Nat.le_refl _)]
theorem m_rulesBy (hw : WFh h) (hm : WFm h) (hr : ∀ k, k < 224 → r k = nI (h k)) (all : Bool) {x y : Nat} (hx : x < 1000) (hy : y < 1000) : fX9_rulesBy vM r (nI (if all then 1 else 0)) (nI x) (nI y) = some (nI (nR h (fun r => all || plBy x r == y))) := by
  unfold fX9_rulesBy
  simp only [nlit]
  obtain ⟨res, e, hres⟩ := tri (α := Int32) (ρ := Int32) h (fun l a => a = nI (cntL (fun r => all || plBy x r == y) l l.length)) (fun res => res = nI (nR h (fun r => all || plBy x r == y)))
    (fX9_rulesBy_B6 vM r (nI (if all then 1 else 0)) (nI x) (nI y)) (fun k => fX9_rulesBy_B16 vM r (nI (if all then 1 else 0)) (nI x) (nI y) (nI (k + 2))) (fun k j => fX9_rulesBy_B26 vM r (nI (if all then 1 else 0)) (nI x) (nI y) (nI (k + 2)) (nI (j + 1)))
    (fun k a => (a, nI (k + 2))) (fun k j a => (a, nI (j + 1))) (fun k j f a => (a, nI f))
    (by
      rintro k j f a hk1 hj hf rfl
      left
      have b4 := mul12 (show j + 1 ≤ 12 by omega) hx
      have hmod : (f + (j + 1) * x) % (k + 2) < k + 2 := Nat.mod_lt _ (by omega)
      simp (disch := omega) only [fX9_rulesBy_B26, fX9_rulesBy_J70, fX9_rulesBy_J66, fX9_rulesBy_J71, nlit, nI_leI, m_isRule hw hm hr, bdS, nz_nI, gdT, pk_mul, nI_add, irm_nI, nI_eq]
      rw [if_neg (by omega), pre_f]
      cases hq : rok h (k + 2) (j + 1) f with
      | false =>
        simp only [Bool.false_eq_true, if_false, ↓reduceIte, List.append_nil]
        exact ⟨_, rfl, rfl⟩
      | true =>
        have ec := cntL_app (fun r => all || plBy x r == y) (pre h k j f) (10000 * (k + 2) + 100 * (j + 1) + f)
        simp only [plBy_eq (show j + 1 < 100 by omega) (show f < 100 by omega)] at ec
        simp only [if_true, n10, if_false, ↓reduceIte]
        rw [ec]
        cases all with
        | true =>
          simp only [if_true, n10, if_false, Bool.true_or]
          exact ⟨_, rfl, rfl⟩
        | false =>
          simp only [Bool.false_eq_true, if_false, ↓reduceIte, Bool.false_or]
          by_cases q : (f + (j + 1) * x) % (k + 2) = y
          · rw [if_pos q, if_pos (by simpa using q)]
            exact ⟨_, rfl, rfl⟩
          · rw [if_neg q, if_neg (by simpa using q)]
            exact ⟨_, rfl, rfl⟩)
    (by
      intro k j a hk1 hj
      simp (disch := omega) only [fX9_rulesBy_B26, nlit, nI_leI, exS, nI_add]
      rw [if_pos (Nat.le_refl _)])
    (by
      intro k j a hk1 hj
      simp (disch := omega) only [fX9_rulesBy_B16, nlit, nI_leI]
      rw [if_neg (by omega)])
    (by
      intro k a hk1
      simp (disch := omega) only [fX9_rulesBy_B16, nlit, nI_leI, exS, nI_add]
      rw [if_pos (by omega)])
    (by
      intro k a hk1
      simp (disch := omega) only [fX9_rulesBy_B6, nlit, nI_ltI]
      rw [if_neg (by omega)])
    (by
      rintro a rfl
      simp (disch := omega) only [fX9_rulesBy_B6, nlit, nI_ltI, exS]
      rw [if_pos (by omega)]
      exact ⟨_, rfl, rfl⟩) (nI 0) rfl
  rw [e, hres]
theorem nR_all (h : Nat → Nat) : nR h (fun _ => true) = (rlist h).length := by
  have : ∀ i, cntL (fun _ => true) (rlist h) i = i := by
    intro i
    induction i with
    | zero => rfl
    | succ i ih => rw [cntL, ih]; rfl
  exact this _
theorem cntL_full {q : Nat → Bool} {l : List Nat} : ∀ n, cntL q l n = n ↔ fnd (fun i => !q (l.getD i 0)) n = none := by
  intro n
  induction n with
  | zero => exact ⟨fun _ => rfl, fun _ => rfl⟩
  | succ n ih =>
    rw [cntL, fnd_s]
    have hle := cntL_le q l n
    cases hf : fnd (fun i => !q (l.getD i 0)) n with
    | none =>
      have := ih.mpr hf
      cases hq : q (l.getD n 0) with
      | true => simp [this]
      | false => simp [this]
    | some u =>
      have hne : cntL q l n ≠ n := fun e => by have := ih.mp e; rw [hf] at this; cases this
      constructor
      · intro e; split at e <;> omega
      · intro e; cases e
noncomputable def sureb (h : Nat → Nat) (x : Nat) : Bool := nR h (fun r => plBy x r == 0) == (rlist h).length
theorem c_isSure (hb : LB (rlist h) vB rn) {x : Nat} (hx : x < 1000) : fX0_isSure vB rn (nI x) = some (nI (if sureb h x then 1 else 0)) := by
  have hl := RL_len h
  unfold fX0_isSure
  simp only [nlit]
  refine Exists.elim (lp_find (f := fX0_isSure_B2 vB rn (nI x)) (fun i => !(plBy x ((rlist h).getD i 0) == 0)) (rlist h).length (fun i t => t = nI i) (fun o res => res = nI (if o.isNone then 1 else 0)) ?_ ?_ rfl (show (rlist h).length < 5000 by omega)) (fun res hr => ?_)
  · rintro i t hi rfl
    have hn := RL_no h (getD_mem hi)
    have := plBy_lt hn x
    simp (disch := omega) only [fX0_isSure_B2, hb.1, nlit, nI_leI, c_ruleNumber hl hb hi, bdS, c_placeBy hn hx, nI_eq, exS, nI_add]
    rw [if_neg (by omega)]
    generalize plBy x ((rlist h).getD i 0) = z at this ⊢
    by_cases q : z = 0
    · rw [if_pos q]
      exact ⟨fun _ => ⟨_, rfl, rfl⟩, fun e => by simp [q] at e⟩
    · rw [if_neg q]
      exact ⟨fun e => by simp [q] at e, fun _ => ⟨_, rfl, rfl⟩⟩
  · rintro t rfl
    simp (disch := omega) only [fX0_isSure_B2, hb.1, nlit, nI_leI, exS]
    rw [if_pos (Nat.le_refl _)]
    exact ⟨_, rfl, rfl⟩
  · rw [hr.1, hr.2]
    congr 2
    unfold sureb nR
    have := cntL_full (q := fun r => plBy x r == 0) (l := rlist h) (rlist h).length
    cases hf : fnd (fun i => !(plBy x ((rlist h).getD i 0) == 0)) (rlist h).length with
    | none => rw [show (cntL (fun r => plBy x r == 0) (rlist h) (rlist h).length == (rlist h).length) = true by simpa using this.mpr hf]; rfl
    | some u =>
      have : ¬ cntL (fun r => plBy x r == 0) (rlist h) (rlist h).length = (rlist h).length := fun e => by have := this.mp e; rw [hf] at this; cases this
      rw [show (cntL (fun r => plBy x r == 0) (rlist h) (rlist h).length == (rlist h).length) = false by simpa using this]; rfl
/-- the first night from x on that is sure -/
noncomputable def surelyA (h : Nat → Nat) (x : Nat) : Int32 := orNone ((fnd (fun i => decide (0 < (rlist h).length) && sureb h (x + i)) (100 - x)).map (x + ·))
theorem c_firstSure (hb : LB (rlist h) vB rn) {x : Nat} (hx : x < 100) : fX0_firstSure vB rn (nI x) = some (surelyA h x) := by
  have hl := RL_len h
  unfold fX0_firstSure surelyA
  by_cases h0 : 0 < (rlist h).length
  · refine Exists.elim (lp_find (f := fX0_firstSure_B2 vB rn) (fun i => decide (0 < (rlist h).length) && sureb h (x + i)) (100 - x) (fun i t => t = nI (x + i)) (fun o res => res = orNone (o.map (x + ·))) ?_ ?_ rfl (show 100 - x < 5000 by omega)) (fun res hr => ?_)
    · rintro i t hi rfl
      simp (disch := omega) only [fX0_firstSure_B2, fX0_firstSure_J31, hb.1, nlit, nI_leI, c_isSure hb, bdS, exS, nI_add]
      rw [if_neg (by omega), if_neg (by omega)]
      cases hq : sureb h (x + i) with
      | false => exact ⟨fun _ => ⟨_, rfl, rfl⟩, fun e => by simp at e⟩
      | true =>
        refine ⟨fun e => by simp [h0] at e, fun _ => ?_⟩
        simp only [if_true, n10, if_false]
        exact ⟨_, rfl, rfl⟩
    · rintro t rfl
      simp (disch := omega) only [fX0_firstSure_B2, fX0_firstSure_J31, hb.1, nlit, nI_leI, exS]
      rw [if_pos (by omega)]
      exact ⟨_, rfl, rfl⟩
    · exact hr.1.trans (congrArg some hr.2)
  · rw [fnd_no (fun v _ => by simp [h0]), lp]
    simp (disch := omega) only [fX0_firstSure_B2, fX0_firstSure_J31, hb.1, nlit, nI_leI, exS]
    rw [if_neg (by omega), if_pos (by omega)]
    rfl
theorem m_surelyLoop (hw : WFh h) (hm : WFm h) (hr : ∀ k, k < 224 → r k = nI (h k)) {x : Nat} (hx : x < 100) : lp (fX9_surely_B43 r) 5000 (nI (rlist h).length, nI x, vM) = some (surelyA h x, vM) := by
  have hl := RL_len h
  unfold surelyA
  refine Exists.elim (lp_find (f := fX9_surely_B43 r) (fun i => decide (0 < (rlist h).length) && sureb h (x + i)) (100 - x) (fun i t => t = (nI (rlist h).length, nI (x + i), vM)) (fun o res => res = (orNone (o.map (x + ·)), vM)) ?_ ?_ rfl (show 100 - x < 5000 by omega)) (fun res hr => ?_)
  · rintro i t hi rfl
    have hc : fX9_rulesBy vM r (nI 0) (nI (x + i)) (nI 0) = some (nI (nR h (fun r => plBy (x + i) r == 0))) := m_rulesBy hw hm hr false (by omega) (by omega)
    have hle := nR_le h (fun r => plBy (x + i) r == 0)
    simp (disch := omega) only [fX9_surely_B43, fX9_surely_J66, nlit, nI_leI, hc, bdS, nI_eq, exS, nI_add]
    rw [if_neg (by omega)]
    by_cases h0 : 0 < (rlist h).length
    · rw [if_neg (by omega)]
      unfold sureb
      by_cases q : nR h (fun r => plBy (x + i) r == 0) = (rlist h).length
      · rw [if_pos q]
        exact ⟨fun e => by simp [h0, q] at e, fun _ => ⟨_, rfl, rfl⟩⟩
      · rw [if_neg q]
        exact ⟨fun _ => ⟨_, rfl, rfl⟩, fun e => by simp [q] at e⟩
    · rw [if_pos (by omega)]
      exact ⟨fun _ => ⟨_, rfl, rfl⟩, fun e => by simp [h0] at e⟩
  · rintro t rfl
    simp (disch := omega) only [fX9_surely_B43, nlit, nI_leI, exS]
    rw [if_pos (by omega)]
    exact ⟨_, rfl, rfl⟩
  · exact hr.1.trans (congrArg some hr.2)
end BX
