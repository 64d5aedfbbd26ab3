/-! MATH 29: heirs -/
theorem duo {α σ1 σ2 ρ : Type} (n1 n2 : Nat) (R : Nat → α → Prop) (Q : ρ → Prop) (F1 : σ1 → Option (ρ ⊕ σ1)) (F2 : Nat → σ2 → Option ((ρ ⊕ σ1) ⊕ σ2)) (m1 : Nat → α → σ1) (m2 : Nat → Nat → α → σ2)
    (h2s : ∀ a b x, a < n1 → b < n2 → R (n2 * a + b) x → (∃ x', F2 a (m2 a b x) = some (.inr (m2 a (b + 1) x')) ∧ R (n2 * a + b + 1) x') ∨ ∃ r, F2 a (m2 a b x) = some (.inl (.inl r)) ∧ Q r)
    (h2e : ∀ a x, a < n1 → F2 a (m2 a n2 x) = some (.inl (.inr (m1 (a + 1) x))))
    (h1s : ∀ a x, a < n1 → F1 (m1 a x) = lp (F2 a) 5000 (m2 a 0 x))
    (h1e : ∀ x, R (n2 * n1) x → ∃ r, F1 (m1 n1 x) = some (.inl r) ∧ Q r) (l1 : n1 < 5000) (l2 : n2 < 5000) (x0 : α) (h0 : R 0 x0) : ∃ r, lp F1 5000 (m1 0 x0) = some r ∧ Q r := by
  have L2 : ∀ a x, a < n1 → R (n2 * a) x → (∃ x', lp (F2 a) 5000 (m2 a 0 x) = some (.inr (m1 (a + 1) x')) ∧ R (n2 * (a + 1)) x') ∨ ∃ r, lp (F2 a) 5000 (m2 a 0 x) = some (.inl r) ∧ Q r := by
    intro a x ha hR
    obtain ⟨res, e, hres⟩ := lp_inv (f := F2 a) (fun b s => ∃ x, s = m2 a b x ∧ R (n2 * a + b) x) (fun res => (∃ x', res = .inr (m1 (a + 1) x') ∧ R (n2 * (a + 1)) x') ∨ ∃ r, res = .inl r ∧ Q r) n2 (by
      rintro b s hb ⟨x, rfl, hR⟩
      rcases h2s a b x ha hb hR with ⟨x', e, hR'⟩ | ⟨r, e, hq⟩
      · exact Or.inl ⟨_, e, x', rfl, hR'⟩
      · exact Or.inr ⟨_, e, Or.inr ⟨r, rfl, hq⟩⟩) (by
      rintro s ⟨x, rfl, hR⟩
      exact ⟨_, h2e a x ha, Or.inl ⟨x, rfl, by rw [Nat.mul_succ]; exact hR⟩⟩) 5000 0 _ (Nat.zero_le _) ⟨x, rfl, hR⟩ (by omega)
    rcases hres with ⟨a', rfl, hR'⟩ | ⟨r, rfl, hq⟩
    · exact Or.inl ⟨a', e, hR'⟩
    · exact Or.inr ⟨r, e, hq⟩
  exact lp_inv (f := F1) (fun a s => ∃ x, s = m1 a x ∧ R (n2 * a) x) Q n1 (by
    rintro a s ha ⟨x, rfl, hR⟩
    rw [h1s a x ha]
    rcases L2 a x ha hR with ⟨x', e, hR'⟩ | ⟨r, e, hq⟩
    · exact Or.inl ⟨_, e, x', rfl, hR'⟩
    · exact Or.inr ⟨_, e, hq⟩) (by
    rintro s ⟨x, rfl, hR⟩
    exact h1e x hR) 5000 0 _ (Nat.zero_le _) ⟨x0, rfl, h0⟩ (by omega)
def gn (v a b : Int32) : Int32 := (if a ≤ b then (if a = b then v / 2 else 0) else v) - a * a
theorem m_heirOf (v a b : Int32) : fX9_heirOf v a b = some (gn v a b) := by
  unfold fX9_heirOf fX9_heirOf_J21 gn
  split
  · split <;> rfl
  · rfl
theorem c_gain (v a b : Int32) : fX2_gain v a b = some (gn v a b) := by
  unfold fX2_gain fX2_gain_J21 gn
  split
  · split <;> rfl
  · rfl
def dev (v : Int32) (a b d : Nat) : Bool := decide (gn v (nI a) (nI b) < gn v (nI d) (nI b)) || decide (gn v (nI b) (nI a) < gn v (nI d) (nI a))
def rb (v : Int32) (a b : Nat) : Bool := (fnd (dev v a b) 7).isNone
theorem nle_lt {x y : Int32} : ¬ x ≤ y ↔ y < x := by
  rw [Int32.le_iff_toInt_le, Int32.lt_iff_toInt_lt]
  omega
theorem c_areAtRest (v : Int32) (a b : Nat) : fX2_areAtRest v (nI a) (nI b) = some (nI (if rb v a b then 1 else 0)) := by
  unfold fX2_areAtRest
  rw [c_gain, bdS, c_gain, bdS]
  simp only [nlit]
  refine Exists.elim (lp_find (f := fX2_areAtRest_B18 v (nI a) (nI b)) (dev v a b) 7 (fun i s => s = (gn v (nI a) (nI b), gn v (nI b) (nI a), nI i)) (fun o res => res = nI (if o.isNone then 1 else 0)) ?_ ?_ rfl (show 7 < 5000 by omega)) (fun res hr => ?_)
  · rintro i s hi rfl
    simp (disch := omega) only [fX2_areAtRest_B18, fX2_areAtRest_J48, nlit, nI_ltI, c_gain, bdS, exS, nI_add]
    rw [if_neg (by omega)]
    unfold dev
    by_cases q1 : gn v (nI a) (nI b) < gn v (nI i) (nI b)
    · rw [if_pos q1]
      exact ⟨fun e => by simp [q1] at e, fun _ => ⟨_, rfl, rfl⟩⟩
    · rw [if_neg q1]
      by_cases q2 : gn v (nI b) (nI a) < gn v (nI i) (nI a)
      · rw [if_neg (fun w => nle_lt.mpr q2 w)]
        exact ⟨fun e => by simp [q2] at e, fun _ => ⟨_, rfl, rfl⟩⟩
      · have : gn v (nI i) (nI a) ≤ gn v (nI b) (nI a) := Decidable.byContradiction fun w => q2 (nle_lt.mp w)
        rw [if_pos this]
        exact ⟨fun _ => ⟨_, rfl, rfl⟩, fun e => by simp [q1, q2] at e⟩
  · rintro s rfl
    simp (disch := omega) only [fX2_areAtRest_B18, nlit, nI_ltI, exS]
    rw [if_pos (by omega)]
    exact ⟨_, rfl, rfl⟩
  · exact hr.1.trans (congrArg some hr.2)
theorem m_isRest (v : Int32) (a b : Nat) : fX9_isRest v (nI a) (nI b) = some (nI (if rb v a b then 1 else 0)) := by
  unfold fX9_isRest
  simp only [nlit]
  refine lp_for (fun i => (nI (if (fnd (dev v a b) i).isNone then 1 else 0), nI i)) 7 ?_ ?_ (by omega) rfl
  · intro i hi
    rw [fnd_s]
    simp (disch := omega) only [fX9_isRest_B5, fX9_isRest_J52, fX9_isRest_J53, nlit, nI_ltI, m_heirOf, bdS, nI_add]
    rw [if_neg (by omega)]
    cases hfn : fnd (dev v a b) i with
    | some u => rfl
    | none =>
      simp only [Option.isNone_none, if_true, n10, if_false]
      unfold dev
      by_cases q1 : gn v (nI a) (nI b) < gn v (nI i) (nI b)
      · simp [q1]
      · by_cases q2 : gn v (nI b) (nI a) < gn v (nI i) (nI a)
        · simp [q1, q2]
        · simp [q1, q2]
  · simp (disch := omega) only [fX9_isRest_B5, nlit, nI_ltI]
    rw [if_pos (by omega)]
    unfold rb
    cases (fnd (dev v a b) 7).isNone <;> rfl
def rbi (v : Int32) (i : Nat) : Bool := rb v (i / 7) (i % 7)
def restsA (v : Int32) : Nat := cnt (rbi v) 49
def restA (v : Int32) : Int32 := orNone ((fnd (rbi v) 49).map (fun i => 10 * (i / 7) + i % 7))
section HE
variable {h c : Nat → Nat} {vH vN vM : Nat → Int32}
theorem rbi_at (v : Int32) {a b : Nat} (hb : b < 7) : rbi v (7 * a + b) = rb v a b := by
  unfold rbi
  have e1 : (7 * a + b) / 7 = a := by omega
  have e2 : (7 * a + b) % 7 = b := by omega
  rw [e1, e2]
theorem c_restsLoop (v : Int32) : lp (fX8_rests_B21 vN v) 5000 (nI 0, nI 0) = some (nI (restsA v), upd vN 6 (nI 0)) := by
  obtain ⟨res, e, hres⟩ := duo (α := Int32) (ρ := Int32 × (Nat → Int32)) 7 7 (fun i x => x = nI (cnt (rbi v) i)) (fun res => res = (nI (restsA v), upd vN 6 (nI 0))) (fX8_rests_B21 vN v) (fun a => fX8_rests_B31 v (nI a)) (fun a x => (x, nI a)) (fun a b x => (x, nI b))
    (by
      rintro a b x ha hb rfl
      left
      simp (disch := omega) only [fX8_rests_B31, fX8_rests_J55, nlit, nI_ltI, c_areAtRest, bdS, nI_add]
      rw [if_neg (by omega), cnt, rbi_at v hb]
      cases rb v a b with
      | false => exact ⟨_, rfl, rfl⟩
      | true =>
        simp only [if_true, n10, if_false]
        exact ⟨_, rfl, rfl⟩)
    (by
      intro a x ha
      simp (disch := omega) only [fX8_rests_B31, nlit, nI_ltI, exS, nI_add]
      rw [if_pos (by omega)])
    (by
      intro a x ha
      simp (disch := omega) only [fX8_rests_B21, nlit, nI_ltI]
      rw [if_neg (by omega)])
    (by
      rintro x rfl
      simp (disch := omega) only [fX8_rests_B21, fX8_answer, nlit, nI_ltI, bdS, exS]
      rw [if_pos (by omega)]
      exact ⟨_, rfl, rfl⟩) (by omega) (by omega) (nI 0) rfl
  rw [e, hres]
theorem c_restLoop (v : Int32) : lp (fX8_rest_B18 vN v) 5000 (nI 0) = some (restA v, upd vN 6 (nI 0)) := by
  obtain ⟨res, e, hres⟩ := duo (α := Unit) (ρ := Int32 × (Nat → Int32)) 7 7 (fun i _ => fnd (rbi v) i = none) (fun res => res = (restA v, upd vN 6 (nI 0))) (fX8_rest_B18 vN v) (fun a => fX8_rest_B27 vN v (nI a)) (fun a _ => nI a) (fun a b _ => nI b)
    (by
      rintro a b x ha hb hn
      simp (disch := omega) only [fX8_rest_B27, fX8_answer, nlit, nI_ltI, c_areAtRest, bdS, nI_add, pk_mul, exS]
      rw [if_neg (by omega)]
      cases hq : rb v a b with
      | false =>
        left
        refine ⟨(), rfl, ?_⟩
        rw [fnd_s, hn, rbi_at v hb, hq]
        rfl
      | true =>
        right
        simp only [if_true, n10, if_false]
        refine ⟨_, rfl, ?_⟩
        have : fnd (rbi v) 49 = some (7 * a + b) := fnd_eq (by omega) (by rw [rbi_at v hb]; exact hq) (fnd_none hn)
        unfold restA
        rw [this]
        show _ = (nI (10 * ((7 * a + b) / 7) + (7 * a + b) % 7), _)
        have e1 : (7 * a + b) / 7 = a := by omega
        have e2 : (7 * a + b) % 7 = b := by omega
        rw [e1, e2])
    (by
      intro a x ha
      simp (disch := omega) only [fX8_rest_B27, nlit, nI_ltI, exS, nI_add]
      rw [if_pos (by omega)])
    (by
      intro a x ha
      simp (disch := omega) only [fX8_rest_B18, nlit, nI_ltI]
      rw [if_neg (by omega)])
    (by
      rintro x hn
      simp (disch := omega) only [fX8_rest_B18, fX8_answer, nlit, nI_ltI, bdS, exS]
      rw [if_pos (by omega)]
      refine ⟨_, rfl, ?_⟩
      unfold restA
      rw [hn]
      rfl) (by omega) (by omega) () rfl
  rw [e, hres]
theorem m_seekRests (v : Int32) : ∃ vM', fX9_seekRests vM v = some (nI (restsA v), vM') ∧ vM' 26 = restA v ∧ ∀ k, k ≠ 26 → vM' k = vM k := by
  unfold fX9_seekRests
  simp only [nlit]
  obtain ⟨res, e, v', hres, q⟩ := duo (α := Int32 × (Nat → Int32)) (ρ := Int32 × (Nat → Int32)) 7 7 (fun i x => x.1 = nI (cnt (rbi v) i) ∧ (x.2 26 = orNone ((fnd (rbi v) i).map (fun i => 10 * (i / 7) + i % 7))) ∧ (cnt (rbi v) i = 0 ↔ fnd (rbi v) i = none) ∧ ∀ k, k ≠ 26 → x.2 k = vM k) (fun res => ∃ v', res = (nI (restsA v), v') ∧ v' 26 = restA v ∧ ∀ k, k ≠ 26 → v' k = vM k) (fX9_seekRests_B10 v) (fun a => fX9_seekRests_B19 v (nI a)) (fun a x => (x.1, nI a, x.2)) (fun a b x => (x.1, nI b, x.2))
    (by
      rintro a b ⟨x1, x2⟩ ha hb ⟨rfl, h26, hz, ho⟩
      left
      have h26 : x2 26 = orNone ((fnd (rbi v) (7 * a + b)).map (fun i => 10 * (i / 7) + i % 7)) := h26
      have hc := cnt_le (rbi v) (7 * a + b)
      have e1 : (7 * a + b) / 7 = a := by omega
      have e2 : (7 * a + b) % 7 = b := by omega
      simp (disch := omega) only [fX9_seekRests_B19, fX9_seekRests_J57, fX9_seekRests_J54, nlit, nI_ltI, m_isRest, bdS, nI_add, nI_eq, pk_mul]
      rw [if_neg (by omega), cnt, fnd_s, rbi_at v hb]
      cases hq : rb v a b with
      | false =>
        refine ⟨(_, x2), rfl, rfl, ?_, ?_, ho⟩
        · show x2 26 = _
          rw [h26]
          cases fnd (rbi v) (7 * a + b) <;> rfl
        · have hz : cnt (rbi v) (7 * a + b) = 0 ↔ fnd (rbi v) (7 * a + b) = none := hz
          cases hf : fnd (rbi v) (7 * a + b) with
          | none => simp [hz.mpr hf]
          | some u =>
            have : ¬ cnt (rbi v) (7 * a + b) = 0 := fun w => by have := hz.mp w; rw [hf] at this; cases this
            simp [this]
      | true =>
        simp only [if_true, n10, if_false]
        have hz : cnt (rbi v) (7 * a + b) = 0 ↔ fnd (rbi v) (7 * a + b) = none := hz
        cases hf : fnd (rbi v) (7 * a + b) with
        | none =>
          rw [if_pos (hz.mpr hf)]
          refine ⟨(_, upd x2 26 (nI (10 * a + b))), rfl, rfl, ?_, ?_, fun k hk => ?_⟩
          · show nI (10 * a + b) = nI (10 * ((7 * a + b) / 7) + (7 * a + b) % 7)
            rw [e1, e2]
          · simp
          · show upd x2 26 _ k = _
            unfold upd; rw [if_neg hk]; exact ho k hk
        | some u =>
          have hne : ¬ cnt (rbi v) (7 * a + b) = 0 := fun w => by have := hz.mp w; rw [hf] at this; cases this
          rw [if_neg hne]
          refine ⟨(_, x2), rfl, rfl, ?_, ?_, ho⟩
          · show x2 26 = _
            rw [h26, hf]
          · simp)
    (by
      intro a x ha
      simp (disch := omega) only [fX9_seekRests_B19, nlit, nI_ltI, exS, nI_add]
      rw [if_pos (by omega)])
    (by
      intro a x ha
      simp (disch := omega) only [fX9_seekRests_B10, nlit, nI_ltI]
      rw [if_neg (by omega)])
    (by
      rintro ⟨x1, x2⟩ ⟨rfl, h26, hz, ho⟩
      simp (disch := omega) only [fX9_seekRests_B10, nlit, nI_ltI, exS]
      rw [if_pos (by omega)]
      exact ⟨_, rfl, x2, rfl, h26, ho⟩) (by omega) (by omega) (nI 0, upd vM 26 (-nI 2)) ⟨rfl, rfl, ⟨fun _ => rfl, fun _ => rfl⟩, fun k hk => by show upd vM 26 _ k = _; unfold upd; rw [if_neg hk]⟩
  exact ⟨v', e.trans (congrArg some hres), q⟩
end HE
