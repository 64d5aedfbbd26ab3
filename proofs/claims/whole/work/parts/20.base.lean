/-! MATH 1: numbers, guards, loops, bits -/
theorem nlit (n : Nat) : (OfNat.ofNat n : Int32) = nI n := rfl
theorem gdT {α : Type} (x : Option α) : gd true x = x := rfl
theorem exS {ρ σ : Type} (r : ρ) : (ex (some r) : Option (ρ ⊕ σ)) = some (.inl r) := rfl
theorem bdS {α β : Type} (a : α) (k : α → Option β) : (some a).bind k = k a := rfl
theorem ok_nI {i n : Nat} (h : i < n) (hn : n < 2 ^ 31) : okI (nI i) n = true := decide_eq_true (p := ¬ (nI i < 0 ∨ n ≤ (nI i).toNatClampNeg)) (vp_in_nI h hn)
theorem nz_nI {a : Nat} (h0 : 0 < a) (h : a < 2 ^ 31) : nzI (nI a) = true := decide_eq_true (nI_ne0 h0 h)
theorem irm_nI {a d : Nat} (ha : a < 2 ^ 31) (h0 : 0 < d) (hd : d < 2 ^ 31) : irm (nI a) (nI d) = nI (a % d) := pk_rem ha h0 hd
theorem isB_0 : isB (nI 0) = true := rfl
theorem isB_1 : isB (nI 1) = true := rfl
theorem nI_neg1 {a : Nat} (h : a < 2 ^ 31) : ¬ nI a = -1 := fun e => nI_pos h (by rw [e]; decide)
theorem nI_neg2 {a : Nat} (h : a < 2 ^ 31) : ¬ nI a = -2 := fun e => nI_pos h (by rw [e]; decide)
theorem nI_inj {a b : Nat} (ha : a < 2 ^ 31) (hb : b < 2 ^ 31) (h : nI a = nI b) : a = b := (nI_eq ha hb).mp h
/-- an int is a small number, or it isn't in the range -/
theorem i32_or (x : Int32) (n : Nat) (hn : n < 2 ^ 31) : (∃ j, j < n ∧ x = nI j) ∨ (x < 0 ∨ nI n ≤ x) := by
  rcases pk_ix x hn with h | h | h
  · exact Or.inr (Or.inl h)
  · exact Or.inr (Or.inr h)
  · exact Or.inl h
theorem lp_inv {σ ρ : Type} {f : σ → Option (ρ ⊕ σ)} (I : Nat → σ → Prop) (Q : ρ → Prop) (n : Nat)
    (hs : ∀ i s, i < n → I i s → (∃ s', f s = some (.inr s') ∧ I (i + 1) s') ∨ ∃ r, f s = some (.inl r) ∧ Q r)
    (he : ∀ s, I n s → ∃ r, f s = some (.inl r) ∧ Q r) : ∀ (fuel i : Nat) (s : σ), i ≤ n → I i s → n - i < fuel → ∃ r, lp f fuel s = some r ∧ Q r := by
  intro fuel
  induction fuel with
  | zero => intro i s hi h hf; omega
  | succ fuel ih =>
    intro i s hi h hf
    rw [lp]
    rcases Nat.lt_or_ge i n with hl | hg
    · rcases hs i s hl h with ⟨s', e, h'⟩ | ⟨r, e, hq⟩
      · rw [e]; exact ih (i + 1) s' hl h' (by omega)
      · rw [e]; exact ⟨r, rfl, hq⟩
    · obtain rfl : i = n := by omega
      obtain ⟨r, e, hq⟩ := he s h
      rw [e]; exact ⟨r, rfl, hq⟩
/-- a loop whose states are known: it goes from S 0 to S n, and ends there -/
theorem lp_for {σ ρ : Type} {f : σ → Option (ρ ⊕ σ)} (S : Nat → σ) (n : Nat) {r : ρ} (hs : ∀ i, i < n → f (S i) = some (.inr (S (i + 1)))) (he : f (S n) = some (.inl r)) {fuel : Nat} (hf : n < fuel) {s0 : σ} (h0 : s0 = S 0) : lp f fuel s0 = some r := by
  obtain ⟨r', e, hq⟩ := lp_inv (fun i s => s = S i) (fun x => x = r) n (fun i s hi h => Or.inl ⟨S (i + 1), by rw [h]; exact hs i hi, rfl⟩) (fun s h => ⟨r, by rw [h]; exact he, rfl⟩) fuel 0 s0 (Nat.zero_le _) h0 (by omega)
  rw [e, hq]
/-- a loop with a measure -/
theorem lp_mu {σ ρ : Type} {f : σ → Option (ρ ⊕ σ)} (I : σ → Prop) (μ : σ → Nat) (Q : ρ → Prop)
    (hs : ∀ s, I s → (∃ s', f s = some (.inr s') ∧ I s' ∧ μ s' < μ s) ∨ ∃ r, f s = some (.inl r) ∧ Q r) : ∀ (fuel : Nat) (s : σ), I s → μ s < fuel → ∃ r, lp f fuel s = some r ∧ Q r := by
  intro fuel
  induction fuel with
  | zero => intro s h hf; omega
  | succ fuel ih =>
    intro s h hf
    rw [lp]
    rcases hs s h with ⟨s', e, h', hm⟩ | ⟨r, e, hq⟩
    · rw [e]; exact ih s' h' (by omega)
    · rw [e]; exact ⟨r, rfl, hq⟩
/-! bits -/
theorem nI_or (a b : Nat) : nI a ||| nI b = nI (a ||| b) := by
  apply Int32.toBitVec_inj.1
  show BitVec.ofNat 32 a ||| BitVec.ofNat 32 b = BitVec.ofNat 32 (a ||| b)
  apply BitVec.eq_of_getLsbD_eq
  intro i hi
  simp [hi]
theorem nI_and (a b : Nat) : nI a &&& nI b = nI (a &&& b) := by
  apply Int32.toBitVec_inj.1
  show BitVec.ofNat 32 a &&& BitVec.ofNat 32 b = BitVec.ofNat 32 (a &&& b)
  apply BitVec.eq_of_getLsbD_eq
  intro i hi
  simp [hi]
theorem nI_xor (a b : Nat) : nI a ^^^ nI b = nI (a ^^^ b) := by
  apply Int32.toBitVec_inj.1
  show BitVec.ofNat 32 a ^^^ BitVec.ofNat 32 b = BitVec.ofNat 32 (a ^^^ b)
  apply BitVec.eq_of_getLsbD_eq
  intro i hi
  simp [hi]
theorem sh_l : ∀ n, n < 32 → ((nI n &&& 31).toBitVec.smod 32).toNat = n := by decide +kernel
theorem isr_nI {a t : Nat} (ha : a < 2 ^ 31) (ht : t < 32) : isr (nI a) (nI t) = nI (a / 2 ^ t) := pk_shrN ha _ t (sh_l t ht)
theorem isl_1 {t : Nat} (ht : t < 32) : isl (nI 1) (nI t) = nI (2 ^ t) := by
  have h : 1 * 2 ^ t < 2 ^ 32 := by rw [Nat.one_mul]; exact Nat.pow_lt_pow_right (by omega) ht
  have := pk_shlN (n := 1) (nI t &&& 31) t (sh_l t ht) h
  rw [Nat.one_mul] at this
  exact this
theorem bit_nI {a t : Nat} (ha : a < 2 ^ 31) (ht : t < 32) : isr (nI a) (nI t) &&& nI 1 = nI (if a.testBit t then 1 else 0) := by
  rw [isr_nI ha ht, nI_and, Nat.and_one_is_mod, Nat.testBit_eq_decide_div_mod_eq]
  congr 1
  by_cases h : a / 2 ^ t % 2 = 1
  · simp [h]
  · have : a / 2 ^ t % 2 = 0 := by omega
    simp [this]
def bm (p : Nat → Bool) : Nat → Nat
  | 0 => 0
  | n + 1 => bm p n ||| (if p n then 2 ^ n else 0)
theorem bm_bit (p : Nat → Bool) (n t : Nat) : (bm p n).testBit t = (decide (t < n) && p t) := by
  induction n with
  | zero => simp [bm]
  | succ n ih =>
    rw [bm, Nat.testBit_or, ih]
    by_cases hp : p n
    · rw [if_pos hp, Nat.testBit_two_pow]
      by_cases h1 : n = t
      · subst h1; simp [hp]
      · by_cases h2 : t < n
        · simp [h1, h2, show t < n + 1 by omega]
        · simp [h1, h2, show ¬ t < n + 1 by omega]
    · rw [if_neg hp]
      by_cases h1 : n = t
      · subst h1; simp [hp]
      · by_cases h2 : t < n
        · simp [h2, show t < n + 1 by omega]
        · simp [h2, show ¬ t < n + 1 by omega]
theorem bm_lt (p : Nat → Bool) (n : Nat) : bm p n < 2 ^ n := by
  apply Nat.lt_pow_two_of_testBit
  intro i hi
  rw [bm_bit]
  simp [show ¬ i < n by omega]
theorem bm_ext {p q : Nat → Bool} {n : Nat} (h : ∀ t, t < n → p t = q t) : bm p n = bm q n := by
  apply Nat.eq_of_testBit_eq
  intro t
  rw [bm_bit, bm_bit]
  by_cases ht : t < n
  · rw [h t ht]
  · simp [ht]
theorem bm_of {a n : Nat} (h : a < 2 ^ n) : a = bm (fun t => a.testBit t) n := by
  apply Nat.eq_of_testBit_eq
  intro t
  rw [bm_bit]
  by_cases ht : t < n
  · simp [ht]
  · have : a < 2 ^ t := Nat.lt_of_lt_of_le h (Nat.pow_le_pow_right (by omega) (by omega))
    rw [Nat.testBit_lt_two_pow this]
    simp [ht]
theorem bm_inj {p q : Nat → Bool} {n : Nat} (h : bm p n = bm q n) : ∀ t, t < n → p t = q t := by
  intro t ht
  have h1 := bm_bit p n t
  rw [h, bm_bit q n t] at h1
  simpa [ht] using h1.symm
theorem bm_7 (p : Nat → Bool) {n : Nat} (h : n ≤ 7) : bm p n < 128 := Nat.lt_of_lt_of_le (bm_lt p n) (Nat.pow_le_pow_right (n := 2) (by omega) h)
theorem n10 : (nI 1 = nI 0) = False := eq_false (by decide)
