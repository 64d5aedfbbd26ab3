/-! both sides as they are made -/
theorem RL_init {tc mn mp mf plc ut uc un uw fc kd sz d1 d2 wd srt nxt rn tm rr st und kp now : Nat → Int32} {past ims : Nat → Nat → Int32} {vN vR vH vU vD vB vM : Nat → Int32} (h1 : ∀ k, vN k = 0) (h2 : ∀ k, vR k = 0) (h3 : ∀ k, vH k = 0) (h4 : ∀ k, vU k = 0) (h5 : ∀ k, vD k = 0) (h7 : ∀ k, k ≠ 10 → vM k = 0) (h8 : ∀ k, now k = 0) : RLn vN vR tc vH vU mn mp mf plc ut uc un uw fc kd sz d1 d2 wd srt nxt vD now past ims vB rn vM tm rr st und kp := by
  refine ⟨⟨by rw [h1, h7 11 (by omega)], by rw [h1, h7 9 (by omega)], fun e => ?_⟩, ⟨0, fun _ => 0, by omega, by rw [h2]; rfl, by rw [h7 2 (by omega)]; rfl, ?_⟩, Or.inl ⟨by rw [h7 14 (by omega)]; rfl, by rw [h7 20 (by omega)]; rfl, by rw [h7 21 (by omega)]; rfl, fun k _ => by rw [h3]; rfl, by rw [h4]; rfl, by rw [h5]; rfl, by rw [h5]; rfl, by rw [h8]; rfl, 0, by omega, by rw [h5]; rfl⟩⟩
  · rw [h7 11 (by omega)] at e
    exact absurd e (by decide)
  · exact ⟨by omega, fun k hk => by omega⟩
