/-! ===== what holds between the calls holds at the beginning ===== -/
theorem i0_a : gi uI 0 14 = gi uI 272 2 ∧ gl uI 0 15 = gl uI 272 3 ∧ gl uI 0 16 = gl uI 272 4 ∧ gi uI 0 17 = gi uI 272 16 ∧ gi uI 0 18 = gi uI 272 17 := by decide +kernel
theorem i0_tap : gi uI 0 13 = nI 0 ∧ gi uI 272 10 = nI 0 := by decide +kernel
theorem i0_try : ∀ t, t < 4 → gi uI (50 + 2 * t) 1 = nI 0 ∧ gi uI 275 t = nI 0 ∧ gi uI (50 + 2 * t) 2 = -1 ∧ gi uI 276 t = -1 := by decide +kernel
theorem i0_lv : gi uI 46 0 = 0 ∧ gi uI 272 42 = 0 := by decide +kernel
theorem i0_wr : gi uI 34 1 = nI 901 ∧ gi uI 40 1 = nI 301 ∧ ∀ i, i < 28 → gl uI 35 i = wordK i ∧ gl uI 41 i = wordK i := by decide +kernel
theorem i0_md : gi uI 272 23 = -1 ∧ gi uI 272 24 = -1 ∧ gi uI 272 25 = xb false := by decide +kernel
theorem i0_mk : gi uI 0 10 = nI 0 ∧ gi uI 272 43 = nI 0 := by decide +kernel
theorem i0_ng : gi uI 58 0 = 0 ∧ gi uI 58 2 = 0 ∧ gi uI 273 (0 + 4) = -1 := by decide +kernel
theorem i0_rN : ∀ f, f < 24 → rlN D0.1 f ≤ 12 := by decide +kernel
theorem i0_lr : ∀ f, f < 24 → ∀ i, i < 12 → i < rlN D0.1 f → gi uI (83 + rlO f) (rlS f + i) = nI (D0.1 f i) := by decide +kernel
theorem i0_rr : ∀ f, f < 23 → ∀ i, i < rkM f → gi uI 273 (0 + rk f i) = rv D0.1 f i := by decide +kernel
theorem INV0 : INV uI := by
  have ok := D0_ok.1
  refine ⟨i0_a.1, i0_a.2.1, i0_a.2.2.1, i0_a.2.2.2.1, i0_a.2.2.2.2, ⟨0, by omega, i0_tap.1, i0_tap.2, fun i hi => absurd hi (Nat.not_lt_zero _)⟩, fun t ht => ?_, Or.inl i0_lv, i0_wr, i0_md, ⟨0, by omega, i0_mk.1, i0_mk.2, fun j hj => absurd hj (Nat.not_lt_zero _)⟩, D0.1, ?_, ?_, ok, ?_, D0_ok.2.1.2.2.2.2, ⟨fun i hi => absurd hi (Nat.not_lt_zero _), fun i hi => absurd hi (Nat.not_lt_zero _), fun i hi => absurd hi (Nat.not_lt_zero _)⟩, Or.inl i0_ng⟩
  · obtain ⟨h1, h2, h3, h4⟩ := i0_try t ht
    exact ⟨0, by omega, h1, h2, Or.inl ⟨h3, h4⟩⟩
  · exact fun f hf i hi => i0_lr f hf i (Nat.lt_of_lt_of_le hi (i0_rN f hf)) hi
  · exact fun f hf i hi => i0_rr f hf i (Nat.lt_of_lt_of_le hi (rrN_le ok.r ok.d ok.e f))
  · rw [D0_ok.2.1.1]; omega
