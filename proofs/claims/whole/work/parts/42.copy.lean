/-! ===== copies of lands ===== -/
def cpD (o o1 : Nat) (D E : List (Nat × Nat × Nat)) (u0 u : xM) : Prop :=
  (∀ t ∈ D, ∀ i, t.2.1 ≤ i → i < t.2.1 + t.2.2 → gi u (o + t.1) i = gi u0 (o1 + t.1) i) ∧ (∀ t ∈ E, ∀ i, t.2.1 ≤ i → i < t.2.1 + t.2.2 → gl u (o + t.1) i = gl u0 (o1 + t.1) i) ∧ xsame (oLand o) u0 u
def cpOK (D : List (Nat × Nat × Nat)) (k lo n : Nat) : Bool := D.all (fun t => t.1 != k || decide (lo + n ≤ t.2.1) || decide (t.2.1 + t.2.2 ≤ lo))
theorem cpOK_use {D : List (Nat × Nat × Nat)} {k lo n : Nat} (h : cpOK D k lo n = true) {t : Nat × Nat × Nat} (ht : t ∈ D) {i : Nat} (h1 : t.2.1 ≤ i) (h2 : i < t.2.1 + t.2.2) : ¬ (t.1 = k ∧ lo ≤ i ∧ i < lo + n) := by
  have := List.all_eq_true.mp h t ht
  simp only [Bool.or_eq_true, bne_iff_ne, ne_eq, decide_eq_true_eq] at this
  rintro ⟨a, b, c⟩
  rcases this with (z | z) | z
  · exact z a
  · omega
  · omega
section CPD
variable {o o1 : Nat} {D E : List (Nat × Nat × Nat)} {u0 u u1 : xM}
theorem cpD.nil : cpD o o1 [] [] u0 u0 := ⟨fun t h => absurd h List.not_mem_nil, fun t h => absurd h List.not_mem_nil, xsame.rf⟩
theorem cpD.si (h : cpD o o1 D E u0 u) (hoo : o + 27 ≤ o1 ∨ o1 + 27 ≤ o) (k j : Nat) (hk : k < 27) (hn : cpOK D k j 1 = true) (hu : u1 = si u (o + k) j (gi u (o1 + k) j)) : cpD o o1 ((k, j, 1) :: D) E u0 u1 := by
  subst hu
  refine ⟨fun t ht i h1 h2 => ?_, fun t ht i h1 h2 => ?_, h.2.2.tr (xsame.si (by unfold oLand; omega))⟩
  · rw [gi_si]
    rcases List.mem_cons.mp ht with rfl | ht
    · have : i = j := by dsimp only at h1 h2; omega
      subst this
      rw [if_pos ⟨rfl, rfl⟩]
      exact h.2.2.1 _ _ (by unfold oLand; omega)
    · rw [if_neg]
      · exact h.1 t ht i h1 h2
      · rintro ⟨a, b⟩
        exact cpOK_use hn ht h1 h2 ⟨by omega, by omega, by omega⟩
  · rw [gl_si]
    exact h.2.1 t ht i h1 h2
theorem cpD.cpi (h : cpD o o1 D E u0 u) (hoo : o + 27 ≤ o1 ∨ o1 + 27 ≤ o) (k n : Nat) (hk : k < 27) (hn : cpOK D k 0 n = true) (hu : u1 = cpi u (o1 + k) 0 (o + k) 0 n) : cpD o o1 ((k, 0, n) :: D) E u0 u1 := by
  subst hu
  refine ⟨fun t ht i h1 h2 => ?_, fun t ht i h1 h2 => ?_, h.2.2.tr (xsame.cpi (by unfold oLand; omega))⟩
  · rw [gi_cpi]
    rcases List.mem_cons.mp ht with rfl | ht
    · rw [if_pos ⟨rfl, by omega, by dsimp only at h2; omega⟩]
      rw [h.2.2.1 _ _ (by unfold oLand; omega)]
      congr 1; omega
    · rw [if_neg]
      · exact h.1 t ht i h1 h2
      · rintro ⟨a, b, c⟩
        exact cpOK_use hn ht h1 h2 ⟨by omega, by omega, by omega⟩
  · rw [gl_cpi]
    exact h.2.1 t ht i h1 h2
theorem cpD.cpl (h : cpD o o1 D E u0 u) (hoo : o + 27 ≤ o1 ∨ o1 + 27 ≤ o) (k n : Nat) (hk : k < 27) (hn : cpOK E k 0 n = true) (hu : u1 = cpl u (o1 + k) 0 (o + k) 0 n) : cpD o o1 D ((k, 0, n) :: E) u0 u1 := by
  subst hu
  refine ⟨fun t ht i h1 h2 => ?_, fun t ht i h1 h2 => ?_, h.2.2.tr (xsame.cpl (by unfold oLand; omega))⟩
  · rw [gi_cpl]
    exact h.1 t ht i h1 h2
  · rw [gl_cpl]
    rcases List.mem_cons.mp ht with rfl | ht
    · rw [if_pos ⟨rfl, by omega, by dsimp only at h2; omega⟩]
      rw [h.2.2.2 _ _ (by unfold oLand; omega)]
      congr 1; omega
    · rw [if_neg]
      · exact h.2.1 t ht i h1 h2
      · rintro ⟨a, b, c⟩
        exact cpOK_use hn ht h1 h2 ⟨by omega, by omega, by omega⟩
/-- what cells of a land hold its numbers and names: they are the other's -/
def cpAll (o o1 : Nat) (u0 u : xM) : Prop := (∀ f, f < 24 → ∀ i, i < 12 → (rlO f = 0 ∨ rlO f = 1 ∨ rlO f = 9 → i = 0) → (i < 7 ∨ ¬ (4 ≤ f ∧ f ≤ 9)) → (i < 10 ∨ ¬ (10 ≤ f ∧ f ≤ 14)) → (i < 4 ∨ ¬ (15 ≤ f ∧ f ≤ 17)) → gi u (o + rlO f) (rlS f + i) = gi u0 (o1 + rlO f) (rlS f + i)) ∧
  (∀ i, i < 7 → gl u (o + 2) i = gl u0 (o1 + 2) i) ∧ (∀ i, i < 10 → gl u (o + 10) i = gl u0 (o1 + 10) i) ∧ (∀ i, i < 4 → gl u (o + 17) i = gl u0 (o1 + 17) i) ∧ xsame (oLand o) u0 u
theorem cp_all : ((List.range 24).all fun f => (List.range 12).all fun i => decide ((rlO f = 0 ∨ rlO f = 1 ∨ rlO f = 9 → i = 0) → (i < 7 ∨ ¬ (4 ≤ f ∧ f ≤ 9)) → (i < 10 ∨ ¬ (10 ≤ f ∧ f ≤ 14)) → (i < 4 ∨ ¬ (15 ≤ f ∧ f ≤ 17)) → ([(0, 9, 1), (0, 8, 1), (21, 0, 12), (20, 0, 4), (19, 0, 4), (18, 0, 4), (0, 2, 1), (16, 0, 12), (15, 0, 10), (14, 0, 10), (13, 0, 10), (12, 0, 10), (11, 0, 10), (9, 2, 1), (9, 1, 1), (9, 0, 1), (8, 0, 7), (7, 0, 7), (6, 0, 7), (5, 0, 7), (4, 0, 7), (3, 0, 7), (1, 1, 1), (1, 0, 1)] : List (Nat × Nat × Nat)).any (fun t => t.1 == rlO f && decide (t.2.1 ≤ rlS f + i) && decide (rlS f + i < t.2.1 + t.2.2)) = true)) = true := by decide +kernel
theorem cp_fin (h : cpD o o1 [(0, 9, 1), (0, 8, 1), (21, 0, 12), (20, 0, 4), (19, 0, 4), (18, 0, 4), (0, 2, 1), (16, 0, 12), (15, 0, 10), (14, 0, 10), (13, 0, 10), (12, 0, 10), (11, 0, 10), (9, 2, 1), (9, 1, 1), (9, 0, 1), (8, 0, 7), (7, 0, 7), (6, 0, 7), (5, 0, 7), (4, 0, 7), (3, 0, 7), (1, 1, 1), (1, 0, 1)] [(17, 0, 4), (10, 0, 10), (2, 0, 7)] u0 u) : cpAll o o1 u0 u := by
  refine ⟨fun f hf i hi a b c d => ?_, fun i hi => ?_, fun i hi => ?_, fun i hi => ?_, h.2.2⟩
  · have h1 := cp_all
    simp only [List.all_eq_true, List.mem_range, decide_eq_true_eq] at h1
    have h2 := h1 f hf i hi a b c d
    obtain ⟨t, ht, h3⟩ := List.any_eq_true.mp h2
    simp only [Bool.and_eq_true, beq_iff_eq, decide_eq_true_eq] at h3
    have h4 := h.1 t ht (rlS f + i) h3.1.2 h3.2
    rw [h3.1.1] at h4
    exact h4
  · exact h.2.1 (2, 0, 7) (by simp) i (by simp) (by simpa using hi)
  · exact h.2.1 (10, 0, 10) (by simp) i (by simp) (by simpa using hi)
  · exact h.2.1 (17, 0, 4) (by simp) i (by simp) (by simpa using hi)
theorem k_copyFrom {Q : xM → Prop} (hoo : o + 27 ≤ o1 ∨ o1 + 27 ≤ o) (hq : ∀ u', cpAll o o1 u u' → Q u') : p_X1_copyFrom o o1 u Q := by
  have C : cpD o o1 [] [] u u := cpD.nil
  unfold p_X1_copyFrom p_X7_copyFrom
  intro w9 hw9
  replace C := C.si hoo 1 0 (by decide) (by decide) hw9
  clear hw9
  intro w9 hw9
  replace C := C.si hoo 1 1 (by decide) (by decide) hw9
  clear hw9
  intro w9 hw9
  replace C := C.cpl hoo 2 7 (by decide) (by decide) hw9
  clear hw9
  intro w9 hw9
  replace C := C.cpi hoo 3 7 (by decide) (by decide) hw9
  clear hw9
  intro w9 hw9
  replace C := C.cpi hoo 4 7 (by decide) (by decide) hw9
  clear hw9
  intro w9 hw9
  replace C := C.cpi hoo 5 7 (by decide) (by decide) hw9
  clear hw9
  intro w9 hw9
  replace C := C.cpi hoo 6 7 (by decide) (by decide) hw9
  clear hw9
  intro w9 hw9
  replace C := C.cpi hoo 7 7 (by decide) (by decide) hw9
  clear hw9
  intro w9 hw9
  replace C := C.cpi hoo 8 7 (by decide) (by decide) hw9
  clear hw9
  unfold p_X0_copyFrom
  intro w9 hw9
  replace C := C.si hoo 9 0 (by decide) (by decide) hw9
  clear hw9
  intro w9 hw9
  replace C := C.si hoo 9 1 (by decide) (by decide) hw9
  clear hw9
  intro w9 hw9
  replace C := C.si hoo 9 2 (by decide) (by decide) hw9
  clear hw9
  intro w9 hw9
  replace C := C.cpl hoo 10 10 (by decide) (by decide) hw9
  clear hw9
  intro w9 hw9
  replace C := C.cpi hoo 11 10 (by decide) (by decide) hw9
  clear hw9
  intro w9 hw9
  replace C := C.cpi hoo 12 10 (by decide) (by decide) hw9
  clear hw9
  intro w9 hw9
  replace C := C.cpi hoo 13 10 (by decide) (by decide) hw9
  clear hw9
  intro w9 hw9
  replace C := C.cpi hoo 14 10 (by decide) (by decide) hw9
  clear hw9
  intro w9 hw9
  replace C := C.cpi hoo 15 10 (by decide) (by decide) hw9
  clear hw9
  intro w9 hw9
  replace C := C.cpi hoo 16 12 (by decide) (by decide) hw9
  clear hw9
  intro w9 hw9
  replace C := C.si hoo 0 2 (by decide) (by decide) hw9
  clear hw9
  intro w9 hw9
  replace C := C.cpl hoo 17 4 (by decide) (by decide) hw9
  clear hw9
  intro w9 hw9
  replace C := C.cpi hoo 18 4 (by decide) (by decide) hw9
  clear hw9
  intro w9 hw9
  replace C := C.cpi hoo 19 4 (by decide) (by decide) hw9
  clear hw9
  intro w9 hw9
  replace C := C.cpi hoo 20 4 (by decide) (by decide) hw9
  clear hw9
  intro w9 hw9
  replace C := C.cpi hoo 21 12 (by decide) (by decide) hw9
  clear hw9
  intro w9 hw9
  replace C := C.si hoo 0 8 (by decide) (by decide) hw9
  clear hw9
  intro w9 hw9
  replace C := C.si hoo 0 9 (by decide) (by decide) hw9
  clear hw9
  exact hq _ (cp_fin C)
theorem LR.cp {σ : aS} (h : LR o1 σ u0) (ok : okS σ) (c : cpAll o o1 u0 u) : LR o σ u := fun f hf i hi => by
  have h7 := ok.r
  have h10 := ok.d
  have h4 := ok.e
  have hl := hi
  unfold rlN at hi
  rw [c.1 f hf i (by split at hi <;> (try split at hi) <;> (try split at hi) <;> (try split at hi) <;> omega) (fun z => rl_lim z hf hl) (by split at hi <;> omega) (by split at hi <;> (try split at hi) <;> omega) (by split at hi <;> (try split at hi) <;> (try split at hi) <;> omega)]
  exact h f hf i hl
end CPD
