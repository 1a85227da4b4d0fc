/-! ===== a land of the class at its role o ===== -/
def rlO : Nat → Nat
  | 0 => 1
  | 1 => 9
  | 2 => 0
  | 3 => 0
  | 4 => 3
  | 5 => 4
  | 6 => 5
  | 7 => 6
  | 8 => 7
  | 9 => 8
  | 10 => 11
  | 11 => 12
  | 12 => 13
  | 13 => 14
  | 14 => 15
  | 15 => 18
  | 16 => 19
  | 17 => 20
  | 18 => 21
  | 19 => 16
  | 20 => 9
  | 21 => 9
  | 22 => 1
  | 23 => 0
  | _ => 0
def rlS : Nat → Nat
  | 0 => 0
  | 1 => 0
  | 2 => 2
  | 3 => 8
  | 20 => 1
  | 21 => 2
  | 22 => 1
  | 23 => 9
  | _ => 0
def rlN (σ : aS) (f : Nat) : Nat := if 4 ≤ f ∧ f ≤ 9 then σ 0 0 else if 10 ≤ f ∧ f ≤ 14 then σ 1 0 else if 15 ≤ f ∧ f ≤ 17 then σ 2 0 else if f = 18 ∨ f = 19 then 12 else 1
def LR (o : Nat) (σ : aS) (u : xM) : Prop := ∀ f, f < 24 → ∀ i, i < rlN σ f → gi u (o + rlO f) (rlS f + i) = nI (σ f i)
section RLF
variable {o : Nat} {σ : aS} {u : xM}
theorem LR.f0 (h : LR o σ u) : gi u (o + 1) 0 = nI (σ 0 0) := by simpa [rlO, rlS, rlN] using h 0 (by decide) 0 (by simp [rlN])
theorem LR.f1 (h : LR o σ u) : gi u (o + 9) 0 = nI (σ 1 0) := by simpa [rlO, rlS, rlN] using h 1 (by decide) 0 (by simp [rlN])
theorem LR.f2 (h : LR o σ u) : gi u o 2 = nI (σ 2 0) := by simpa [rlO, rlS, rlN] using h 2 (by decide) 0 (by simp [rlN])
theorem LR.f3 (h : LR o σ u) : gi u o 8 = nI (σ 3 0) := by simpa [rlO, rlS, rlN] using h 3 (by decide) 0 (by simp [rlN])
theorem LR.f4 (h : LR o σ u) {i : Nat} (hi : i < σ 0 0) : gi u (o + 3) i = nI (σ 4 i) := by simpa [rlO, rlS, rlN] using h 4 (by decide) i (by simpa [rlN] using hi)
theorem LR.f5 (h : LR o σ u) {i : Nat} (hi : i < σ 0 0) : gi u (o + 4) i = nI (σ 5 i) := by simpa [rlO, rlS, rlN] using h 5 (by decide) i (by simpa [rlN] using hi)
theorem LR.f6 (h : LR o σ u) {i : Nat} (hi : i < σ 0 0) : gi u (o + 5) i = nI (σ 6 i) := by simpa [rlO, rlS, rlN] using h 6 (by decide) i (by simpa [rlN] using hi)
theorem LR.f7 (h : LR o σ u) {i : Nat} (hi : i < σ 0 0) : gi u (o + 6) i = nI (σ 7 i) := by simpa [rlO, rlS, rlN] using h 7 (by decide) i (by simpa [rlN] using hi)
theorem LR.f8 (h : LR o σ u) {i : Nat} (hi : i < σ 0 0) : gi u (o + 7) i = nI (σ 8 i) := by simpa [rlO, rlS, rlN] using h 8 (by decide) i (by simpa [rlN] using hi)
theorem LR.f9 (h : LR o σ u) {i : Nat} (hi : i < σ 0 0) : gi u (o + 8) i = nI (σ 9 i) := by simpa [rlO, rlS, rlN] using h 9 (by decide) i (by simpa [rlN] using hi)
theorem LR.f10 (h : LR o σ u) {i : Nat} (hi : i < σ 1 0) : gi u (o + 11) i = nI (σ 10 i) := by simpa [rlO, rlS, rlN] using h 10 (by decide) i (by simpa [rlN] using hi)
theorem LR.f11 (h : LR o σ u) {i : Nat} (hi : i < σ 1 0) : gi u (o + 12) i = nI (σ 11 i) := by simpa [rlO, rlS, rlN] using h 11 (by decide) i (by simpa [rlN] using hi)
theorem LR.f12 (h : LR o σ u) {i : Nat} (hi : i < σ 1 0) : gi u (o + 13) i = nI (σ 12 i) := by simpa [rlO, rlS, rlN] using h 12 (by decide) i (by simpa [rlN] using hi)
theorem LR.f13 (h : LR o σ u) {i : Nat} (hi : i < σ 1 0) : gi u (o + 14) i = nI (σ 13 i) := by simpa [rlO, rlS, rlN] using h 13 (by decide) i (by simpa [rlN] using hi)
theorem LR.f14 (h : LR o σ u) {i : Nat} (hi : i < σ 1 0) : gi u (o + 15) i = nI (σ 14 i) := by simpa [rlO, rlS, rlN] using h 14 (by decide) i (by simpa [rlN] using hi)
theorem LR.f15 (h : LR o σ u) {i : Nat} (hi : i < σ 2 0) : gi u (o + 18) i = nI (σ 15 i) := by simpa [rlO, rlS, rlN] using h 15 (by decide) i (by simpa [rlN] using hi)
theorem LR.f16 (h : LR o σ u) {i : Nat} (hi : i < σ 2 0) : gi u (o + 19) i = nI (σ 16 i) := by simpa [rlO, rlS, rlN] using h 16 (by decide) i (by simpa [rlN] using hi)
theorem LR.f17 (h : LR o σ u) {i : Nat} (hi : i < σ 2 0) : gi u (o + 20) i = nI (σ 17 i) := by simpa [rlO, rlS, rlN] using h 17 (by decide) i (by simpa [rlN] using hi)
theorem LR.f18 (h : LR o σ u) {i : Nat} (hi : i < 12) : gi u (o + 21) i = nI (σ 18 i) := by simpa [rlO, rlS, rlN] using h 18 (by decide) i (by simpa [rlN] using hi)
theorem LR.f19 (h : LR o σ u) {i : Nat} (hi : i < 12) : gi u (o + 16) i = nI (σ 19 i) := by simpa [rlO, rlS, rlN] using h 19 (by decide) i (by simpa [rlN] using hi)
theorem LR.f20 (h : LR o σ u) : gi u (o + 9) 1 = nI (σ 20 0) := by simpa [rlO, rlS, rlN] using h 20 (by decide) 0 (by simp [rlN])
theorem LR.f21 (h : LR o σ u) : gi u (o + 9) 2 = nI (σ 21 0) := by simpa [rlO, rlS, rlN] using h 21 (by decide) 0 (by simp [rlN])
theorem LR.f22 (h : LR o σ u) : gi u (o + 1) 1 = nI (σ 22 0) := by simpa [rlO, rlS, rlN] using h 22 (by decide) 0 (by simp [rlN])
theorem LR.f23 (h : LR o σ u) : gi u o 9 = nI (σ 23 0) := by simpa [rlO, rlS, rlN] using h 23 (by decide) 0 (by simp [rlN])
theorem LR.cg {u' : xM} (h : LR o σ u) (hs : ∀ f, f < 24 → ∀ i, gi u' (o + rlO f) (rlS f + i) = gi u (o + rlO f) (rlS f + i)) : LR o σ u' := fun f hf i hi => by rw [hs f hf i]; exact h f hf i hi
theorem rl_inj : ∀ f, f < 24 → ∀ g, g < 24 → rlO f = rlO g → f = g ∨ (rlO f = 0 ∨ rlO f = 1 ∨ rlO f = 9) := by decide +kernel
theorem rl_lim {σ : aS} {f i : Nat} (h0 : rlO f = 0 ∨ rlO f = 1 ∨ rlO f = 9) (hf : f < 24) (hi : i < rlN σ f) : i = 0 := by
  have h1 : ∀ f, f < 24 → (rlO f = 0 ∨ rlO f = 1 ∨ rlO f = 9) → ¬ (4 ≤ f ∧ f ≤ 9) ∧ ¬ (10 ≤ f ∧ f ≤ 14) ∧ ¬ (15 ≤ f ∧ f ≤ 17) ∧ ¬ (f = 18 ∨ f = 19) := by decide +kernel
  obtain ⟨a, b, c, d⟩ := h1 f hf h0
  unfold rlN at hi
  rw [if_neg a, if_neg b, if_neg c, if_neg d] at hi
  omega
theorem rl_sep : ∀ f, f < 24 → ∀ g, g < 24 → rlO f = rlO g → rlS f = rlS g → f = g := by decide +kernel
/-- one number is another one -/
theorem LR.up {f i v : Nat} {x : Int32} {j k : Nat} (h : LR o σ u) (hf : f < 24) (h0 : f ≠ 0) (h1 : f ≠ 1) (h2 : f ≠ 2) (hi : i < rlN σ f) (hx : x = nI v) (hj : j = o + rlO f) (hk : k = rlS f + i) : LR o (sU σ f i v) (si u j k x) := by
  subst hx; subst hj; subst hk
  have hn : ∀ g, rlN (sU σ f i v) g = rlN σ g := fun g => by
    have e0 : sU σ f i v 0 0 = σ 0 0 := by rw [sU_at, if_neg]; rintro ⟨a, -⟩; exact h0 a.symm
    have e1 : sU σ f i v 1 0 = σ 1 0 := by rw [sU_at, if_neg]; rintro ⟨a, -⟩; exact h1 a.symm
    have e2 : sU σ f i v 2 0 = σ 2 0 := by rw [sU_at, if_neg]; rintro ⟨a, -⟩; exact h2 a.symm
    unfold rlN
    rw [e0, e1, e2]
  intro g hg b hb
  rw [hn] at hb
  rw [gi_si, sU_at]
  by_cases hgf : g = f
  · subst hgf
    by_cases hbi : b = i
    · subst hbi
      rw [if_pos ⟨rfl, rfl⟩, if_pos ⟨rfl, rfl⟩]
    · rw [if_neg (by rintro ⟨-, z⟩; omega), if_neg (by rintro ⟨-, z⟩; exact hbi z)]
      exact h g hg b hb
  · rw [if_neg, if_neg (by rintro ⟨z, -⟩; exact hgf z)]
    · exact h g hg b hb
    · rintro ⟨z1, z2⟩
      have e1 : rlO g = rlO f := by omega
      rcases rl_inj g hg f hf e1 with e | e
      · exact hgf e
      · have b0 := rl_lim e hg hb
        have i0 := rl_lim (e1 ▸ e) hf hi
        exact hgf (rl_sep g hg f hf e1 (by omega))
/-- scratch: 22 .. 26, what isn't of the numbers -/
theorem LR.scr {k i : Nat} {x : Int32} (h : LR o σ u) (hk : ∀ f, f < 24 → k ≠ o + rlO f) : LR o σ (si u k i x) := h.cg (fun f hf b => by
  rw [gi_si, if_neg]
  rintro ⟨z, -⟩
  exact hk f hf z.symm)
theorem rl_o : ∀ f, f < 24 → rlO f < 22 := by decide +kernel
theorem LR.scr' {k i n : Nat} {x : Int32} (h : LR o σ u) (hn : 22 ≤ n) (hk : k = o + n) : LR o σ (si u k i x) := h.scr (fun f hf z => by have := rl_o f hf; omega)
theorem LR.same {u' : xM} (h : LR o σ u) (P : Nat → Prop) (hs : xsame P u u') (hP : ∀ n, n < 22 → P (o + n)) : LR o σ u' := h.cg (fun f hf b => hs.1 _ _ (hP _ (rl_o f hf)))
/-- two lands' numbers that agree -/
theorem LR.eq {τ : aS} (h : LR o σ u) (h0 : τ 0 0 = σ 0 0) (h1 : τ 1 0 = σ 1 0) (h2 : τ 2 0 = σ 2 0) (he : ∀ f, f < 24 → ∀ i, i < rlN σ f → τ f i = σ f i) : LR o τ u := fun f hf i hi => by
  have hn : rlN τ f = rlN σ f := by unfold rlN; rw [h0, h1, h2]
  rw [hn] at hi
  rw [he f hf i hi]
  exact h f hf i hi
end RLF
