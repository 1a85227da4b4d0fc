/-! ===== a land of the reference: in its row at, from place b on ===== -/
def bitN (m i : Nat) : Nat := if m.testBit i then 1 else 0
theorem bitN_le (m i : Nat) : bitN m i ≤ 1 := by unfold bitN; split <;> omega
def eR (e : Nat) : Int32 := if e = 7 then -1 else nI e
def rotD (σ : aS) (d : Nat) : Nat := mk (fun h => (σ 19 h).testBit d) 12
def rk (f i : Nat) : Nat :=
  if f < 4 then f else if f = 4 then 6 + 7 * i else if f = 5 then 7 + 7 * i else if f = 6 then 8 + 7 * i else if f = 7 then 9 + 7 * i else if f = 8 then 10 + 7 * i else if f = 22 then 11 + 7 * i else if f = 9 then 12 + 7 * i
  else if f = 10 then 55 + 8 * i else if f = 11 then 56 + 8 * i else if f = 12 then 57 + 8 * i else if f = 13 then 58 + 8 * i else if f = 14 then 59 + 8 * i else if f = 19 then 60 + 8 * i else if f = 20 then 61 + 8 * i else if f = 21 then 62 + 8 * i
  else if f = 18 then 135 + i else if f = 15 then 147 + 3 * i else if f = 16 then 148 + 3 * i else 149 + 3 * i
def rkM (f : Nat) : Nat := if f < 4 then 1 else if f ≤ 9 ∨ f = 22 then 7 else if f ≤ 14 ∨ f = 19 ∨ f = 20 ∨ f = 21 then 10 else if f = 18 then 12 else 4
def rrN (σ : aS) (f : Nat) : Nat := if f < 4 then 1 else if f ≤ 9 ∨ f = 22 then σ 0 0 else if f ≤ 14 ∨ f = 19 ∨ f = 20 ∨ f = 21 then σ 1 0 else if f = 18 then 12 else σ 2 0
def rv (σ : aS) (f i : Nat) : Int32 := if f = 10 ∨ f = 11 then eR (σ f i) else if f = 19 then nI (rotD σ i) else if f = 20 ∨ f = 21 ∨ f = 22 then nI (bitN (σ f 0) i) else nI (σ f i)
def RR (b : Nat) (σ : aS) (u : xM) : Prop := ∀ f, f < 23 → ∀ i, i < rrN σ f → gi u 273 (b + rk f i) = rv σ f i
theorem rk_all : ((List.range 23).all fun f => (List.range 23).all fun g => (List.range (rkM f)).all fun i => (List.range (rkM g)).all fun j => decide (rk f i = rk g j → f = g ∧ i = j)) = true := by decide +kernel
theorem rk_inj0 (f : Nat) (hf : f < 23) (g : Nat) (hg : g < 23) (i : Nat) (hi : i < rkM f) (j : Nat) (hj : j < rkM g) : rk f i = rk g j → f = g ∧ i = j := by
  have h := rk_all
  simp only [List.all_eq_true, List.mem_range, decide_eq_true_eq] at h
  exact h f hf g hg i hi j hj
theorem rk_lt : ∀ f, f < 23 → ∀ i, i < rkM f → rk f i < 160 := by decide +kernel
theorem rrN_le {σ : aS} (h0 : σ 0 0 ≤ 7) (h1 : σ 1 0 ≤ 10) (h2 : σ 2 0 ≤ 4) (f : Nat) : rrN σ f ≤ rkM f := by
  unfold rrN rkM
  split
  · omega
  · split
    · omega
    · split
      · omega
      · split <;> omega
section RRS
variable {b : Nat} {σ : aS} {u : xM}
theorem RR.cg {u' : xM} (h : RR b σ u) (h0 : σ 0 0 ≤ 7) (h1 : σ 1 0 ≤ 10) (h2 : σ 2 0 ≤ 4) (hs : ∀ i, b ≤ i → i < b + 160 → gi u' 273 i = gi u 273 i) : RR b σ u' := fun f hf i hi => by
  have := rk_lt f hf i (Nat.lt_of_lt_of_le hi (rrN_le h0 h1 h2 f))
  rw [hs _ (by omega) (by omega)]
  exact h f hf i hi
theorem RR.eq {τ : aS} (h : RR b σ u) (h0 : τ 0 0 = σ 0 0) (h1 : τ 1 0 = σ 1 0) (h2 : τ 2 0 = σ 2 0) (he : ∀ f, f < 23 → ∀ i, i < rrN σ f → rv τ f i = rv σ f i) : RR b τ u := fun f hf i hi => by
  have hn : rrN τ f = rrN σ f := by unfold rrN; rw [h0, h1, h2]
  rw [hn] at hi
  rw [he f hf i hi]
  exact h f hf i hi
/-- one number is another one -/
theorem RR.st {τ : aS} {f i k : Nat} {x : Int32} (h : RR b σ u) (a0 : σ 0 0 ≤ 7) (a1 : σ 1 0 ≤ 10) (a2 : σ 2 0 ≤ 4) (h0 : τ 0 0 = σ 0 0) (h1 : τ 1 0 = σ 1 0) (h2 : τ 2 0 = σ 2 0) (hf : f < 23) (hi : i < rkM f) (hk : k = b + rk f i) (hx : x = rv τ f i)
    (ho : ∀ g, g < 23 → ∀ j, j < rrN σ g → ¬ (g = f ∧ j = i) → rv τ g j = rv σ g j) : RR b τ (si u 273 k x) := fun g hg j hj => by
  subst hk; subst hx
  have hn : rrN τ g = rrN σ g := by unfold rrN; rw [h0, h1, h2]
  rw [hn] at hj
  have hj2 := Nat.lt_of_lt_of_le hj (rrN_le a0 a1 a2 g)
  rw [gi_si]
  by_cases e : g = f ∧ j = i
  · rw [e.1, e.2, if_pos ⟨rfl, rfl⟩]
  · rw [if_neg, ho g hg j hj e]
    · exact h g hg j hj
    · rintro ⟨-, z⟩
      exact e (rk_inj0 g hg f hf j hj2 i hi (by omega))
theorem RR.g (h : RR b σ u) {f i k : Nat} (hf : f < 23) (hi : i < rrN σ f) (hk : k = b + rk f i) : gi u 273 k = rv σ f i := by rw [hk]; exact h f hf i hi
end RRS
section R0
variable {σ : aS} {u : xM}
theorem RR.r0 (h : RR 0 σ u) : gi u 273 0 = nI (σ 0 0) := by simpa [rk, rv] using h 0 (by decide) 0 (by simp [rrN])
theorem RR.r1 (h : RR 0 σ u) : gi u 273 1 = nI (σ 1 0) := by simpa [rk, rv] using h 1 (by decide) 0 (by simp [rrN])
theorem RR.r2 (h : RR 0 σ u) : gi u 273 2 = nI (σ 2 0) := by simpa [rk, rv] using h 2 (by decide) 0 (by simp [rrN])
theorem RR.r3 (h : RR 0 σ u) : gi u 273 3 = nI (σ 3 0) := by simpa [rk, rv] using h 3 (by decide) 0 (by simp [rrN])
theorem RR.r4 (h : RR 0 σ u) {i : Nat} (hi : i < σ 0 0) : gi u 273 (6 + 7 * i) = nI (σ 4 i) := by simpa [rk, rv] using h 4 (by decide) i (by simpa [rrN] using hi)
theorem RR.r5 (h : RR 0 σ u) {i : Nat} (hi : i < σ 0 0) : gi u 273 (7 + 7 * i) = nI (σ 5 i) := by simpa [rk, rv] using h 5 (by decide) i (by simpa [rrN] using hi)
theorem RR.r6 (h : RR 0 σ u) {i : Nat} (hi : i < σ 0 0) : gi u 273 (8 + 7 * i) = nI (σ 6 i) := by simpa [rk, rv] using h 6 (by decide) i (by simpa [rrN] using hi)
theorem RR.r7 (h : RR 0 σ u) {i : Nat} (hi : i < σ 0 0) : gi u 273 (9 + 7 * i) = nI (σ 7 i) := by simpa [rk, rv] using h 7 (by decide) i (by simpa [rrN] using hi)
theorem RR.r8 (h : RR 0 σ u) {i : Nat} (hi : i < σ 0 0) : gi u 273 (10 + 7 * i) = nI (σ 8 i) := by simpa [rk, rv] using h 8 (by decide) i (by simpa [rrN] using hi)
theorem RR.r9 (h : RR 0 σ u) {i : Nat} (hi : i < σ 0 0) : gi u 273 (12 + 7 * i) = nI (σ 9 i) := by simpa [rk, rv] using h 9 (by decide) i (by simpa [rrN] using hi)
theorem RR.r10 (h : RR 0 σ u) {i : Nat} (hi : i < σ 1 0) : gi u 273 (55 + 8 * i) = eR (σ 10 i) := by simpa [rk, rv] using h 10 (by decide) i (by simpa [rrN] using hi)
theorem RR.r11 (h : RR 0 σ u) {i : Nat} (hi : i < σ 1 0) : gi u 273 (56 + 8 * i) = eR (σ 11 i) := by simpa [rk, rv] using h 11 (by decide) i (by simpa [rrN] using hi)
theorem RR.r12 (h : RR 0 σ u) {i : Nat} (hi : i < σ 1 0) : gi u 273 (57 + 8 * i) = nI (σ 12 i) := by simpa [rk, rv] using h 12 (by decide) i (by simpa [rrN] using hi)
theorem RR.r13 (h : RR 0 σ u) {i : Nat} (hi : i < σ 1 0) : gi u 273 (58 + 8 * i) = nI (σ 13 i) := by simpa [rk, rv] using h 13 (by decide) i (by simpa [rrN] using hi)
theorem RR.r14 (h : RR 0 σ u) {i : Nat} (hi : i < σ 1 0) : gi u 273 (59 + 8 * i) = nI (σ 14 i) := by simpa [rk, rv] using h 14 (by decide) i (by simpa [rrN] using hi)
theorem RR.r15 (h : RR 0 σ u) {i : Nat} (hi : i < σ 2 0) : gi u 273 (147 + 3 * i) = nI (σ 15 i) := by simpa [rk, rv] using h 15 (by decide) i (by simpa [rrN] using hi)
theorem RR.r16 (h : RR 0 σ u) {i : Nat} (hi : i < σ 2 0) : gi u 273 (148 + 3 * i) = nI (σ 16 i) := by simpa [rk, rv] using h 16 (by decide) i (by simpa [rrN] using hi)
theorem RR.r17 (h : RR 0 σ u) {i : Nat} (hi : i < σ 2 0) : gi u 273 (149 + 3 * i) = nI (σ 17 i) := by simpa [rk, rv] using h 17 (by decide) i (by simpa [rrN] using hi)
theorem RR.r18 (h : RR 0 σ u) {i : Nat} (hi : i < 12) : gi u 273 (135 + i) = nI (σ 18 i) := by simpa [rk, rv] using h 18 (by decide) i (by simpa [rrN] using hi)
theorem RR.r19 (h : RR 0 σ u) {i : Nat} (hi : i < σ 1 0) : gi u 273 (60 + 8 * i) = nI (rotD σ i) := by simpa [rk, rv] using h 19 (by decide) i (by simpa [rrN] using hi)
theorem RR.r20 (h : RR 0 σ u) {i : Nat} (hi : i < σ 1 0) : gi u 273 (61 + 8 * i) = nI (bitN (σ 20 0) i) := by simpa [rk, rv] using h 20 (by decide) i (by simpa [rrN] using hi)
theorem RR.r21 (h : RR 0 σ u) {i : Nat} (hi : i < σ 1 0) : gi u 273 (62 + 8 * i) = nI (bitN (σ 21 0) i) := by simpa [rk, rv] using h 21 (by decide) i (by simpa [rrN] using hi)
theorem RR.r22 (h : RR 0 σ u) {i : Nat} (hi : i < σ 0 0) : gi u 273 (11 + 7 * i) = nI (bitN (σ 22 0) i) := by simpa [rk, rv] using h 22 (by decide) i (by simpa [rrN] using hi)
end R0
