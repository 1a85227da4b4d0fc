/-! ===== how many bits ===== -/
def pop (m : Nat) : Nat := sumN (bitN m) 12
theorem pop_all : ((List.range 4096).all fun m => m == 0 || (pop (m &&& (m - 1)) + 1 == pop m)) = true := by decide +kernel
theorem pop_s {m : Nat} (h : m < 4096) (h0 : m ≠ 0) : pop (m &&& (m - 1)) + 1 = pop m := by
  have := List.all_eq_true.mp pop_all m (List.mem_range.mpr h)
  simp only [Bool.or_eq_true, beq_iff_eq] at this
  rcases this with e | e
  · exact absurd e h0
  · exact e
theorem pop_0 : pop 0 = 0 := by decide +kernel
theorem pop_le (m : Nat) : pop m ≤ 12 := by
  have := sumN_le (w := bitN m) (n := 12) (b := 1) (fun i _ => bitN_le m i)
  unfold pop
  omega
def bc1 (a1 : Int32) : Int32 := a1 - ((a1.toUInt32 >>> ((1 : Int32).toUInt32 &&& Int32.toUInt32 31)).toInt32 &&& (1431655765 : Int32))
def bc2 (x1 : Int32) : Int32 := (x1 &&& (858993459 : Int32)) + ((x1.toUInt32 >>> ((2 : Int32).toUInt32 &&& Int32.toUInt32 31)).toInt32 &&& (858993459 : Int32))
def bc3 (x2 : Int32) : Int32 := (x2 + (x2.toUInt32 >>> ((4 : Int32).toUInt32 &&& Int32.toUInt32 31)).toInt32) &&& (252645135 : Int32)
def bc4 (x3 : Int32) : Int32 := x3 + (x3.toUInt32 >>> ((8 : Int32).toUInt32 &&& Int32.toUInt32 31)).toInt32
def bc5 (x4 : Int32) : Int32 := x4 + (x4.toUInt32 >>> ((16 : Int32).toUInt32 &&& Int32.toUInt32 31)).toInt32
def bcX (a : Int32) : Int32 := bc5 (bc4 (bc3 (bc2 (bc1 a)))) &&& (63 : Int32)
theorem bc_all : ((List.range 4096).all fun m => decide (bcX (nI m) = nI (pop m))) = true := by decide +kernel
section POPS
variable {u : xM}
theorem k_bitCount {m : Nat} {Q : Int32 → xM → Prop} (hm : m < 4096) (hq : Q (nI (pop m)) u) : p_J6_bitCount_0f7a4 (nI m) u Q := by
  have h := List.all_eq_true.mp bc_all m (List.mem_range.mpr hm)
  rw [decide_eq_true_eq] at h
  unfold p_J6_bitCount_0f7a4
  intro x1 h1 x2 h2 x3 h3 x4 h4 x5 h5
  rw [h1] at h2
  rw [h2] at h3
  rw [h3] at h4
  rw [h4] at h5
  have e : x5 &&& (63 : Int32) = bcX (nI m) := by rw [h5]; rfl
  rw [e, h]
  exact hq
theorem r_bits {m : Nat} {Q : Int32 → xM → Prop} (hm : m < 4096) (hq : Q (nI (pop m)) u) : p_X11_bits (nI m) u Q := by
  have key : ∀ k, ∀ m c, m < 4096 → pop m = k → Q (nI (c + k)) u → p_X11_bits_L4 Q (k + 1) (nI c) (nI m) u := by
    intro k
    induction k with
    | zero =>
      intro m c hm hp hq
      have h0 : m = 0 := by
        by_cases h : m = 0
        · exact h
        · have := pop_s hm h; omega
      subst h0
      exact ⟨fun _ => hq, fun z => absurd rfl z⟩
    | succ k ih =>
      intro m c hm hp hq
      have h0 : m ≠ 0 := fun z => by rw [z, pop_0] at hp; omega
      have h1 := pop_s hm h0
      refine ⟨fun z => absurd z (by rw [cE0 (by omega)]; exact h0), fun _ x2 h2 x3 h3 => ?_⟩
      rw [l_1, cA] at h2
      rw [l_1, cS (by omega), bAND] at h3
      subst h2; subst h3
      exact ih (m &&& (m - 1)) (c + 1) (Nat.lt_of_le_of_lt Nat.and_le_left hm) (by omega) (by rw [show c + 1 + k = c + (k + 1) by omega]; exact hq)
  unfold p_X11_bits
  exact ⟨pop m + 1, key (pop m) m 0 hm rfl (by rw [Nat.zero_add]; exact hq)⟩
end POPS
