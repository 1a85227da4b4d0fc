/-! ===== the reference knows its words ===== -/
def kst (k : Nat) : Nat := ([1, 6, 11, 16, 21, 26, 33, 39, 44, 50, 56, 61, 64, 69, 74, 80, 83, 87, 92, 97, 102, 107, 111, 116, 121, 125, 130, 134, 140] : List Nat).getD k 0
def ko (k : Nat) : Nat := ([0, 5, 11, 12, 13, 14, 1, 2, 3, 4, 6, 7, 8, 9, 10, 15, 16, 17, 18, 19, 20, 21, 22, 25, 26, 27, 23, 24] : List Nat).getD k 0
def rdx (l : List Nat) : Option Nat := fstO (fun k => decide (wordL (ko k) = l)) 28
def rwd (B : Nat → Nat) (n i : Nat) : Option Nat := if tK B n (pS B n i) = 1 then rdx (nmT B n i) else none
section WORDS
variable {B : Nat → Nat} {n : Nat} {u u' u0 : xM} {i : Nat}
theorem fstO_some {p : Nat → Bool} {n k : Nat} (h : fstO p n = some k) : p k = true := by
  induction n with
  | zero => cases h
  | succ n ih =>
    unfold fstO at h
    split at h
    · rename_i k' e
      exact ih (e.trans h)
    · split at h
      · rename_i c
        cases h
        exact c
      · cases h
theorem k_len : x_lenS.getD 2 0 = 140 := by decide +kernel
theorem ko_lt : ∀ k, k < 28 → ko k < 28 := by decide +kernel
theorem ko_sur : ∀ a, a < 28 → ∃ k, k < 28 ∧ ko k = a := by decide +kernel
theorem wordL_inj : ∀ a, a < 28 → ∀ b, b < 28 → wordL a = wordL b → a = b := by decide +kernel
theorem ko_inj : ∀ a, a < 28 → ∀ b, b < 28 → ko a = ko b → a = b := by decide +kernel
theorem kst_a : ∀ k, k < 28 → kst (k + 1) = kst k + (wordL (ko k)).length + 1 ∧ x_ch 2 (kst k + (wordL (ko k)).length) = 32 ∧ kst k < 140 ∧ kst k + (wordL (ko k)).length < 140 := by decide +kernel
theorem kst_b : ∀ k, k < 28 → ∀ j, j < 8 → j < (wordL (ko k)).length → x_ch 2 (kst k + j) = nI ((wordL (ko k)).getD j 0) ∧ (wordL (ko k)).getD j 0 < 256 ∧ x_ch 2 (kst k + j) ≠ 32 := by decide +kernel
theorem l_ext : ∀ (a b : List Nat), a.length = b.length → (∀ j, j < a.length → a.getD j 0 = b.getD j 0) → a = b := by
  intro a
  induction a with
  | nil =>
    intro b h _
    cases b with
    | nil => rfl
    | cons c b => exact absurd h (by simp)
  | cons c a ih =>
    intro b h hj
    cases b with
    | nil => exact absurd h (by simp)
    | cons c' b =>
      have h0 := hj 0 (by simp)
      have e : c = c' := by simpa using h0
      rw [e, ih b (by simpa using h) (fun j hj' => by have := hj (j + 1) (by simpa using hj'); simpa using this)]
theorem seg_getD {p m j : Nat} (h : j < m) : (seg B p m).getD j 0 = B (p + j) := by
  induction m with
  | zero => omega
  | succ m ih =>
    unfold seg
    rw [List.getD_eq_getElem?_getD]
    by_cases e : j < m
    · rw [List.getElem?_append_left (by rw [seg_len]; exact e), ← List.getD_eq_getElem?_getD, ih e]
    · rw [List.getElem?_append_right (by rw [seg_len]; omega), seg_len]
      have : j = m := by omega
      subst this
      simp
theorem rwd_is {k : Nat} (hk : k < 28) : (rwd B n i = some k) = (wrd B n i = some (ko k)) := by
  unfold rwd wrd
  by_cases c : tK B n (pS B n i) = 1
  · rw [if_pos c]
    have hw := wordL_all (ko k) (ko_lt k hk)
    have a : (rdx (nmT B n i) = some k) = (wordL (ko k) = nmT B n i) := propext ⟨fun h => by
        have h1 := fstO_some h
        exact of_decide_eq_true h1, fun h => fstO_at hk (fun j hj => decide_eq_false (fun z => by
          have := ko_inj j (by omega) k hk (wordL_inj _ (ko_lt j (by omega)) _ (ko_lt k hk) (z.trans h.symm))
          omega)) (decide_eq_true h)⟩
    rw [a]
    have hl := (w1 c).2.2
    by_cases c8 : tE B n (pS B n i) - tS B n (pS B n i) ≤ 8
    · rw [if_pos ⟨c, c8⟩]
      refine propext ⟨fun h => fstO_at (ko_lt k hk) (fun j hj => decide_eq_false (fun z => ?_)) (decide_eq_true h), fun h => ?_⟩
      · have := wordL_inj j (by have := ko_lt k hk; omega) (ko k) (ko_lt k hk) (z.trans h.symm)
        omega
      · exact of_decide_eq_true (fstO_some h)
    · rw [if_neg (fun z => c8 z.2)]
      refine propext ⟨fun h => ?_, fun h => absurd h (by simp)⟩
      rw [← h] at hl
      omega
  · rw [if_neg c, if_neg (fun z => c z.1)]
    simp
theorem rwd_lt {k : Nat} (h : rwd B n i = some k) : k < 28 := by
  unfold rwd at h
  split at h
  · exact fstO_lt h
  · cases h
theorem rwd_none : (rwd B n i = none) = (wrd B n i = none) := by
  cases h : rwd B n i with
  | some k =>
    have hk := rwd_lt h
    rw [rwd_is hk] at h
    rw [h]
    simp
  | none =>
    cases h2 : wrd B n i with
    | none => rfl
    | some a =>
      obtain ⟨k, hk, rfl⟩ := ko_sur a (wrd_lt h2)
      rw [← rwd_is hk] at h2
      rw [h] at h2
      cases h2
theorem kr_is {k a : Nat} (hk : k ≤ 4) : (kr k = 2) = (k = 1) ∧ (kr k = 0) = (k = 0) ∧ (kr k = 3) = (k = 2) ∧ (kr k = 4) = (k = 3) ∧ (kr k = 1) = (k = 4) ∧ kr k ≤ 4 := by
  have : k = 0 ∨ k = 1 ∨ k = 2 ∨ k = 3 ∨ k = 4 := by omega
  rcases this with rfl | rfl | rfl | rfl | rfl <;> simp [kr]
theorem RTK.k12 {a : Nat} (h : RTK B n i u) (ha : a ≤ 4) : (gi u 272 12 = nI a) = (kr (tK B n (pS B n i)) = a) := by
  have := (kr_is (a := 0) (tK_le (B := B) (n := n) (pS B n i))).2.2.2.2.2
  rw [h.2.1, cEQ (by omega) (by omega)]
theorem r_inWords {Q : Int32 → xM → Prop} (hX : RTX B n u) (h : RTK B n i u) (hq : Q (eO (rwd B n i)) u) : p_X11_inWords u Q := by
  have hn := hX.2.1
  have hk := kr_is (a := 0) (tK_le (B := B) (n := n) (pS B n i))
  unfold p_X11_inWords
  rw [show (gi u 272 12 = (2 : Int32)) = (kr (tK B n (pS B n i)) = 2) from h.k12 (a := 2) (by omega), hk.1]
  unfold rwd at hq
  refine ⟨fun c => ?_, fun c => ?_⟩
  · rw [if_pos c] at hq
    have hs : tS B n (pS B n i) < n := by
      have : ¬ n ≤ tS B n (pS B n i) := by rw [← tK_0, c]; decide
      omega
    have hE := tE_lt hs
    have hEn := tE_ln (B := B) (pS_ln (B := B) (n := n) i)
    have hl := (w1 c).2.2
    generalize eS : tS B n (pS B n i) = S at hs hE hl
    generalize eE : tE B n (pS B n i) = E at hE hEn hl
    have h13 : gi u 272 13 = nI S := by rw [h.2.2.1, eS]
    have h14 : gi u 272 14 = nI E := by rw [h.2.2.2.1, eE]
    have eL : nmT B n i = seg B S (E - S) := by unfold nmT ltr; rw [eS, eE]
    refine xloop (fun m k (_ : Unit) => p_X11_inWords_L14 Q m (nI k) (nI (kst k)) u) (fun k _ => ∀ j, j < k → ¬ wordL (ko j) = nmT B n i) 28 0 () (by omega) (fun j hj => absurd hj (Nat.not_lt_zero _)) ?_ ?_
    · intro m _ hs
      unfold p_X11_inWords_L14
      rw [k_len, show kst 28 = 140 from rfl]
      have : rdx (nmT B n i) = none := fstO_no (fun j hj => decide_eq_false (hs j hj))
      rw [this] at hq
      exact ⟨fun _ => hq, fun z => absurd (by rw [cLE (by omega) (by omega)]; exact Nat.le_refl _) z⟩
    · intro m k _ _ hk28 hno kk
      obtain ⟨a1, a2, a3, a4⟩ := kst_a k hk28
      have hw := wordL_all (ko k) (ko_lt k hk28)
      have hb := kst_b k hk28
      have nxt : ¬ wordL (ko k) = nmT B n i → ∀ x2 : Int32, x2 = nI k + 1 → ∀ x3 : Int32, x3 = nI (kst k + (wordL (ko k)).length) + (1 : Int32) → p_X11_inWords_L14 Q m x2 x3 u := fun hne x2 e2 x3 e3 => by
        rw [l_1, cA] at e2 e3
        rw [e2, e3, ← a1]
        exact kk () (fun j hj => by
          by_cases e : j = k
          · rw [e]; exact hne
          · exact hno j (by omega))
      unfold p_X11_inWords_L14
      rw [k_len, cLE (by omega) (by omega)]
      refine ⟨fun z => absurd z (by omega), fun _ => ?_⟩
      refine xloop (fun m' v4 (_ : Unit) => p_X11_inWords_L25 Q (p_X11_inWords_L14 Q m) m' (nI k) (nI (kst k)) (nI v4) u) (fun _ _ => True) (kst k + (wordL (ko k)).length) (kst k) () (by omega) trivial ?_ ?_
      · intro m' _ _
        unfold p_X11_inWords_L25
        rw [cCL (by omega), k_len, a2, h13, h14, cS (by omega), cS (by omega), cEQ (by omega) (by omega)]
        refine ⟨cIN (by omega) (by omega), fun _ => ⟨fun c1 => ⟨1, ?_⟩, fun c1 => ?_⟩, fun z => absurd rfl z⟩
        · unfold p_X11_inWords_L68
          have d : p_X11_inWords_L115 Q (p_X11_inWords_L14 Q m) (nI k) (nI (kst k + (wordL (ko k)).length)) false u := ⟨fun _ => nxt (fun z => by rw [z, hl] at c1; omega), fun z => absurd z (by decide)⟩
          exact ⟨fun _ => d, fun _ => ⟨fun _ => d, fun z => absurd z (by decide)⟩⟩
        · have dn : wordL (ko k) ≠ nmT B n i → p_X11_inWords_L115 Q (p_X11_inWords_L14 Q m) (nI k) (nI (kst k + (wordL (ko k)).length)) false u := fun z => ⟨fun _ => nxt z, fun z => absurd z (by decide)⟩
          refine xloop (fun m'' v6 (f : Bool) => p_X11_inWords_L68 Q (p_X11_inWords_L14 Q m) m'' (nI k) (nI (kst k)) (nI (kst k + (wordL (ko k)).length)) f (nI v6) u) (fun v6 f => (f = true ∧ ∀ j, j < v6 - kst k → (wordL (ko k)).getD j 0 = (nmT B n i).getD j 0) ∨ (f = false ∧ wordL (ko k) ≠ nmT B n i)) (kst k + (wordL (ko k)).length) (kst k) true (by omega) (Or.inl ⟨rfl, fun j hj => by omega⟩) ?_ ?_
          · intro m'' f hf
            unfold p_X11_inWords_L68
            refine ⟨fun _ => ?_, fun z => absurd (by rw [cLE (by omega) (by omega)]; exact Nat.le_refl _) z⟩
            rcases hf with ⟨rfl, hf⟩ | ⟨rfl, hf⟩
            · refine ⟨fun z => absurd z (by decide), fun _ => ?_⟩
              have e : wordL (ko k) = nmT B n i := l_ext _ _ (by omega) (fun j hj => hf j (by omega))
              have : rdx (nmT B n i) = some k := fstO_at hk28 (fun j hj => decide_eq_false (hno j hj)) (decide_eq_true e)
              rw [this] at hq
              exact hq
            · exact dn hf
          · intro m'' v6 f h1 h2 hf kk'
            unfold p_X11_inWords_L68
            rw [cLE (by omega) (by omega)]
            refine ⟨fun z => absurd z (by omega), fun _ => ?_⟩
            rcases hf with ⟨rfl, hf⟩ | ⟨rfl, hf⟩
            · refine ⟨fun z => absurd z (by decide), fun _ => ⟨by rw [k_len]; exact cIN (by omega) (by omega), ?_⟩⟩
              obtain ⟨j, rfl⟩ : ∃ j, v6 = kst k + j := ⟨v6 - kst k, by omega⟩
              obtain ⟨b1, b2, b3⟩ := hb j (by omega) (by omega)
              rw [h13, cA, cS (by omega), show S + (kst k + j) - kst k = S + j by omega, cCL (by omega), b1]
              refine r_byteAt hX (by omega) ?_
              have eb : byt B n (S + j) = nI ((nmT B n i).getD j 0) := by
                unfold byt
                rw [if_pos (by omega), eL, seg_getD (by omega)]
              have hb2 : (nmT B n i).getD j 0 < 256 := by
                rw [eL, seg_getD (by omega)]
                exact (hX.2.2 _ (by omega)).2
              rw [eb, cEQ (by omega) (by omega)]
              refine ⟨fun z x7 e7 => ?_, fun z x8 e8 => ?_⟩
              · rw [l_1, cA] at e7
                rw [e7]
                exact kk' false (Or.inr ⟨rfl, fun y => z (by rw [y])⟩)
              · rw [l_1, cA] at e8
                rw [e8]
                refine kk' true (Or.inl ⟨rfl, fun j' hj' => ?_⟩)
                by_cases e : j' = j
                · rw [e]; exact z
                · exact hf j' (by omega)
            · exact ⟨fun _ => dn hf, fun z => absurd z (by decide)⟩
      · intro m' v4 _ h1 h2 _ kk'
        unfold p_X11_inWords_L25
        obtain ⟨j, rfl⟩ : ∃ j, v4 = kst k + j := ⟨v4 - kst k, by omega⟩
        obtain ⟨b1, b2, b3⟩ := hb j (by omega) (by omega)
        rw [cCL (by omega), k_len]
        refine ⟨cIN (by omega) (by omega), fun z => absurd z b3, fun _ x4 e4 => ?_⟩
        rw [l_1, cA] at e4
        rw [e4]
        exact kk' () trivial
  · rw [if_neg c] at hq
    exact hq
end WORDS
