/-! ===== by which doors one comes where ===== -/
def rc1 (p : Nat → Bool) (F T : Nat → Nat) : Nat → Nat → Nat
  | 0, s => s
  | n + 1, s => if p n && ((rc1 p F T n s).testBit (F n) || (rc1 p F T n s).testBit (T n)) then rc1 p F T n s ||| (2 ^ F n ||| 2 ^ T n) else rc1 p F T n s
def rcN (p : Nat → Bool) (F T : Nat → Nat) (n : Nat) : Nat → Nat → Nat
  | 0, s => s
  | k + 1, s => rc1 p F T n (rcN p F T n k s)
theorem rc1_congr {p q : Nat → Bool} {F T : Nat → Nat} {n : Nat} (h : ∀ i, i < n → p i = q i) (s : Nat) : rc1 p F T n s = rc1 q F T n s := by
  induction n with
  | zero => rfl
  | succ n ih =>
    unfold rc1
    rw [ih (fun i hi => h i (by omega)), h n (by omega)]
theorem rcN_congr {p q : Nat → Bool} {F T : Nat → Nat} {n : Nat} (h : ∀ i, i < n → p i = q i) (k s : Nat) : rcN p F T n k s = rcN q F T n k s := by
  induction k with
  | zero => rfl
  | succ k ih => rw [rcN, rcN, ih, rc1_congr h]
theorem rc1_lt {p : Nat → Bool} {F T : Nat → Nat} {n s : Nat} (h : ∀ i, i < n → F i ≤ 7 ∧ T i ≤ 7) (hs : s < 256) : rc1 p F T n s < 256 := by
  induction n with
  | zero => exact hs
  | succ n ih =>
    have h1 := ih (fun i hi => h i (by omega))
    have h2 := h n (by omega)
    have h3 := p2le h2.1
    have h4 := p2le h2.2
    have h8 : (256 : Nat) = 2 ^ 8 := by decide
    unfold rc1
    split
    · rw [h8] at h1 ⊢
      exact or_lt2 h1 (or_lt2 (Nat.lt_of_le_of_lt h3 (by decide)) (Nat.lt_of_le_of_lt h4 (by decide)))
    · exact h1
theorem rcN_lt {p : Nat → Bool} {F T : Nat → Nat} {n s : Nat} (h : ∀ i, i < n → F i ≤ 7 ∧ T i ≤ 7) (hs : s < 256) (k : Nat) : rcN p F T n k s < 256 := by
  induction k with
  | zero => exact hs
  | succ k ih => exact rc1_lt h ih
theorem and2 {s a b : Nat} : (s &&& (2 ^ a ||| 2 ^ b) = 0) = ¬ (s.testBit a || s.testBit b) = true := by
  apply propext
  constructor
  · intro h c
    rw [Bool.or_eq_true] at c
    rcases c with c | c
    · have : (s &&& (2 ^ a ||| 2 ^ b)).testBit a = true := by
        rw [Nat.testBit_and, Nat.testBit_or, c, Nat.testBit_two_pow_self]; rfl
      rw [h, Nat.zero_testBit] at this
      cases this
    · have : (s &&& (2 ^ a ||| 2 ^ b)).testBit b = true := by
        rw [Nat.testBit_and, Nat.testBit_or, c, Nat.testBit_two_pow_self, Bool.or_true]; rfl
      rw [h, Nat.zero_testBit] at this
      cases this
  · intro h
    apply Nat.eq_of_testBit_eq
    intro i
    rw [Nat.testBit_and, Nat.testBit_or, Nat.testBit_two_pow, Nat.testBit_two_pow, Nat.zero_testBit]
    rw [Bool.or_eq_true] at h
    by_cases e1 : a = i
    · subst e1
      cases hs : s.testBit a
      · rfl
      · exact absurd (Or.inl hs) h
    · by_cases e2 : b = i
      · subst e2
        cases hs : s.testBit b
        · rfl
        · exact absurd (Or.inr hs) h
      · simp [e1, e2]
section LINK
variable {o : Nat} {σ : aS} {u : xM}
theorem okS.fin (ok : okS σ) {i : Nat} (hi : i < σ 1 0) : σ 10 i ≤ 7 ∧ σ 11 i ≤ 7 := by
  have := ok.dr hi
  have := ok.r
  omega
theorem k_all {Q : Int32 → xM → Prop} (L : LR o σ u) (ok : okS σ) (hq : Q (nI (2 ^ σ 1 0 - 1)) u) : p_X0_all o u Q := by
  have h10 := ok.d
  have h1 := ok.p10
  have h2 : 0 < 2 ^ σ 1 0 := Nat.two_pow_pos _
  unfold p_X0_all
  rw [L.f1, bPOW (by omega), l_1, cS (by omega)]
  exact hq
theorem k_toSea {Q : Int32 → xM → Prop} (L : LR o σ u) (ok : okS σ) (hq : Q (nI (mk (fun d => decide (σ 10 d = 7 ∨ σ 11 d = 7)) (σ 1 0))) u) : p_X0_toSea o u Q := by
  have h10 := ok.d
  have h7 := ok.r
  unfold p_X0_toSea
  refine xloop (fun m i (s : Int32) => p_X0_toSea_L4 o Q m s (nI i) u) (fun i s => s = nI (mk (fun d => decide (σ 10 d = 7 ∨ σ 11 d = 7)) i)) (σ 1 0) 0 0 (Nat.zero_le _) rfl ?_ ?_
  · intro m s hs
    unfold p_X0_toSea_L4
    rw [L.f1, hs]
    exact ⟨fun _ => hq, fun c => absurd (by rw [cLE (by omega) (by omega)]; exact Nat.le_refl _) c⟩
  · intro m i s _ hi hs k
    have hm := ok.fin hi
    have yes : (σ 10 i = 7 ∨ σ 11 i = 7) → p_X0_toSea_L34 o Q (p_X0_toSea_L4 o Q m) s (nI i) u := fun c x1 h1 x2 h2 => by
      rw [l_1, cA] at h2
      subst h2
      refine k x1 ?_
      rw [h1, hs, bPOW (by omega), bOR, mk_s (by simpa using c)]
    unfold p_X0_toSea_L4
    rw [L.f1]
    refine ⟨fun c => absurd c (by rw [cLE (by omega) (by omega)]; omega), fun _ => ⟨cIN (by omega) (by decide), ?_⟩⟩
    rw [cCL (by omega), L.f10 hi, L.f11 hi, l_7, cEQ (by omega) (by omega), cEQ (by omega) (by omega)]
    refine ⟨fun c => yes (Or.inl c), fun c => ⟨cIN (by omega) (by decide), fun c2 x hx => ?_, fun c2 => yes (Or.inr c2)⟩⟩
    rw [l_1, cA] at hx
    subst hx
    refine k s ?_
    rw [mk_n (by simpa using ⟨c, c2⟩)]; exact hs
theorem k_reached {b s : Nat} {Q : Int32 → xM → Prop} (L : LR o σ u) (ok : okS σ) (hb : b < 2147483648) (hs0 : s < 256) (hq : Q (nI (rcN b.testBit (σ 10) (σ 11) (σ 1 0) 8 s)) u) : p_X0_reached o (nI s) (nI b) u Q := by
  have h10 := ok.d
  unfold p_X0_reached
  refine xloop (fun m i (t : Int32) => p_X0_reached_L5 o Q m (nI b) t (nI i) u) (fun i t => t = nI (rcN b.testBit (σ 10) (σ 11) (σ 1 0) i s)) 8 0 (nI s) (Nat.zero_le _) rfl ?_ ?_
  · intro m t ht
    unfold p_X0_reached_L5
    rw [ht]
    exact ⟨fun _ => hq, fun c => absurd (by decide) c⟩
  · intro m i t _ hi ht k
    unfold p_X0_reached_L5
    refine ⟨fun c => absurd c (by rw [l_7, cLT (by omega) (by omega)]; omega), fun _ => ?_⟩
    have hl := rcN_lt (p := b.testBit) (fun j hj => ok.fin hj) hs0 i
    refine xloop (fun n j (t : Int32) => p_X0_reached_L15 o Q (p_X0_reached_L5 o Q m) n (nI b) t (nI i) (nI j) u) (fun j t => t = nI (rc1 b.testBit (σ 10) (σ 11) j (rcN b.testBit (σ 10) (σ 11) (σ 1 0) i s))) (σ 1 0) 0 t (Nat.zero_le _) ht ?_ ?_
    · intro n t ht
      unfold p_X0_reached_L15
      rw [L.f1]
      refine ⟨fun _ x hx => ?_, fun c => absurd (by rw [cLE (by omega) (by omega)]; exact Nat.le_refl _) c⟩
      rw [l_1, cA] at hx
      subst hx
      exact k t ht
    · intro n j t _ hj ht kk
      have hm := ok.fin hj
      have hl2 := rc1_lt (p := b.testBit) (F := σ 10) (T := σ 11) (n := j) (s := rcN b.testBit (σ 10) (σ 11) (σ 1 0) i s) (fun j' hj' => ok.fin (Nat.lt_trans hj' hj)) hl
      unfold p_X0_reached_L15
      rw [L.f1]
      refine ⟨fun c => absurd c (by rw [cLE (by omega) (by omega)]; omega), fun _ => ⟨cIN (by omega) (by decide), cIN (by omega) (by decide), fun x5 h5 => ?_⟩⟩
      rw [cCL (by omega), L.f10 hj, L.f11 hj, bPOW (by omega), bPOW (by omega), bOR] at h5
      rw [bTST hb (by omega)]
      refine ⟨fun c x hx => ?_, fun c => ⟨fun c2 x hx => ?_, fun c2 x10 h10' x hx => ?_⟩⟩
      · rw [l_1, cA] at hx
        subst hx
        refine kk t ?_
        rw [rc1, if_neg (by simp [c])]; exact ht
      · rw [ht, h5, bAND, cE0 (Nat.lt_of_le_of_lt Nat.and_le_left (by omega)), and2] at c2
        rw [l_1, cA] at hx
        subst hx
        refine kk t ?_
        rw [rc1, if_neg (by simp only [c, Bool.true_and]; exact c2)]; exact ht
      · rw [ht, h5, bAND, cE0 (Nat.lt_of_le_of_lt Nat.and_le_left (by omega)), and2] at c2
        rw [l_1, cA] at hx
        subst hx
        refine kk x10 ?_
        rw [h10', ht, h5, bOR, rc1, if_pos (by simp only [c, Bool.true_and]; exact Classical.not_not.mp c2)]
theorem r_linkedFrom {s b : Nat} {sea : Bool} {Q : Int32 → xM → Prop} (R : RR 0 σ u) (ok : okS σ) (hb : b < 2147483648) (hs0 : s < 256) (hq : Q (nI (rcN (fun d => !b.testBit d && (sea || !(decide (σ 10 d = 7 ∨ σ 11 d = 7)))) (σ 10) (σ 11) (σ 1 0) 8 s)) u) : p_X11_linkedFrom (nI s) (nI b) sea u Q := by
  have h10 := ok.d
  unfold p_X11_linkedFrom
  refine xloop (fun m i (t : Int32) => p_X11_linkedFrom_L6 Q m (nI b) sea t (nI i) u) (fun i t => t = nI (rcN (fun d => !b.testBit d && (sea || !(decide (σ 10 d = 7 ∨ σ 11 d = 7)))) (σ 10) (σ 11) (σ 1 0) i s)) 8 0 (nI s) (Nat.zero_le _) rfl ?_ ?_
  · intro m t ht
    unfold p_X11_linkedFrom_L6
    rw [ht]
    exact ⟨fun _ => hq, fun c => absurd (by decide) c⟩
  · intro m i t _ hi ht k
    unfold p_X11_linkedFrom_L6
    refine ⟨fun c => absurd c (by rw [l_7, cLT (by omega) (by omega)]; omega), fun _ => ?_⟩
    have hl := rcN_lt (p := (fun d => !b.testBit d && (sea || !(decide (σ 10 d = 7 ∨ σ 11 d = 7))))) (fun j hj => ok.fin hj) hs0 i
    refine xloop (fun n j (t : Int32) => p_X11_linkedFrom_L16 Q (p_X11_linkedFrom_L6 Q m) n (nI b) sea t (nI i) (nI j) u) (fun j t => t = nI (rc1 (fun d => !b.testBit d && (sea || !(decide (σ 10 d = 7 ∨ σ 11 d = 7)))) (σ 10) (σ 11) j (rcN (fun d => !b.testBit d && (sea || !(decide (σ 10 d = 7 ∨ σ 11 d = 7)))) (σ 10) (σ 11) (σ 1 0) i s))) (σ 1 0) 0 t (Nat.zero_le _) ht ?_ ?_
    · intro n t ht
      unfold p_X11_linkedFrom_L16
      rw [(r_at l_1 (by decide)).2, R.r1]
      refine ⟨(r_at l_1 (by decide)).1, fun _ x hx => ?_, fun c => absurd (by rw [cLE (by omega) (by omega)]; exact Nat.le_refl _) c⟩
      rw [l_1, cA] at hx
      subst hx
      exact k t ht
    · intro n j t _ hj ht kk
      have hm := ok.fin hj
      have hl2 := rc1_lt (p := (fun d => !b.testBit d && (sea || !(decide (σ 10 d = 7 ∨ σ 11 d = 7))))) (F := σ 10) (T := σ 11) (n := j) (s := rcN (fun d => !b.testBit d && (sea || !(decide (σ 10 d = 7 ∨ σ 11 d = 7)))) (σ 10) (σ 11) (σ 1 0) i s) (fun j' hj' => ok.fin (Nat.lt_trans hj' hj)) hl
      -- the set that is
      generalize hS : rc1 (fun d => !b.testBit d && (sea || !(decide (σ 10 d = 7 ∨ σ 11 d = 7)))) (σ 10) (σ 11) j (rcN (fun d => !b.testBit d && (sea || !(decide (σ 10 d = 7 ∨ σ 11 d = 7)))) (σ 10) (σ 11) (σ 1 0) i s) = S at ht hl2
      have no : (!b.testBit j && (sea || !(decide (σ 10 j = 7 ∨ σ 11 j = 7)))) = false ∨ (S.testBit (σ 10 j) || S.testBit (σ 11 j)) = false → p_X11_linkedFrom_L16 Q (p_X11_linkedFrom_L6 Q m) n (nI b) sea t (nI i) (nI (j + 1)) u := fun c => by
        refine kk t ?_
        rw [rc1, hS, if_neg]
        · exact ht
        · rcases c with c | c
          · rw [c]; simp
          · rw [c]; simp
      have yes : (!b.testBit j && (sea || !(decide (σ 10 j = 7 ∨ σ 11 j = 7)))) = true → (S.testBit (σ 10 j) || S.testBit (σ 11 j)) = true → p_X11_linkedFrom_L130 Q (p_X11_linkedFrom_L6 Q m) (p_X11_linkedFrom_L16 Q (p_X11_linkedFrom_L6 Q m) n) (nI b) sea t (nI i) (nI j) (nI (σ 10 j)) (nI (σ 11 j)) u := fun c c2 x1 h1 x2 h2 => by
        rw [l_1, cA] at h2
        subst h2
        refine kk x1 ?_
        rw [rc1, hS, if_pos (by rw [c, c2]; rfl), h1, ht, bPOW (by omega), bPOW (by omega), bOR, bOR]
      have l108 : (!b.testBit j && (sea || !(decide (σ 10 j = 7 ∨ σ 11 j = 7)))) = true → p_X11_linkedFrom_L108 Q (p_X11_linkedFrom_L6 Q m) (p_X11_linkedFrom_L16 Q (p_X11_linkedFrom_L6 Q m) n) (nI b) sea t (nI i) (nI j) (nI (σ 10 j)) (nI (σ 11 j)) u := fun c => by
        unfold p_X11_linkedFrom_L108
        rw [ht]
        rw [ht] at yes no
        refine r_isIn (by omega) (by omega) ⟨fun z => yes c (by rw [z]; rfl), fun z => r_isIn (by omega) (by omega) ⟨fun z2 x hx => ?_, fun z2 => yes c (by rw [z2, Bool.or_true])⟩⟩
        rw [l_1, cA] at hx
        subst hx
        exact no (Or.inr (by rw [z, z2]; rfl))
      have l75 : p_X11_linkedFrom_L75 Q (p_X11_linkedFrom_L6 Q m) (p_X11_linkedFrom_L16 Q (p_X11_linkedFrom_L6 Q m) n) (nI b) sea t (nI i) (nI j) (nI (σ 10 j)) (nI (σ 11 j)) u := by
        unfold p_X11_linkedFrom_L75
        refine r_isIn hb (by omega) ⟨fun z x hx => ?_, fun z => ⟨fun z2 => l108 (by rw [z, z2]; rfl), fun z2 => ?_⟩⟩
        · rw [l_1, cA] at hx
          subst hx
          exact no (Or.inl (by rw [z]; rfl))
        · rw [l_7, cEQ (by omega) (by omega), cEQ (by omega) (by omega)]
          refine ⟨fun z3 x hx => ?_, fun z3 => ⟨fun z4 => l108 (by simp [z, z3, z4]), fun z4 x hx => ?_⟩⟩
          · rw [l_1, cA] at hx
            subst hx
            exact no (Or.inl (by simp [z2, z3]))
          · rw [l_1, cA] at hx
            subst hx
            exact no (Or.inl (by simp [z2, z4]))
      have l50 : p_X11_linkedFrom_L50 Q (p_X11_linkedFrom_L6 Q m) (p_X11_linkedFrom_L16 Q (p_X11_linkedFrom_L6 Q m) n) (nI b) sea t (nI i) (nI j) (nI (σ 10 j)) u := by
        unfold p_X11_linkedFrom_L50
        refine r_doorV (w := 1) (f := 11) (v := eR (σ 11 j)) R ok hj rfl (by decide) (by decide) rfl (by simp [rk]; omega) rfl ?_
        rw [eR_m1 (by omega)]
        refine ⟨fun z => ?_, fun z => ?_⟩
        · refine r_doorV (w := 1) (f := 11) (v := eR (σ 11 j)) R ok hj rfl (by decide) (by decide) rfl (by simp [rk]; omega) rfl ?_
          rw [show eR (σ 11 j) = nI (σ 11 j) from if_neg z]
          exact l75
        · rw [z] at l75
          exact l75
      unfold p_X11_linkedFrom_L16
      rw [(r_at l_1 (by decide)).2, R.r1]
      refine ⟨(r_at l_1 (by decide)).1, fun c => absurd c (by rw [cLE (by omega) (by omega)]; omega), fun _ => ?_⟩
      refine r_doorV (w := 0) (f := 10) (v := eR (σ 10 j)) R ok hj rfl (by decide) (by decide) rfl (by simp [rk]) rfl ?_
      rw [eR_m1 (by omega)]
      refine ⟨fun z => ?_, fun z => ?_⟩
      · refine r_doorV (w := 0) (f := 10) (v := eR (σ 10 j)) R ok hj rfl (by decide) (by decide) rfl (by simp [rk]) rfl ?_
        rw [show eR (σ 10 j) = nI (σ 10 j) from if_neg z]
        exact l50
      · rw [z] at l50
        exact l50
theorem p2m1_testBit (n i : Nat) : (2 ^ n - 1).testBit i = decide (i < n) := Nat.testBit_two_pow_sub_one n i
theorem K_linked (I : INV u) (a : Int32) : p_X10_linked a u (fun r u1 => p_X11_linked a u1 (fun r' u2 => r = r' ∧ INV u2)) := by
  obtain ⟨σ, S, L, ok, R⟩ := I.sp
  have h7 := ok.r
  have h10 := ok.p10
  rcases below (a := a) (σ 0 0) with ⟨r, hr, rfl⟩ | hr
  · have h2r : 2 ^ r < 256 := Nat.lt_of_le_of_lt (p2le (show r ≤ 7 by omega)) (by decide)
    refine pj (pc := p_X10_linked (nI r) u) (pr := p_X11_linked (nI r)) I ok R (nI (rcN (fun d => !(σ 21 0).testBit d && (false || !(decide (σ 10 d = 7 ∨ σ 11 d = 7)))) (σ 10) (σ 11) (σ 1 0) 8 (2 ^ r))) 0 (fun Q hq => ?_) (fun u1 c1 R Q hq => ?_)
    · unfold p_X10_linked
      refine k_isRoomT L ok hr ⟨fun _ => k_all L ok (k_toSea L ok (fun x8 h8 => ?_)), fun c => absurd c (by decide)⟩
      rw [show gi u 92 2 = nI (σ 21 0) from L.f21, bNOT (by omega), bNOT (Nat.lt_of_le_of_lt (ndf_le _ _) (by omega))] at h8
      subst h8
      rw [bPOW (by omega)]
      refine k_reached L ok (Nat.lt_of_le_of_lt (ndf_le _ _) (Nat.lt_of_le_of_lt (ndf_le _ _) (by omega))) h2r ?_
      rw [rcN_congr (q := (fun d => !(σ 21 0).testBit d && (false || !(decide (σ 10 d = 7 ∨ σ 11 d = 7))))) (fun d hd => ?_)]
      · exact k_fine hq cq.rf
      · rw [ndf_testBit, ndf_testBit, mk_testBit, p2m1_testBit]
        simp [hd]
    · unfold p_X11_linked
      refine r_isRoomT R ok hr ⟨fun c => absurd c (by decide), fun _ => r_set4 R.1 ok ?_⟩
      rw [bPOW (by omega)]
      have := ok.walled
      exact r_linkedFrom R.1 ok (by omega) h2r (r_gives hq rq.rf)
  · refine pj (pc := p_X10_linked a u) (pr := p_X11_linked a) I ok R (-1) 1 (fun Q hq => ?_) (fun u1 c1 R Q hq => ?_)
    · unfold p_X10_linked
      exact k_isRoomF L ok hr ⟨fun c => absurd c (by decide), fun _ => k_none hq cq.rf⟩
    · unfold p_X11_linked
      exact r_isRoomF R ok hr ⟨fun _ => r_refuse hq rq.rf, fun c => absurd c (by decide)⟩
end LINK
