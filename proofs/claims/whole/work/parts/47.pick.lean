/-! ===== the best of some; the low, the high; what is linked ===== -/
def pkO (b : Nat → Option Nat → Bool) : Nat → Option Nat
  | 0 => none
  | n + 1 => if b n (pkO b n) then some n else pkO b n
def eO : Option Nat → Int32
  | none => -1
  | some r => nI r
def sO : Option Nat → Int32
  | none => 6
  | some _ => 0
def vO (f : Nat → Nat) : Option Nat → Nat
  | none => 0
  | some j => f j
theorem pkO_lt {b : Nat → Option Nat → Bool} {n r : Nat} (h : pkO b n = some r) : r < n := by
  induction n with
  | zero => cases h
  | succ n ih =>
    unfold pkO at h
    split at h
    · injection h with h; omega
    · have := ih h; omega
theorem pkO_congr {b c : Nat → Option Nat → Bool} {n : Nat} (h : ∀ i a, i < n → b i a = c i a) : pkO b n = pkO c n := by
  induction n with
  | zero => rfl
  | succ n ih =>
    unfold pkO
    rw [ih (fun i a hi => h i a (by omega)), h n _ (by omega)]
theorem eO_ne {a : Option Nat} (h : ∀ j, a = some j → j < 2147483648) : (eO a = -1) = (a = none) := by
  cases a with
  | none => simp [eO]
  | some j => 
    have := nI_ne_m1 (h j rfl)
    simp [eO, this]
theorem RS.mo {σ : aS} {u : xM} (R : RS σ u) : MO σ (opn σ) u := Or.inl ⟨R.2.1.1, R.2.1.2, rfl⟩
section PICK
variable {σ : aS} {u u0 : xM}
theorem k_endO {a : Option Nat} {Q : Int32 → xM → Prop} (h : ∀ j, a = some j → j < 2147483648) (hq : ∀ u', cq u0 u' → gi u' 0 14 = sO a → Q (eO a) u') (c : cq u0 u) : (¬ eO a = (-1 : Int32) → p_X10_fine (eO a) u Q) ∧ (eO a = (-1 : Int32) → p_X10_none (6 : Int32) u Q) := by
  rw [eO_ne h]
  cases a with
  | none => exact ⟨fun z => absurd rfl z, fun _ => k_none hq c⟩
  | some j => exact ⟨fun _ => k_fine hq c, fun z => (nomatch z)⟩
theorem r_endO {a : Option Nat} {Q : Int32 → xM → Prop} (h : ∀ j, a = some j → j < 2147483648) (hq : ∀ u', rq u0 u' → gi u' 272 2 = sO a → Q (eO a) u') (c : rq u0 u) : p_X11_orNone (eO a) u Q := by
  unfold p_X11_orNone
  rw [eO_ne h]
  cases a with
  | none => exact ⟨fun z => absurd rfl z, fun _ => r_refuse hq c⟩
  | some j => exact ⟨fun _ => r_gives hq c, fun z => (nomatch z)⟩
theorem K_deepest (I : INV u) : p_X10_deepest u (fun r u1 => p_X11_deepest u1 (fun r' u2 => r = r' ∧ INV u2)) := by
  obtain ⟨σ, S, L, ok, R⟩ := I.sp
  have h7 := ok.r
  have hd : ∀ a : Option Nat, (∀ j, a = some j → j < σ 0 0) → vO (dep σ) a ≤ 9999 := fun a ha => by
    cases a with
    | none => exact Nat.zero_le _
    | some j => exact dep_le ok (ha j rfl)
  refine pj (pc := p_X10_deepest u) (pr := p_X11_deepest) I ok R (eO (pkO (fun r a => decide (vO (dep σ) a < dep σ r)) (σ 0 0))) (sO (pkO (fun r a => decide (vO (dep σ) a < dep σ r)) (σ 0 0))) (fun Q hq => ?_) (fun u1 c1 R Q hq => ?_)
  · unfold p_X10_deepest
    refine xloop (fun m i (s : Int32 × Int32) => p_X10_deepest_L6 Q m s.1 s.2 (nI i) u) (fun i s => s.1 = eO (pkO (fun r a => decide (vO (dep σ) a < dep σ r)) i) ∧ s.2 = nI (vO (dep σ) (pkO (fun r a => decide (vO (dep σ) a < dep σ r)) i))) (σ 0 0) 0 (-1, 0) (Nat.zero_le _) ⟨rfl, rfl⟩ ?_ ?_
    · intro m s hs
      unfold p_X10_deepest_L6
      rw [show gi u 84 0 = nI (σ 0 0) from L.f0, hs.1]
      exact ⟨fun _ => k_endO (fun j hj => by have := pkO_lt hj; omega) hq cq.rf, fun c => absurd (by rw [cLE (by omega) (by omega)]; exact Nat.le_refl _) c⟩
    · intro m i s _ hi hs k
      have h1 := hd (pkO (fun r a => decide (vO (dep σ) a < dep σ r)) i) (fun j hj => Nat.lt_trans (pkO_lt hj) hi)
      have h2 := dep_le ok hi
      unfold p_X10_deepest_L6
      rw [show gi u 84 0 = nI (σ 0 0) from L.f0]
      refine ⟨fun c => absurd c (by rw [cLE (by omega) (by omega)]; omega), fun _ => k_depth L ok hi ?_⟩
      rw [hs.2, cLE (by omega) (by omega)]
      refine ⟨fun c x hx => ?_, fun c => k_depth L ok hi (fun x hx => ?_)⟩
      · rw [l_1, cA] at hx
        subst hx
        have e : pkO (fun r a => decide (vO (dep σ) a < dep σ r)) (i + 1) = pkO (fun r a => decide (vO (dep σ) a < dep σ r)) i := by
          rw [pkO, if_neg (by simpa using c)]
        refine k (s.1, nI (vO (dep σ) (pkO (fun r a => decide (vO (dep σ) a < dep σ r)) i))) ⟨by rw [e]; exact hs.1, by rw [e]⟩
      · rw [l_1, cA] at hx
        subst hx
        have e : pkO (fun r a => decide (vO (dep σ) a < dep σ r)) (i + 1) = some i := by
          rw [pkO, if_pos (by simpa using c)]
        refine k (nI i, nI (dep σ i)) ⟨by rw [e]; rfl, by rw [e]; rfl⟩
  · unfold p_X11_deepest
    refine xloop (fun m i (s : Int32) => p_X11_deepest_L4 Q m s (nI i) u1) (fun i s => s = eO (pkO (fun r a => decide (vO (dep σ) a < dep σ r)) i)) (σ 0 0) 0 (-1) (Nat.zero_le _) rfl ?_ ?_
    · intro m s hs
      unfold p_X11_deepest_L4
      rw [(r_at l_0 (by decide)).2, R.1.r0, hs]
      exact ⟨(r_at l_0 (by decide)).1, fun _ => r_endO (fun j hj => by have := pkO_lt hj; omega) hq rq.rf, fun c => absurd (by rw [cLE (by omega) (by omega)]; exact Nat.le_refl _) c⟩
    · intro m i s _ hi hs k
      have h1 := hd (pkO (fun r a => decide (vO (dep σ) a < dep σ r)) i) (fun j hj => Nat.lt_trans (pkO_lt hj) hi)
      have h2 := dep_le ok hi
      have fin : p_X11_deepest_L33 Q (p_X11_deepest_L4 Q m) s (nI i) (nI (dep σ i)) (nI (vO (dep σ) (pkO (fun r a => decide (vO (dep σ) a < dep σ r)) i))) u1 := by
        unfold p_X11_deepest_L33
        rw [cLE (by omega) (by omega)]
        refine ⟨fun c x hx => ?_, fun c x hx => ?_⟩
        · rw [l_1, cA] at hx
          subst hx
          refine k s ?_
          rw [pkO, if_neg (by simpa using c)]; exact hs
        · rw [l_1, cA] at hx
          subst hx
          refine k _ ?_
          rw [pkO, if_pos (by simpa using c)]; rfl
      unfold p_X11_deepest_L4
      rw [(r_at l_0 (by decide)).2, R.1.r0]
      refine ⟨(r_at l_0 (by decide)).1, fun c => absurd c (by rw [cLE (by omega) (by omega)]; omega), fun _ => r_depthOf R.1 ok hi ?_⟩
      rw [hs, eO_ne (fun j hj => by have := pkO_lt hj; omega)]
      rw [hs] at fin
      cases hp : pkO (fun r a => decide (vO (dep σ) a < dep σ r)) i with
      | none =>
        rw [hp] at fin
        exact ⟨fun z => absurd rfl z, fun _ => fin⟩
      | some j =>
        rw [hp] at fin
        exact ⟨fun _ => r_depthOf R.1 ok (Nat.lt_trans (pkO_lt hp) hi) fin, fun z => (nomatch z)⟩
def afl (σ : aS) (d : Nat) : Nat := flo (opn σ) σ d
theorem sfl_abs (op : Nat) (σ : aS) (d : Nat) : (sfl op σ d).natAbs = flo op σ d := by
  unfold sfl sgn
  split <;> omega
theorem sfl_le (ok : okS σ) {d : Nat} (hd : d < σ 1 0) (op : Nat) : -100000 ≤ sfl op σ d ∧ sfl op σ d ≤ 100000 := by
  have := flo_le ok hd op
  unfold sfl sgn
  split <;> omega
theorem K_busiest (I : INV u) : p_X10_busiest u (fun r u1 => p_X11_busiest u1 (fun r' u2 => r = r' ∧ INV u2)) := by
  obtain ⟨σ, S, L, ok, R⟩ := I.sp
  have h7 := ok.d
  have hd : ∀ a : Option Nat, (∀ j, a = some j → j < σ 1 0) → vO (flo (opn σ) σ) a ≤ 90882 := fun a ha => by
    cases a with
    | none => exact Nat.zero_le _
    | some j => exact flo_le ok (ha j rfl) _
  refine pj (pc := p_X10_busiest u) (pr := p_X11_busiest) I ok R (eO (pkO (fun r a => decide (vO (flo (opn σ) σ) a < flo (opn σ) σ r)) (σ 1 0))) (sO (pkO (fun r a => decide (vO (flo (opn σ) σ) a < flo (opn σ) σ r)) (σ 1 0))) (fun Q hq => ?_) (fun u1 c1 R Q hq => ?_)
  · unfold p_X10_busiest
    refine k_asItFlows L ok (fun u1 L1 F1 c1 => ?_)
    refine xloop (fun m i (s : Int32 × Int32) => p_X10_busiest_L15 Q m s.1 s.2 (nI i) u1) (fun i s => s.1 = eO (pkO (fun r a => decide (vO (flo (opn σ) σ) a < flo (opn σ) σ r)) i) ∧ s.2 = nI (vO (flo (opn σ) σ) (pkO (fun r a => decide (vO (flo (opn σ) σ) a < flo (opn σ) σ r)) i))) (σ 1 0) 0 (-1, 0) (Nat.zero_le _) ⟨rfl, rfl⟩ ?_ ?_
    · intro m s hs
      unfold p_X10_busiest_L15
      rw [show gi u1 92 0 = nI (σ 1 0) from L1.f1, hs.1]
      exact ⟨fun _ => k_endO (fun j hj => by have := pkO_lt hj; omega) hq c1, fun c => absurd (by rw [cLE (by omega) (by omega)]; exact Nat.le_refl _) c⟩
    · intro m i s _ hi hs k
      have h1 := hd (pkO (fun r a => decide (vO (flo (opn σ) σ) a < flo (opn σ) σ r)) i) (fun j hj => Nat.lt_trans (pkO_lt hj) hi)
      have h2 := flo_le ok hi (opn σ)
      have h3 := sfl_le ok hi (opn σ)
      unfold p_X10_busiest_L15
      rw [show gi u1 92 0 = nI (σ 1 0) from L1.f1]
      refine ⟨fun c => absurd c (by rw [cLE (by omega) (by omega)]; omega), fun _ => ⟨cIN (by omega) (by decide), ?_⟩⟩
      rw [cCL (by omega), show gi u1 108 i = iI (sfl (opn σ) σ i) from (F1 i hi).2.2, iI_abs (by omega) (by omega), sfl_abs]
      intro x8 h8
      subst h8
      rw [hs.2, cLE (by omega) (by omega)]
      refine ⟨fun c x hx => ?_, fun c => ⟨cIN (by omega) (by decide), fun x12 h12 x hx => ?_⟩⟩
      · rw [l_1, cA] at hx
        subst hx
        have e : pkO (fun r a => decide (vO (flo (opn σ) σ) a < flo (opn σ) σ r)) (i + 1) = pkO (fun r a => decide (vO (flo (opn σ) σ) a < flo (opn σ) σ r)) i := by
          rw [pkO, if_neg (by simpa using c)]
        refine k (s.1, nI (vO (flo (opn σ) σ) (pkO (fun r a => decide (vO (flo (opn σ) σ) a < flo (opn σ) σ r)) i))) ⟨by rw [e]; exact hs.1, by rw [e]⟩
      · rw [l_1, cA] at hx
        subst hx
        have e : pkO (fun r a => decide (vO (flo (opn σ) σ) a < flo (opn σ) σ r)) (i + 1) = some i := by
          rw [pkO, if_pos (by simpa using c)]
        refine k (nI i, x12) ⟨by rw [e]; rfl, by rw [e]; exact h12⟩
  · unfold p_X11_busiest
    refine xloop (fun m i (s : Int32) => p_X11_busiest_L4 Q m s (nI i) u1) (fun i s => s = eO (pkO (fun r a => decide (vO (flo (opn σ) σ) a < flo (opn σ) σ r)) i)) (σ 1 0) 0 (-1) (Nat.zero_le _) rfl ?_ ?_
    · intro m s hs
      unfold p_X11_busiest_L4
      rw [(r_at l_1 (by decide)).2, R.1.r1, hs]
      exact ⟨(r_at l_1 (by decide)).1, fun _ => r_endO (fun j hj => by have := pkO_lt hj; omega) hq rq.rf, fun c => absurd (by rw [cLE (by omega) (by omega)]; exact Nat.le_refl _) c⟩
    · intro m i s _ hi hs k
      have h1 := hd (pkO (fun r a => decide (vO (flo (opn σ) σ) a < flo (opn σ) σ r)) i) (fun j hj => Nat.lt_trans (pkO_lt hj) hi)
      have h2 := flo_le ok hi (opn σ)
      have h3 := sfl_le ok hi (opn σ)
      have fin : p_X11_busiest_L39 Q (p_X11_busiest_L4 Q m) s (nI i) (nI (flo (opn σ) σ i)) (nI (vO (flo (opn σ) σ) (pkO (fun r a => decide (vO (flo (opn σ) σ) a < flo (opn σ) σ r)) i))) u1 := by
        unfold p_X11_busiest_L39
        rw [cLE (by omega) (by omega)]
        refine ⟨fun c x hx => ?_, fun c x hx => ?_⟩
        · rw [l_1, cA] at hx
          subst hx
          refine k s ?_
          rw [pkO, if_neg (by simpa using c)]; exact hs
        · rw [l_1, cA] at hx
          subst hx
          refine k _ ?_
          rw [pkO, if_pos (by simpa using c)]; rfl
      unfold p_X11_busiest_L4
      rw [(r_at l_1 (by decide)).2, R.1.r1]
      refine ⟨(r_at l_1 (by decide)).1, fun c => absurd c (by rw [cLE (by omega) (by omega)]; omega), fun _ => r_flowOf R.1 ok hi R.mo ?_⟩
      rw [iI_abs (by omega) (by omega), sfl_abs]
      intro x7 h7
      subst h7
      rw [hs, eO_ne (fun j hj => by have := pkO_lt hj; omega)]
      rw [hs] at fin
      cases hp : pkO (fun r a => decide (vO (flo (opn σ) σ) a < flo (opn σ) σ r)) i with
      | none =>
        rw [hp] at fin
        exact ⟨fun z => absurd rfl z, fun _ => fin⟩
      | some j =>
        rw [hp] at fin
        have hj := Nat.lt_trans (pkO_lt hp) hi
        have h4 := sfl_le ok hj (opn σ)
        refine ⟨fun _ => r_flowOf R.1 ok hj R.mo ?_, fun z => (nomatch z)⟩
        rw [iI_abs (by omega) (by omega), sfl_abs]
        intro x11 h11
        subst h11
        exact fin
theorem K_spare (I : INV u) (a : Int32) : p_X10_spare a u (fun r u1 => p_X11_spare a u1 (fun r' u2 => r = r' ∧ INV u2)) := by
  obtain ⟨σ, S, L, ok, R⟩ := I.sp
  have h7 := ok.r
  rcases below (a := a) (σ 0 0) with ⟨r, hr, rfl⟩ | hr
  · have hm := ok.rm hr
    have hb : σ 5 r * (σ 6 r + 1) ≤ 20 * 100 := Nat.mul_le_mul (by omega) (by omega)
    have hb1 : 1 * 1 ≤ σ 5 r * (σ 6 r + 1) := Nat.mul_le_mul (by omega) (by omega)
    have key : ∀ x : Int32, x = (if (0 : Int32) < (nI (σ 5 r * (σ 6 r + 1) - 1) - nI (σ 8 r)) then (nI (σ 5 r * (σ 6 r + 1) - 1) - nI (σ 8 r)) else (0 : Int32)) → x = nI (σ 5 r * (σ 6 r + 1) - 1 - σ 8 r) := fun x hx => by
      rw [hx, l_0, nI_iI, nI_iI, nI_iI, nI_iI, iI_sub]
      split <;> (rename_i c; rw [iI_lt (by omega) (by omega) (by omega) (by omega)] at c; congr 1; omega)
    refine pj (pc := p_X10_spare (nI r) u) (pr := p_X11_spare (nI r)) I ok R (nI (σ 5 r * (σ 6 r + 1) - 1 - σ 8 r)) 0 (fun Q hq => ?_) (fun u1 c1 R Q hq => ?_)
    · unfold p_X10_spare
      refine k_isRoomT L ok hr ⟨fun _ => ⟨cIN (by omega) (by decide), cIN (by omega) (by decide), fun x6 h6 => ⟨cIN (by omega) (by decide), fun x8 h8 => ?_⟩⟩, fun c => absurd c (by decide)⟩
      rw [cCL (by omega), show gi u 87 r = nI (σ 5 r) from L.f5 hr, show gi u 88 r = nI (σ 6 r) from L.f6 hr, l_1, cA, cM, cS (by omega)] at h6
      subst h6
      rw [cCL (by omega), show gi u 90 r = nI (σ 8 r) from L.f8 hr] at h8
      rw [key x8 h8]
      exact k_fine hq cq.rf
    · unfold p_X11_spare
      refine r_isRoomT R ok hr ⟨fun c => absurd c (by decide), fun _ => ?_⟩
      refine r_roomV (w := 2) (f := 6) (v := nI (σ 6 r)) R.1 ok hr rfl (by decide) (by decide) rfl (by simp [rk]; omega) rfl ?_
      refine r_roomV (w := 1) (f := 5) (v := nI (σ 5 r)) R.1 ok hr rfl (by decide) (by decide) rfl (by simp [rk]; omega) rfl ?_
      refine r_roomV (w := 4) (f := 8) (v := nI (σ 8 r)) R.1 ok hr rfl (by decide) (by decide) rfl (by simp [rk]; omega) rfl ?_
      intro x12 h12
      rw [l_1, cA, cM, Nat.mul_comm (σ 6 r + 1), cS (by omega)] at h12
      rw [key x12 h12]
      exact r_gives hq rq.rf
  · refine pj (pc := p_X10_spare a u) (pr := p_X11_spare a) I ok R (-1) 1 (fun Q hq => ?_) (fun u1 c1 R Q hq => ?_)
    · unfold p_X10_spare
      exact k_isRoomF L ok hr ⟨fun c => absurd c (by decide), fun _ => k_none hq cq.rf⟩
    · unfold p_X11_spare
      exact r_isRoomF R ok hr ⟨fun _ => r_refuse hq rq.rf, fun c => absurd c (by decide)⟩
def lw (f : Nat → Nat) : Nat → Nat
  | 0 => 0
  | n + 1 => if f n < f (lw f n) then n else lw f n
theorem lw_le (f : Nat → Nat) (n : Nat) : lw f n ≤ n := by
  induction n with
  | zero => exact Nat.le_refl _
  | succ n ih => unfold lw; split <;> omega
theorem lw_lt (f : Nat → Nat) (n : Nat) : lw f (n + 1) < n + 1 := by
  induction n with
  | zero => unfold lw; split <;> simp [lw]
  | succ n ih => rw [lw]; split <;> omega
theorem K_low (I : INV u) : p_X10_low u (fun r u1 => p_X11_low u1 (fun r' u2 => r = r' ∧ INV u2)) := by
  obtain ⟨σ, S, L, ok, R⟩ := I.sp
  have hl1 : lw (σ 18) 1 = 0 := by simp [lw]
  refine pj (pc := p_X10_low u) (pr := p_X11_low) I ok R (nI (lw (σ 18) 12)) 0 (fun Q hq => ?_) (fun u1 c1 R Q hq => ?_)
  · unfold p_X10_low
    refine xloop (fun m i (s : Int32) => p_X10_low_L4 Q m s (nI i) u) (fun i s => s = nI (lw (σ 18) i)) 12 1 0 (by decide) (by rw [hl1]; rfl) ?_ ?_
    · intro m s hs
      unfold p_X10_low_L4
      rw [hs]
      exact ⟨fun _ => k_fine hq cq.rf, fun c => absurd (by decide) c⟩
    · intro m i s h1 hi hs k
      have h2 : lw (σ 18) i < i := by
        obtain ⟨j, rfl⟩ : ∃ j, i = j + 1 := ⟨i - 1, by omega⟩
        exact lw_lt _ _
      have a1 := (ok.hr hi).1
      have a2 := (ok.hr (k := lw (σ 18) i) (by omega)).1
      unfold p_X10_low_L4
      refine ⟨fun c => absurd c (by rw [l_12, cLE (by omega) (by omega)]; omega), fun _ => ⟨cIN (by omega) (by decide), ?_⟩⟩
      rw [hs]
      refine ⟨cIN (by omega) (by decide), ?_⟩
      rw [cCL (by omega), cCL (by omega), show gi u 104 i = nI (σ 18 i) from L.f18 hi, show gi u 104 (lw (σ 18) i) = nI (σ 18 (lw (σ 18) i)) from L.f18 (by omega), cLE (by omega) (by omega)]
      refine ⟨fun c x hx => ?_, fun c x hx => ?_⟩
      · rw [l_1, cA] at hx
        subst hx
        refine k _ ?_
        rw [lw, if_neg (by omega)]
      · rw [l_1, cA] at hx
        subst hx
        refine k _ ?_
        rw [lw, if_pos (by omega)]
  · unfold p_X11_low
    refine xloop (fun m i (s : Int32) => p_X11_low_L4 Q m s (nI i) u1) (fun i s => s = nI (lw (σ 18) i)) 12 1 0 (by decide) (by rw [hl1]; rfl) ?_ ?_
    · intro m s hs
      unfold p_X11_low_L4
      rw [hs]
      exact ⟨fun _ => r_gives hq rq.rf, fun c => absurd (by decide) c⟩
    · intro m i s h1 hi hs k
      have h2 : lw (σ 18) i < i := by
        obtain ⟨j, rfl⟩ : ∃ j, i = j + 1 := ⟨i - 1, by omega⟩
        exact lw_lt _ _
      have a1 := (ok.hr hi).1
      have a2 := (ok.hr (k := lw (σ 18) i) (by omega)).1
      unfold p_X11_low_L4
      rw [hs, l_135, cA, cA]
      refine ⟨fun c => absurd c (by rw [l_12, cLE (by omega) (by omega)]; omega), fun _ => ⟨cIN (by omega) (by decide), cIN (by omega) (by decide), ?_⟩⟩
      rw [cCL (by omega), cCL (by omega), R.1.r18 hi, R.1.r18 (by omega), cLE (by omega) (by omega)]
      refine ⟨fun c x hx => ?_, fun c x hx => ?_⟩
      · rw [l_1, cA] at hx
        subst hx
        refine k _ ?_
        rw [lw, if_neg (by omega)]
      · rw [l_1, cA] at hx
        subst hx
        refine k _ ?_
        rw [lw, if_pos (by omega)]
theorem K_high (I : INV u) (a : Int32) : p_X10_high a u (fun r u1 => p_X11_high a u1 (fun r' u2 => r = r' ∧ INV u2)) := by
  obtain ⟨σ, S, L, ok, R⟩ := I.sp
  have h10 := ok.d
  rcases below (a := a) (σ 1 0) with ⟨d, hd, rfl⟩ | hd
  · have hm := ok.dr hd
    refine pj (pc := p_X10_high (nI d) u) (pr := p_X11_high (nI d)) I ok R (nI (mk (fun h => decide (σ 12 d < σ 18 h)) 12)) 0 (fun Q hq => ?_) (fun u1 c1 R Q hq => ?_)
    · unfold p_X10_high
      refine k_isDoorT L ok hd ⟨fun _ => ?_, fun c => absurd c (by decide)⟩
      refine xloop (fun m i (s : Int32) => p_X10_high_L18 Q m (nI d) s (nI i) u) (fun i s => s = nI (mk (fun h => decide (σ 12 d < σ 18 h)) i)) 12 0 0 (Nat.zero_le _) rfl ?_ ?_
      · intro m s hs
        unfold p_X10_high_L18
        rw [hs]
        exact ⟨fun _ => k_fine hq cq.rf, fun c => absurd (by decide) c⟩
      · intro m i s _ hi hs k
        have a1 := (ok.hr hi).1
        unfold p_X10_high_L18
        refine ⟨fun c => absurd c (by rw [l_12, cLE (by omega) (by omega)]; omega), fun _ => ⟨cIN (by omega) (by decide), cIN (by omega) (by decide), ?_⟩⟩
        rw [cCL (by omega), cCL (by omega), show gi u 104 i = nI (σ 18 i) from L.f18 hi, show gi u 96 d = nI (σ 12 d) from L.f12 hd, cLE (by omega) (by omega)]
        refine ⟨fun c x hx => ?_, fun c x8 h8 x hx => ?_⟩
        · rw [l_1, cA] at hx
          subst hx
          refine k s ?_
          rw [mk_n (by simpa using c)]; exact hs
        · rw [l_1, cA] at hx
          subst hx
          refine k x8 ?_
          rw [h8, hs, bPOW (by omega), bOR, mk_s (by simpa using c)]
    · unfold p_X11_high
      refine r_isDoorT R ok hd ⟨fun _ => ?_, fun c => absurd c (by decide)⟩
      refine xloop (fun m i (s : Int32) => p_X11_high_L18 Q m (nI d) s (nI i) u1) (fun i s => s = nI (mk (fun h => decide (σ 12 d < σ 18 h)) i)) 12 0 0 (Nat.zero_le _) rfl ?_ ?_
      · intro m s hs
        unfold p_X11_high_L18
        rw [hs]
        exact ⟨fun _ => r_gives hq rq.rf, fun c => absurd (by decide) c⟩
      · intro m i s _ hi hs k
        have a1 := (ok.hr hi).1
        unfold p_X11_high_L18
        rw [l_135, cA]
        refine ⟨fun c => absurd c (by rw [l_12, cLE (by omega) (by omega)]; omega), fun _ => ⟨cIN (by omega) (by decide), ?_⟩⟩
        refine r_doorV (w := 2) (f := 12) (v := nI (σ 12 d)) R.1 ok hd rfl (by decide) (by decide) rfl (by simp [rk]; omega) rfl ?_
        rw [cCL (by omega), R.1.r18 hi, cLE (by omega) (by omega)]
        refine ⟨fun c x8 h8 x hx => ?_, fun c x8 h8 x hx => ?_⟩
        · rw [l_1, cA] at hx
          subst hx
          refine k x8 ?_
          rw [h8, hs, zero_or, mk_n (by simpa using c)]
        · rw [l_1, cA] at hx
          subst hx
          refine k x8 ?_
          rw [h8, hs, bPOW (by omega), bOR, mk_s (by simpa using c)]
  · refine pj (pc := p_X10_high a u) (pr := p_X11_high a) I ok R (-1) 1 (fun Q hq => ?_) (fun u1 c1 R Q hq => ?_)
    · unfold p_X10_high
      exact k_isDoorF L ok hd ⟨fun c => absurd c (by decide), fun _ => k_none hq cq.rf⟩
    · unfold p_X11_high
      exact r_isDoorF R ok hd ⟨fun c => absurd c (by decide), fun _ => r_refuse hq rq.rf⟩
end PICK
