/-! ===== hours till something is so; through, greatest ===== -/
def fstO (p : Nat → Bool) : Nat → Option Nat
  | 0 => none
  | n + 1 => match fstO p n with
    | some k => some k
    | none => if p n then some n else none
theorem fstO_no {p : Nat → Bool} {n : Nat} (h : ∀ j, j < n → p j = false) : fstO p n = none := by
  induction n with
  | zero => rfl
  | succ n ih =>
    unfold fstO
    rw [ih (fun j hj => h j (by omega))]
    simp [h n (by omega)]
theorem fstO_at {p : Nat → Bool} {n i : Nat} (hi : i < n) (h : ∀ j, j < i → p j = false) (hp : p i = true) : fstO p n = some i := by
  induction n with
  | zero => omega
  | succ n ih =>
    unfold fstO
    by_cases e : i = n
    · subst e
      rw [fstO_no h]
      simp [hp]
    · rw [ih (by omega)]
theorem fstO_lt {p : Nat → Bool} {n k : Nat} (h : fstO p n = some k) : k < n := by
  induction n with
  | zero => cases h
  | succ n ih =>
    unfold fstO at h
    split at h
    · rename_i j hj
      injection h with h
      subst h
      have := ih hj; omega
    · split at h
      · injection h with h; omega
      · cases h
def tl (w r : Nat) (σ : aS) : Bool := if w = 0 then decide (0 < dep σ r) else if w = 1 then (σ 22 0).testBit r else decide (mk (fun r => decide (0 < dep σ r)) (σ 0 0) = 0)
section TILL
variable {σ τ : aS} {u u' u0 : xM} {o : Nat} {md : Option Nat}
theorem r_hoursTill {w r : Nat} {a : Int32} {Q : Int32 → xM → Prop} (R : RS σ u) (ok : okS σ) (hh : σ 3 0 + 100 ≤ 20000) (hw : w < 3) (hr : w < 2 → r < σ 0 0 ∧ a = nI r) (hq : ∀ u', rq u u' → Q (eO (fstO (fun k => tl w r (hrsB none k σ)) 100)) u') : p_X11_hoursTill (nI w) a u Q := by
  have h7 := ok.r
  unfold p_X11_hoursTill
  refine r_keepsT rfl (fun u1 k1 x1 s1 => ?_)
  have R1 := R.1.k ok s1
  have m23 := x1.1 272 23 (by omega)
  have m24 := x1.1 272 24 (by omega)
  have m25 := x1.1 272 25 (by omega)
  -- at the end
  have fin : ∀ (i : Nat) (s : xM), i ≤ 100 → KT u s → xsame gP u1 s → (eO (fstO (fun k => tl w r (hrsB none k σ)) 100) = if i ≤ 99 then nI i else -1) → p_X11_hoursTill_L55 Q (nI i) s := fun i s hi ks xs he => by
    unfold p_X11_hoursTill_L55
    refine r_restT rfl ks (fun u3 k3 s3 x3 => ?_)
    have q3 : rq u u3 := by
      refine k3.rq s3 ⟨?_, ?_, ?_⟩ ⟨?_, ?_⟩
      · rw [x3.1 272 23 (by omega), xs.1 272 23 (by simp [gP]), m23]
      · rw [x3.1 272 24 (by omega), xs.1 272 24 (by simp [gP]), m24]
      · rw [x3.1 272 25 (by omega), xs.1 272 25 (by simp [gP]), m25]
      · rw [x3.1 272 26 (by omega), xs.1 272 26 (by simp [gP]), x1.1 272 26 (by omega)]
      · rw [x3.1 272 27 (by omega), xs.1 272 27 (by simp [gP]), x1.1 272 27 (by omega)]
    have hq3 := hq u3 q3
    rw [he] at hq3
    rw [l_99, cLE (by omega) (by omega)]
    refine ⟨fun c => by rw [if_pos c] at hq3; exact hq3, fun c => by rw [if_neg c] at hq3; exact hq3⟩
  refine xloop (fun m i (s : xM) => p_X11_hoursTill_L9 Q m (nI w) a (nI i) s) (fun i s => RR 0 (hrsB none i σ) s ∧ KT u s ∧ xsame gP u1 s ∧ ∀ j, j < i → tl w r (hrsB none j σ) = false) 100 0 u1 (Nat.zero_le _) ⟨R1, k1, xsame.rf, fun j hj => by omega⟩ ?_ ?_
  · intro m s hs
    unfold p_X11_hoursTill_L9
    refine ⟨fun _ => fin 100 s (by omega) hs.2.1 hs.2.2.1 ?_, fun c => absurd (by decide) c⟩
    rw [fstO_no hs.2.2.2]; rfl
  · intro m i s _ hi hs k
    have oki := hrsB_ok (md := none) ok i (by omega)
    have hNR : hrsB none i σ 0 0 = σ 0 0 := hrsB_kept none i σ (by decide : kept 0) 0
    have yes : tl w r (hrsB none i σ) = true → p_X11_hoursTill_L55 Q (nI i) s := fun c => fin i s (by omega) hs.2.1 hs.2.2.1 (by
      rw [fstO_at (n := 100) hi hs.2.2.2 c, if_pos (by omega)]; rfl)
    have no : tl w r (hrsB none i σ) = false → p_X11_hoursTill_L44 Q (p_X11_hoursTill_L9 Q m) (nI w) a (nI i) s := fun c => by
      unfold p_X11_hoursTill_L44
      have mo : MO (hrsB none i σ) (opn (hrsB none i σ)) s := Or.inl ⟨by rw [hs.2.2.1.1 272 23 (by simp [gP]), m23]; exact R.2.1.1, by rw [hs.2.2.1.1 272 24 (by simp [gP]), m24]; exact R.2.1.2, rfl⟩
      refine r_goesBy (pu := true) hs.1 oki (by rw [hrsB_hour]; omega) mo (by rw [hs.2.2.1.1 272 25 (by simp [gP]), m25]; exact R.2.2) (fun u2 R2 g2 _ => ?_)
      intro x3 h3
      rw [l_1, cA] at h3
      subst h3
      refine k u2 ⟨R2, hs.2.1.g g2, hs.2.2.1.tr g2.1, fun j hj => ?_⟩
      by_cases e : j = i
      · subst e; exact c
      · exact hs.2.2.2 j (by omega)
    unfold p_X11_hoursTill_L9
    refine ⟨fun c => absurd c (by rw [l_99, cLT (by omega) (by omega)]; omega), fun _ => ?_⟩
    rcases (by omega : w = 0 ∨ w = 1 ∨ w = 2) with rfl | rfl | rfl
    · obtain ⟨hr1, rfl⟩ := hr (by omega)
      refine ⟨fun _ => ?_, fun z => absurd z (by decide)⟩
      have hl := mk_lt (fun r => decide (0 < dep (hrsB none i σ) r)) (hrsB none i σ 0 0)
      have := oki.p7
      refine r_set0 hs.1 oki (r_isIn (by omega) (by omega) ?_)
      have e : (mk (fun r => decide (0 < dep (hrsB none i σ) r)) (hrsB none i σ 0 0)).testBit r = tl 0 r (hrsB none i σ) := by
        rw [mk_testBit, hNR]; simp [tl, hr1]
      rw [e]
      exact ⟨yes, no⟩
    · obtain ⟨hr1, rfl⟩ := hr (by omega)
      refine ⟨fun _ => ?_, fun z => absurd z (by decide)⟩
      have hl := oki.drowned
      have := oki.p7
      refine r_set1 hs.1 oki (r_isIn (by omega) (by omega) ?_)
      exact ⟨yes, no⟩
    · refine ⟨fun z => absurd rfl z, fun _ => ?_⟩
      have hl := mk_lt (fun r => decide (0 < dep (hrsB none i σ) r)) (hrsB none i σ 0 0)
      have := oki.p7
      refine r_set0 hs.1 oki ?_
      rw [cE0 (by omega)]
      exact ⟨fun c => yes (by simp [tl, c]), fun c => no (by simp [tl, c])⟩
theorem K_wetIn (I : INV u) (a : Int32) : p_X10_wetIn a u (fun r u1 => p_X11_wetIn a u1 (fun r' u2 => r = r' ∧ INV u2)) := by
  obtain ⟨σ, S, L, ok, R⟩ := I.sp
  have h3 := okS.hour S
  have hp : σ 23 0 = 4095 := S.2.2.2.2.1
  have h7 := ok.r
  rcases below (a := a) (σ 0 0) with ⟨r, hr, rfl⟩ | hr
  · refine pj (pc := p_X10_wetIn (nI r) u) (pr := p_X11_wetIn (nI r)) I ok R (eO (fstO (fun k => tl 0 r (hrsB none k σ)) 100)) (sO (fstO (fun k => tl 0 r (hrsB none k σ)) 100)) (fun Q hq => ?_) (fun u1 c1 R Q hq => ?_)
    · unfold p_X10_wetIn
      refine k_isRoomT L ok hr ⟨fun _ => k_asItIs L ok (fun u1 L1 _ c1 => ?_), fun z => absurd z (by decide)⟩
      refine xloop (fun m i (s : xM) => p_X10_wetIn_L21 Q m (nI r) (nI i) s) (fun i s => LR 110 (hrs i σ) s ∧ cq u s ∧ ∀ j, j < i → tl 0 r (hrsB none j σ) = false) 100 0 u1 (Nat.zero_le _) ⟨L1, c1, fun j hj => by omega⟩ ?_ ?_
      · intro m s hs
        unfold p_X10_wetIn_L21
        rw [fstO_no hs.2.2] at hq
        exact ⟨fun _ => k_none hq hs.2.1, fun c => absurd (by decide) c⟩
      · intro m i s _ hi hs k
        have oki := hrs_ok ok i (by omega)
        have hNR : hrs i σ 0 0 = σ 0 0 := hrs_kept i σ (by decide : kept 0) 0
        have hd := dep_le oki (r := r) (by omega)
        have et : tl 0 r (hrsB none i σ) = decide (0 < dep (hrs i σ) r) := by rw [← hrs_B hp]; rfl
        unfold p_X10_wetIn_L21
        refine ⟨fun c => absurd c (by rw [l_99, cLT (by omega) (by omega)]; omega), fun _ => k_depth hs.1 oki (by omega) ?_⟩
        rw [show (0 : Int32) = nI 0 from rfl, cLE (by omega) (by omega)]
        refine ⟨fun c => ?_, fun c => ?_⟩
        · refine k_goOneHour hs.1 oki (by rw [hrs_hour]; omega) (fun u2 L2 _ x2 x8 h8 => ?_)
          rw [l_1, cA] at h8
          subst h8
          refine k u2 ⟨L2, hs.2.1.hr x2, fun j hj => ?_⟩
          by_cases e : j = i
          · subst e; rw [et]; exact decide_eq_false (by omega)
          · exact hs.2.2 j (by omega)
        · rw [fstO_at (n := 100) hi hs.2.2 (by rw [et]; exact decide_eq_true (by omega))] at hq
          exact k_fine hq hs.2.1
    · unfold p_X11_wetIn
      exact r_isRoomT R ok hr ⟨fun z => absurd z (by decide), fun _ => r_hoursTill (w := 0) R ok (by omega) (by omega) (fun _ => ⟨hr, rfl⟩) (fun u2 q2 => r_endO (fun j hj => by have := fstO_lt hj; omega) hq q2)⟩
  · refine pj (pc := p_X10_wetIn a u) (pr := p_X11_wetIn a) I ok R (-1) 1 (fun Q hq => ?_) (fun u1 c1 R Q hq => ?_)
    · unfold p_X10_wetIn
      exact k_isRoomF L ok hr ⟨fun z => absurd z (by decide), fun _ => k_none hq cq.rf⟩
    · unfold p_X11_wetIn
      exact r_isRoomF R ok hr ⟨fun _ => r_refuse hq rq.rf, fun z => absurd z (by decide)⟩
theorem K_drownsIn (I : INV u) (a : Int32) : p_X10_drownsIn a u (fun r u1 => p_X11_drownsIn a u1 (fun r' u2 => r = r' ∧ INV u2)) := by
  obtain ⟨σ, S, L, ok, R⟩ := I.sp
  have h3 := okS.hour S
  have hp : σ 23 0 = 4095 := S.2.2.2.2.1
  have h7 := ok.r
  rcases below (a := a) (σ 0 0) with ⟨r, hr, rfl⟩ | hr
  · refine pj (pc := p_X10_drownsIn (nI r) u) (pr := p_X11_drownsIn (nI r)) I ok R (eO (fstO (fun k => tl 1 r (hrsB none k σ)) 100)) (sO (fstO (fun k => tl 1 r (hrsB none k σ)) 100)) (fun Q hq => ?_) (fun u1 c1 R Q hq => ?_)
    · unfold p_X10_drownsIn
      refine k_isRoomT L ok hr ⟨fun _ => k_asItIs L ok (fun u1 L1 _ c1 => ?_), fun z => absurd z (by decide)⟩
      refine xloop (fun m i (s : xM) => p_X10_drownsIn_L21 Q m (nI r) (nI i) s) (fun i s => LR 110 (hrs i σ) s ∧ cq u s ∧ ∀ j, j < i → tl 1 r (hrsB none j σ) = false) 100 0 u1 (Nat.zero_le _) ⟨L1, c1, fun j hj => by omega⟩ ?_ ?_
      · intro m s hs
        unfold p_X10_drownsIn_L21
        rw [fstO_no hs.2.2] at hq
        exact ⟨fun _ => k_none hq hs.2.1, fun c => absurd (by decide) c⟩
      · intro m i s _ hi hs k
        have oki := hrs_ok ok i (by omega)
        have et : tl 1 r (hrsB none i σ) = (hrs i σ 22 0).testBit r := by rw [← hrs_B hp]; rfl
        unfold p_X10_drownsIn_L21
        refine ⟨fun c => absurd c (by rw [l_99, cLT (by omega) (by omega)]; omega), fun _ => k_isDrowned hs.1 oki (by omega) ?_⟩
        refine ⟨fun c => ?_, fun c => ?_⟩
        · refine k_goOneHour hs.1 oki (by rw [hrs_hour]; omega) (fun u2 L2 _ x2 x8 h8 => ?_)
          rw [l_1, cA] at h8
          subst h8
          refine k u2 ⟨L2, hs.2.1.hr x2, fun j hj => ?_⟩
          by_cases e : j = i
          · subst e; rw [et]; exact c
          · exact hs.2.2 j (by omega)
        · rw [fstO_at (n := 100) hi hs.2.2 (by rw [et]; exact c)] at hq
          exact k_fine hq hs.2.1
    · unfold p_X11_drownsIn
      exact r_isRoomT R ok hr ⟨fun z => absurd z (by decide), fun _ => r_hoursTill (w := 1) R ok (by omega) (by omega) (fun _ => ⟨hr, rfl⟩) (fun u2 q2 => r_endO (fun j hj => by have := fstO_lt hj; omega) hq q2)⟩
  · refine pj (pc := p_X10_drownsIn a u) (pr := p_X11_drownsIn a) I ok R (-1) 1 (fun Q hq => ?_) (fun u1 c1 R Q hq => ?_)
    · unfold p_X10_drownsIn
      exact k_isRoomF L ok hr ⟨fun z => absurd z (by decide), fun _ => k_none hq cq.rf⟩
    · unfold p_X11_drownsIn
      exact r_isRoomF R ok hr ⟨fun _ => r_refuse hq rq.rf, fun z => absurd z (by decide)⟩
theorem K_dryIn (I : INV u) : p_X10_dryIn u (fun r u1 => p_X11_dryIn u1 (fun r' u2 => r = r' ∧ INV u2)) := by
  obtain ⟨σ, S, L, ok, R⟩ := I.sp
  have h3 := okS.hour S
  have hp : σ 23 0 = 4095 := S.2.2.2.2.1
  refine pj (pc := p_X10_dryIn u) (pr := p_X11_dryIn) I ok R (eO (fstO (fun k => tl 2 0 (hrsB none k σ)) 100)) (sO (fstO (fun k => tl 2 0 (hrsB none k σ)) 100)) (fun Q hq => ?_) (fun u1 c1 R Q hq => ?_)
  · unfold p_X10_dryIn
    refine k_asItIs L ok (fun u1 L1 _ c1 => ?_)
    refine xloop (fun m i (s : xM) => p_X10_dryIn_L7 Q m (nI i) s) (fun i s => LR 110 (hrs i σ) s ∧ cq u s ∧ ∀ j, j < i → tl 2 0 (hrsB none j σ) = false) 100 0 u1 (Nat.zero_le _) ⟨L1, c1, fun j hj => by omega⟩ ?_ ?_
    · intro m s hs
      unfold p_X10_dryIn_L7
      rw [fstO_no hs.2.2] at hq
      exact ⟨fun _ => k_none hq hs.2.1, fun c => absurd (by decide) c⟩
    · intro m i s _ hi hs k
      have oki := hrs_ok ok i (by omega)
      have hl := mk_lt (fun r => decide (0 < dep (hrs i σ) r)) (hrs i σ 0 0)
      have := oki.p7
      have et : tl 2 0 (hrsB none i σ) = decide (mk (fun r => decide (0 < dep (hrs i σ) r)) (hrs i σ 0 0) = 0) := by rw [← hrs_B hp]; rfl
      unfold p_X10_dryIn_L7
      refine ⟨fun c => absurd c (by rw [l_99, cLT (by omega) (by omega)]; omega), fun _ => k_wetOnes hs.1 oki ?_⟩
      rw [cE0 (by omega)]
      refine ⟨fun c => ?_, fun c => ?_⟩
      · refine k_goOneHour hs.1 oki (by rw [hrs_hour]; omega) (fun u2 L2 _ x2 x8 h8 => ?_)
        rw [l_1, cA] at h8
        subst h8
        refine k u2 ⟨L2, hs.2.1.hr x2, fun j hj => ?_⟩
        by_cases e : j = i
        · subst e; rw [et]; exact decide_eq_false c
        · exact hs.2.2 j (by omega)
      · rw [fstO_at (n := 100) hi hs.2.2 (by rw [et]; exact decide_eq_true c)] at hq
        exact k_fine hq hs.2.1
  · unfold p_X11_dryIn
    exact r_hoursTill (w := 2) (r := 0) R ok (by omega) (by omega) (fun z => absurd z (by omega)) (fun u2 q2 => r_endO (fun j hj => by have := fstO_lt hj; omega) hq q2)
end TILL
