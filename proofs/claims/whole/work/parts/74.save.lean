/-! ===== save, saveSet ===== -/
section SAVE
variable {σ τ ρ : aS} {u u' u0 u1 : xM} {o o1 : Nat}
def cW (ρ σ : aS) : aS := fun f i => if f = 3 ∨ f = 8 ∨ f = 9 ∨ f = 22 then σ f i else ρ f i
theorem cW_at (ρ σ : aS) (f i : Nat) : cW ρ σ f i = if f = 3 ∨ f = 8 ∨ f = 9 ∨ f = 22 then σ f i else ρ f i := rfl
theorem k_copyWaterG {Q : xM → Prop} (Lρ : LR o ρ u) (L : LR o1 σ u) (ok : okS σ) (hk0 : ρ 0 0 = σ 0 0) (hk1 : ρ 1 0 = σ 1 0) (hk2 : ρ 2 0 = σ 2 0) (hoo : o + 27 ≤ o1 ∨ o1 + 27 ≤ o) (hq : ∀ u', LR o (cW ρ σ) u' → xsame (hrP o) u u' → Q u') : p_X1_copyWaterFrom o o1 u Q := by
  have h7 := ok.r
  unfold p_X1_copyWaterFrom
  intro v1 e1 v2 e2 v3 e3 v4 e4
  refine hq v4 (fun f hf i hi => ?_) ?_
  · have hl := hi
    have hn : rlN ρ f = rlN σ f := by
      unfold rlN
      rw [hk0, hk1, hk2]
    have hnc : rlN (cW ρ σ) f = rlN σ f := by
      have c0 : cW ρ σ 0 0 = σ 0 0 := by rw [cW_at, if_neg (by decide), hk0]
      have c1 : cW ρ σ 1 0 = σ 1 0 := by rw [cW_at, if_neg (by decide), hk1]
      have c2 : cW ρ σ 2 0 = σ 2 0 := by rw [cW_at, if_neg (by decide), hk2]
      unfold rlN
      rw [c0, c1, c2]
    rw [hnc] at hl
    have er := Lρ f hf i (by rw [hn]; exact hl)
    rw [cW_at]
    have a3 := L.f3
    have a22 := L.f22
    by_cases k3 : f = 3
    · subst k3
      have : i = 0 := rl_lim (Or.inl rfl) hf hl
      subst this
      rw [if_pos (c := 3 = 3 ∨ 3 = 8 ∨ 3 = 9 ∨ 3 = 22) (by decide), e4, gi_cpi, if_neg (by simp [rlO]), e3, gi_cpi, if_neg (by simp [rlO]), e2, gi_si, if_neg (by simp [rlO]), e1, gi_si, if_pos ⟨rfl, rfl⟩, a3]
    · by_cases k22 : f = 22
      · subst k22
        have : i = 0 := rl_lim (Or.inr (Or.inl rfl)) hf hl
        subst this
        rw [if_pos (c := 22 = 3 ∨ 22 = 8 ∨ 22 = 9 ∨ 22 = 22) (by decide), e4, gi_cpi, if_neg (by simp [rlO]), e3, gi_cpi, if_neg (by simp [rlO]), e2, gi_si, if_pos ⟨rfl, rfl⟩, e1, gi_si, if_neg (by omega), a22]
      · by_cases k8 : f = 8
        · subst k8
          have hi : i < σ 0 0 := by simpa [rlN] using hl
          rw [if_pos (c := 8 = 3 ∨ 8 = 8 ∨ 8 = 9 ∨ 8 = 22) (by decide), e4, gi_cpi, if_neg (by simp [rlO]), e3, gi_cpi, if_pos ⟨rfl, by omega, by simp [rlS]; omega⟩, e2, gi_si, if_neg (by omega), e1, gi_si, if_neg (by omega)]
          rw [show 0 + (rlS 8 + i - 0) = i by simp [rlS]]
          exact L.f8 hi
        · by_cases k9 : f = 9
          · subst k9
            have hi : i < σ 0 0 := by simpa [rlN] using hl
            rw [if_pos (c := 9 = 3 ∨ 9 = 8 ∨ 9 = 9 ∨ 9 = 22) (by decide), e4, gi_cpi, if_pos ⟨rfl, by omega, by simp [rlS]; omega⟩, e3, gi_cpi, if_neg (by omega), e2, gi_si, if_neg (by omega), e1, gi_si, if_neg (by omega)]
            rw [show 0 + (rlS 9 + i - 0) = i by simp [rlS]]
            exact L.f9 hi
          · have hne := rl_ne f hf k3 k22 k8 k9
            obtain ⟨n7, n8, n0, n1⟩ := hne
            have hlim := rl_lim (σ := σ) (f := f) (i := i)
            rw [if_neg (c := f = 3 ∨ f = 8 ∨ f = 9 ∨ f = 22) (by omega), e4, gi_cpi, if_neg (by omega), e3, gi_cpi, if_neg (by omega), e2, gi_si, if_neg, e1, gi_si, if_neg]
            · exact er
            · rintro ⟨z1, z2⟩
              have z0 : rlO f = 0 := by omega
              have := hlim (Or.inl z0) hf hl
              have := n0 z0
              omega
            · rintro ⟨z1, z2⟩
              have z0 : rlO f = 1 := by omega
              have := hlim (Or.inr (Or.inl z0)) hf hl
              have := n1 z0
              omega
  · rw [e4, e3, e2, e1]
    exact (((xsame.si (by simp [hrP])).tr (xsame.si (by simp [hrP]))).tr (xsame.cpi (by simp [hrP]))).tr (xsame.cpi (by simp [hrP]))

/-- the pumps' hours -/
def pH (σ : aS) (s : Nat) : aS := sU σ 23 0 s
theorem pH_at (σ : aS) (s f i : Nat) : pH σ s f i = if f = 23 ∧ i = 0 then s else σ f i := rfl
theorem okS_pH (ok : okS σ) {s : Nat} (hs : s < 4096) : okS (pH σ s) := by
  have e : ∀ f i, f ≠ 23 → pH σ s f i = σ f i := fun f i hf => by rw [pH_at, if_neg (fun z => hf z.1)]
  have e' : ∀ f, f ≠ 23 → pH σ s f = σ f := fun f hf => funext (fun i => e f i hf)
  unfold okS
  rw [e' 0 (by decide), e' 1 (by decide), e' 2 (by decide), e' 3 (by decide), e' 4 (by decide), e' 5 (by decide), e' 6 (by decide), e' 7 (by decide), e' 8 (by decide), e' 9 (by decide), e' 10 (by decide), e' 11 (by decide), e' 12 (by decide), e' 13 (by decide), e' 14 (by decide), e' 15 (by decide), e' 16 (by decide), e' 17 (by decide), e' 18 (by decide), e' 19 (by decide), e' 20 (by decide), e' 21 (by decide), e' 22 (by decide), pH_at, if_pos ⟨rfl, rfl⟩]
  exact ⟨ok.r, ok.d, ok.e, ok.h, fun r hr => ok.rm hr, fun d hd => ok.dr hd, fun e he => ok.er he, fun k hk => ok.hr hk, ok.held, ok.walled, ok.drowned, hs⟩
theorem cW_pH {v : Nat} (h : ∀ f i, kept f → ρ f i = pH σ v f i) : cW ρ σ = pH σ v := by
  funext f i
  rw [cW_at]
  by_cases c : f = 3 ∨ f = 8 ∨ f = 9 ∨ f = 22
  · rw [if_pos c, pH_at, if_neg (by omega)]
  · rw [if_neg c]
    exact h f i ⟨by omega, by omega, by omega, by omega⟩
theorem pH_pH (σ : aS) (a b : Nat) : sU (pH σ a) 23 0 b = pH σ b := by
  funext f i
  rw [sU_at, pH_at, pH_at]
  by_cases c : f = 23 ∧ i = 0
  · rw [if_pos c, if_pos c]
  · rw [if_neg c, if_neg c, if_neg c]
theorem RR.toP (R : RR 0 σ u) (s : Nat) : RR 0 (pH σ s) u := by
  have e : ∀ f i, f ≠ 23 → pH σ s f i = σ f i := fun f i hf => by rw [pH_at, if_neg (fun z => hf z.1)]
  refine R.eq (e 0 0 (by decide)) (e 1 0 (by decide)) (e 2 0 (by decide)) (fun f hf i _ => ?_)
  have er : rotD (pH σ s) i = rotD σ i := by
    unfold rotD
    exact mk_congr (fun h _ => by rw [e 19 h (by decide)])
  unfold rv
  rw [e f i (by omega), e f 0 (by omega), er]
def svB (W : Nat → Nat) (n s : Nat) (acc : Option Nat) : Bool := decide (pop s = n) && decide (W s < lO W acc)
theorem svB_at (W : Nat → Nat) (n s : Nat) (acc : Option Nat) : svB W n s acc = (decide (pop s = n) && decide (W s < lO W acc)) := rfl
theorem pop_full : ∀ n, n < 13 → pop (2 ^ n - 1) = n ∧ 2 ^ n - 1 < 4096 := by decide +kernel
theorem sv_some {W : Nat → Nat} {n s : Nat} (hW : ∀ s, W s < 1000000) (hs : pop s = n) (m : Nat) : ∃ b, pkO (svB W n) (s + 1 + m) = some b := by
  induction m with
  | zero =>
    show ∃ b, pkO (svB W n) (s + 1) = some b
    rw [pkO_s]
    cases h : pkO (svB W n) s with
    | none =>
      have : svB W n s none = true := by
        rw [svB_at, decide_eq_true hs, decide_eq_true (show W s < lO W none from hW s)]; rfl
      rw [this]
      exact ⟨s, rfl⟩
    | some b =>
      split
      · exact ⟨s, rfl⟩
      · exact ⟨b, rfl⟩
  | succ m ih =>
    obtain ⟨b, hb⟩ := ih
    rw [← Nat.add_assoc, pkO_s, hb]
    split
    · exact ⟨_, rfl⟩
    · exact ⟨b, rfl⟩
theorem lO_lt {W : Nat → Nat} (hW : ∀ s, W s < 1000000) (acc : Option Nat) : lO W acc < 2147483648 := by
  cases acc with
  | none => show 1000000 < 2147483648; omega
  | some b => have := hW b; show W b < 2147483648; omega
theorem k_planPumps {n : Nat} {W : Nat → Nat} {Q : xM → Prop} (hWs : ∀ s, s < 4096 → allW (hrs 12 (pH σ s)) = W s) (hWb : ∀ s, W s < 1000000) (L : LR 83 σ u) (ok : okS σ) (h3 : σ 3 0 ≤ 9999) (hn : n ≤ 12) (hq : ∀ u', cq u u' → gi u' 5 5 = nI (lO W (pkO (svB W n) 4096)) → gi u' 5 6 = nI ((pkO (svB W n) 4096).getD 0) → Q u') : p_X6_planPumps 83 (nI n) u Q := by
  unfold p_X6_planPumps
  refine k_copyFrom (by omega) (fun u1 c1 u2 h2 u3 h3' => ?_)
  have x1 := c1.2.2.2.2
  have L1 : LR 137 σ u1 := L.cp ok c1
  refine xloop (fun m i (s : xM) => p_X6_planPumps_L21 83 Q m (nI n) (nI i) s) (fun i s => gi s 5 5 = nI (lO W (pkO (svB W n) i)) ∧ gi s 5 6 = nI ((pkO (svB W n) i).getD 0) ∧ LR 83 σ s ∧ cq u s ∧ ∃ ρ v, LR 137 ρ s ∧ ∀ f i, kept f → ρ f i = pH σ v f i) 4096 0 u3 (Nat.zero_le _) ⟨?_, ?_, ?_, ?_, σ, σ 23 0, ?_, fun f i _ => ?_⟩ ?_ ?_
  · rw [h3', gi_si, if_neg (by omega), h2, gi_at]; exact l_1000000
  · rw [h3', gi_at]; rfl
  · rw [h3', h2]
    exact ((L.same _ x1 (fun n hn => by unfold oLand; omega)).w2 (by omega)).w2 (by omega)
  · rw [h3', h2]
    exact ((cq.xs x1 (fun k hk => by unfold oLand; omega))).tr ⟨fun a b hab => by rw [gi_si, if_neg (by omega), gi_si, if_neg (by omega)], fun _ _ _ => rfl⟩
  · rw [h3', h2]
    exact (L1.w2 (by omega)).w2 (by omega)
  · rw [pH_at]
    split
    · rename_i z; rw [z.1, z.2]
    · rfl
  · intro m s hs
    unfold p_X6_planPumps_L21
    exact ⟨fun _ => hq s hs.2.2.2.1 hs.1 hs.2.1, fun c => absurd (by decide) c⟩
  · intro m i s _ hi hs k
    obtain ⟨g5, g6, L83, cs, ρ, v, Lρ, hρ⟩ := hs
    have hp := pop_le i
    unfold p_X6_planPumps_L21
    refine ⟨fun c => absurd c (by rw [l_4095, cLT (by omega) (by omega)]; omega), fun _ => k_bitCount hi ?_⟩
    rw [cEQ (by omega) (by omega)]
    have skip : svB W n i (pkO (svB W n) i) = false → ∀ s' : xM, gi s' 5 5 = nI (lO W (pkO (svB W n) i)) → gi s' 5 6 = nI ((pkO (svB W n) i).getD 0) → LR 83 σ s' → cq u s' → (∃ ρ v, LR 137 ρ s' ∧ ∀ f i, kept f → ρ f i = pH σ v f i) → p_X6_planPumps_L21 83 Q m (nI n) (nI (i + 1)) s' := fun hb s' a1 a2 a3 a4 a5 => k s' (by
      rw [pkO_s, hb]
      exact ⟨a1, a2, a3, a4, a5⟩)
    refine ⟨fun c x5 h5 => ?_, fun c => ?_⟩
    · rw [l_1, cA] at h5
      subst h5
      exact skip (by rw [svB_at, decide_eq_false c]; rfl) s g5 g6 L83 cs ⟨ρ, v, Lρ, hρ⟩
    · refine k_copyWaterG Lρ L83 ok (by rw [hρ 0 0 (by decide)]; rfl) (by rw [hρ 1 0 (by decide)]; rfl) (by rw [hρ 2 0 (by decide)]; rfl) (by omega) (fun u6 L6 x6 u7 h7 => ?_)
      rw [cW_pH hρ] at L6
      have L7 : LR 137 (pH σ i) u7 := by
        rw [h7, ← pH_pH σ v i]
        exact L6.up (f := 23) (i := 0) (v := i) (by decide) (by decide) (by decide) (by decide) (by simp [rlN]) rfl rfl rfl
      have okp := okS_pH ok hi
      refine k_waterIn (n := 12) L7 okp (by show σ 3 0 + 12 ≤ 20000; omega) (fun u8 L8 x8 => ?_)
      have s8 : ∀ k j, k < 137 ∨ 164 ≤ k → gi u8 k j = gi s k j := fun k j hk => by
        rw [x8.1 k j (by unfold hrP; omega), h7, gi_si, if_neg (by omega), x6.1 k j (by unfold hrP; omega)]
      have L83b : LR 83 σ u8 := L83.cg (fun f hf b => s8 _ _ (by have := rl_o f hf; omega))
      have c8 : cq u u8 := by
        refine cs.tr ⟨fun a b hab => s8 a b (by omega), fun a b hab => ?_⟩
        rw [x8.2 a b (by unfold hrP; omega), h7, gl_si, x6.2 a b (by unfold hrP; omega)]
      have hk8 : ∀ f j, kept f → hrs 12 (pH σ i) f j = pH σ i f j := fun f j hf => hrs_kept 12 _ hf j
      rw [hWs i hi, s8 5 5 (by omega), g5, cLE (lO_lt hWb _) (by have := hWb i; omega)]
      refine ⟨fun c2 x11 h11 => ?_, fun c2 u12 h12 u13 h13 x14 h14 => ?_⟩
      · rw [l_1, cA] at h11
        subst h11
        exact skip (by rw [svB_at, decide_eq_false (show ¬ W i < lO W (pkO (svB W n) i) by omega), Bool.and_false]) u8 (by rw [s8 5 5 (by omega)]; exact g5) (by rw [s8 5 6 (by omega)]; exact g6) L83b c8 ⟨_, i, L8, hk8⟩
      · rw [l_1, cA] at h14
        subst h14
        have hb : svB W n i (pkO (svB W n) i) = true := by
          rw [svB_at, decide_eq_true c, decide_eq_true (show W i < lO W (pkO (svB W n) i) by omega)]; rfl
        refine k u13 ?_
        rw [pkO_s, hb]
        refine ⟨?_, ?_, ?_, ?_, hrs 12 (pH σ i), i, ?_, hk8⟩
        · rw [h13, gi_si, if_neg (by omega), h12, gi_at]; rfl
        · rw [h13, gi_at]; rfl
        · rw [h13, h12]; exact (L83b.w2 (by omega)).w2 (by omega)
        · rw [h13, h12]
          exact c8.tr ⟨fun a b hab => by rw [gi_si, if_neg (by omega), gi_si, if_neg (by omega)], fun _ _ _ => rfl⟩
        · rw [h13, h12]; exact (L8.w2 (by omega)).w2 (by omega)
theorem r_saveOf {n : Nat} {W : Nat → Nat} {Q : Int32 → xM → Prop} (hWs : ∀ s, s < 4096 → allW (hrs 12 (pH σ s)) = W s) (hWb : ∀ s, W s < 1000000) (R : RS σ u) (ok : okS σ) (h3 : σ 3 0 ≤ 9999) (hn : n ≤ 12) {b0 : Nat} (hb0 : pkO (svB W n) 4096 = some b0) (hq : ∀ u', rq u u' → gi u' 272 34 = nI (W b0) → Q (nI b0) u') : p_X11_saveOf (nI n) u Q := by
  unfold p_X11_saveOf
  refine r_keepsT rfl (fun u1 k1 x1 s1 => ?_)
  have R1 : RR 0 σ u1 := R.1.k ok s1
  refine xloop (fun m i (s : Int32 × xM) => p_X11_saveOf_L11 Q m (nI n) s.1 (nI i) s.2) (fun i s => s.1 = eO (pkO (svB W n) i) ∧ (∀ b, pkO (svB W n) i = some b → gi s.2 272 34 = nI (W b)) ∧ KT u s.2 ∧ (∀ j, j < 160 → gi s.2 273 j = gi u 273 j) ∧ ∀ j, 23 ≤ j → j < 28 → j ≠ 25 → gi s.2 272 j = gi u 272 j) 4096 0 (-1, u1) (Nat.zero_le _) ⟨rfl, fun b hb => (nomatch hb), k1, s1, fun j _ _ _ => x1.1 272 j (by omega)⟩ ?_ ?_
  · intro m s hs
    unfold p_X11_saveOf_L11
    refine ⟨fun _ u2 h2 => ?_, fun c => absurd (by decide) c⟩
    rw [hs.1, hb0]
    refine hq u2 (KT.rq (by rw [h2]; exact hs.2.2.1.w (by omega)) (fun i hi => by rw [h2, gi_si, if_neg (by omega)]; exact hs.2.2.2.1 i hi) ⟨?_, ?_, ?_⟩ ⟨?_, ?_⟩) ?_
    · rw [h2, gi_si, if_neg (by omega)]; exact hs.2.2.2.2 23 (by omega) (by omega) (by omega)
    · rw [h2, gi_si, if_neg (by omega)]; exact hs.2.2.2.2 24 (by omega) (by omega) (by omega)
    · rw [h2, gi_at, R.2.2]; rfl
    · rw [h2, gi_si, if_neg (by omega)]; exact hs.2.2.2.2 26 (by omega) (by omega) (by omega)
    · rw [h2, gi_si, if_neg (by omega)]; exact hs.2.2.2.2 27 (by omega) (by omega) (by omega)
    · rw [h2, gi_si, if_neg (by omega)]; exact hs.2.1 b0 hb0
  · intro m i s _ hi hs k
    have hp := pop_le i
    have okp := okS_pH ok hi
    unfold p_X11_saveOf_L11
    refine ⟨fun c => absurd c (by rw [show (4096 : Int32) = nI 4096 from rfl, cLE (by omega) (by omega)]; omega), fun _ => r_bits hi ?_⟩
    rw [cEQ (by omega) (by omega)]
    refine ⟨fun c => ?_, fun c x6 h6 => ?_⟩
    · refine xloop (fun l j (w : xM) => p_X11_saveOf_L32 Q (p_X11_saveOf_L11 Q m) l (nI n) s.1 (nI i) (nI j) w) (fun j w => RR 0 (hrs j (pH σ i)) w ∧ KT u w ∧ (∀ e, 23 ≤ e → e < 28 → e ≠ 25 → gi w 272 e = gi u 272 e) ∧ gi w 272 34 = gi s.2 272 34) 12 0 s.2 (Nat.zero_le _) ⟨(R.1.k ok hs.2.2.2.1).toP i, hs.2.2.1, hs.2.2.2.2, rfl⟩ ?_ ?_
      · intro l w hw
        have okn := hrs_ok okp 12 (by show σ 3 0 + 12 ≤ 20000; omega)
        unfold p_X11_saveOf_L32
        refine ⟨fun _ => r_allWater hw.1 okn (r_restT rfl hw.2.1 (fun u4 k4 s4 x4 => ?_)), fun c => absurd (by decide) c⟩
        rw [hWs i hi]
        have q4 : ∀ e, 23 ≤ e → e < 28 → e ≠ 25 → gi u4 272 e = gi u 272 e := fun e a b c => by
          rw [x4.1 272 e (by omega)]
          exact hw.2.2.1 e a b c
        have g4 : gi u4 272 34 = gi s.2 272 34 := by rw [x4.1 272 34 (by omega)]; exact hw.2.2.2
        have take : svB W n i (pkO (svB W n) i) = true → p_X11_saveOf_L101 Q (p_X11_saveOf_L11 Q m) (nI n) (nI i) (nI (W i)) u4 := fun hb => by
          unfold p_X11_saveOf_L101
          intro u1' h1' x2 h2
          rw [l_1, cA] at h2
          subst h2
          refine k (nI i, u1') ?_
          rw [pkO_s, hb]
          refine ⟨rfl, fun b hb' => ?_, by rw [h1']; exact k4.w (by omega), fun j hj => by rw [h1', gi_si, if_neg (by omega)]; exact s4 j hj, fun j a b c => by rw [h1', gi_si, if_neg (by omega)]; exact q4 j a b c⟩
          obtain rfl := Option.some.inj hb'
          rw [h1', gi_at]
        rw [hs.1]
        cases ha : pkO (svB W n) i with
        | none =>
          rw [ha] at take
          have hb : svB W n i none = true := by
            rw [svB_at, decide_eq_true c, decide_eq_true (show W i < lO W none from hWb i)]; rfl
          have e : eO none = -1 := rfl
          rw [e]
          exact ⟨fun _ => take hb, fun z => absurd rfl z⟩
        | some b =>
          rw [ha] at take
          have hbl := pkO_lt ha
          have e : eO (some b) = nI b := rfl
          rw [e, g4, hs.2.1 b ha, cLT (by have := hWb i; omega) (by have := hWb b; omega)]
          refine ⟨fun z => absurd z (nI_ne_m1 (by omega)), fun _ => ⟨fun z => take ?_, fun z x7 h7 => ?_⟩⟩
          · rw [svB_at, decide_eq_true c, decide_eq_true (show W i < lO W (some b) from z)]; rfl
          · rw [l_1, cA] at h7
            subst h7
            refine k (nI b, u4) ?_
            have hb : svB W n i (some b) = false := by
              rw [svB_at, decide_eq_false (show ¬ W i < lO W (some b) from z), Bool.and_false]
            rw [pkO_s, ha, hb]
            refine ⟨rfl, fun b' hb' => ?_, k4, s4, q4⟩
            obtain rfl := Option.some.inj hb'
            show gi u4 272 34 = _
            rw [g4]
            exact hs.2.1 b ha
      · intro l j w _ hj hw kk
        have okn := hrs_ok okp j (by show σ 3 0 + j ≤ 20000; omega)
        have hh := hod_lt (hrs j (pH σ i))
        have e23 : hrs j (pH σ i) 23 0 = i := by
          rw [hrs_kept j _ (by decide : kept 23), pH_at, if_pos ⟨rfl, rfl⟩]
        have main : ∀ b : Bool, b = (!i.testBit (hod (hrs j (pH σ i)))) → p_X11_saveOf_L57 Q (p_X11_saveOf_L11 Q m) (p_X11_saveOf_L32 Q (p_X11_saveOf_L11 Q m) l) (nI n) s.1 (nI i) (nI j) b w := fun b hb => by
          unfold p_X11_saveOf_L57
          intro u1' h1'
          have R1' : RR 0 (hrs j (pH σ i)) u1' := hw.1.k okn (fun e _ => by rw [h1', gi_si, if_neg (by omega)])
          refine r_goesBy (op := opn (hrs j (pH σ i))) (pu := (hrs j (pH σ i) 23 0).testBit (hod (hrs j (pH σ i)))) R1' okn (by rw [hrs_hour]; show σ 3 0 + j < 20000; omega) (Or.inl ⟨?_, ?_, rfl⟩) ?_ (fun u2 R2 g2 _ x4 h4 => ?_)
          · rw [h1', gi_si, if_neg (by omega), hw.2.2.1 23 (by omega) (by omega) (by omega), R.2.1.1]
          · rw [h1', gi_si, if_neg (by omega), hw.2.2.1 24 (by omega) (by omega) (by omega), R.2.1.2]
          · rw [h1', gi_at, hb, e23]
          · rw [l_1, cA] at h4
            subst h4
            refine kk u2 ⟨R2, ?_, fun e a b c => ?_, ?_⟩
            · refine KT.g ?_ g2
              rw [h1']
              exact hw.2.1.w (by omega)
            · rw [g2.1.1 272 e (by simp only [gP]; omega), h1', gi_si, if_neg (by omega)]
              exact hw.2.2.1 e a b c
            · rw [g2.1.1 272 34 (by simp only [gP]; omega), h1', gi_si, if_neg (by omega)]
              exact hw.2.2.2
        unfold p_X11_saveOf_L32
        refine ⟨fun c => absurd c (by rw [l_12, cLE (by omega) (by omega)]; omega), fun _ => r_now hw.1 okn (r_isIn (by omega) (by omega) ⟨fun c => main false (by rw [c]; rfl), fun c => main true (by rw [c]; rfl)⟩)⟩
    · rw [l_1, cA] at h6
      subst h6
      refine k s ?_
      have hb : svB W n i (pkO (svB W n) i) = false := by rw [svB_at, decide_eq_false c]; rfl
      rw [pkO_s, hb]
      exact hs
theorem K_save2 (I : INV u) (a : Int32) : (p_X10_save a u (fun r u1 => p_X11_save a u1 (fun r' u2 => r = r' ∧ INV u2))) ∧ p_X10_saveSet a u (fun r u1 => p_X11_saveSet a u1 (fun r' u2 => r = r' ∧ INV u2)) := by
  obtain ⟨σ, S, L, ok, R⟩ := I.sp
  have h3 := okS.hour S
  rcases fromTo (a := a) 0 12 (by decide) with ⟨n, _, hn, rfl⟩ | ha
  · generalize hW : (fun s => if s < 4096 then allW (hrs 12 (pH σ s)) else 0) = W
    have hWs : ∀ s, s < 4096 → allW (hrs 12 (pH σ s)) = W s := fun s hs => by
      rw [← hW]
      show _ = if s < 4096 then allW (hrs 12 (pH σ s)) else 0
      rw [if_pos hs]
    have hWb : ∀ s, W s < 1000000 := fun s => by
      by_cases c : s < 4096
      · have h1 := allW_le (hrs_ok (okS_pH ok c) 12 (by show σ 3 0 + 12 ≤ 20000; omega))
        rw [hWs s c] at h1
        omega
      · rw [← hW]
        show (if s < 4096 then allW (hrs 12 (pH σ s)) else 0) < 1000000
        rw [if_neg c]
        omega
    obtain ⟨hf1, hf2⟩ := pop_full n (by omega)
    obtain ⟨b0, hb0⟩ := sv_some hWb hf1 (4096 - (2 ^ n - 1 + 1))
    rw [show 2 ^ n - 1 + 1 + (4096 - (2 ^ n - 1 + 1)) = 4096 by omega] at hb0
    refine ⟨?_, ?_⟩
    · refine pj (pc := p_X10_save (nI n) u) (pr := p_X11_save (nI n)) I ok R (nI (W b0)) 0 (fun Q hq => ?_) (fun u1 c1 R Q hq => ?_)
      · unfold p_X10_save
        refine k_withinT (lo := 0) (hi := 12) rfl rfl (by omega) hn (by decide) ⟨fun _ => k_planPumps hWs hWb L ok h3 hn (fun u2 c2 g5 g6 => ?_), fun z => absurd z (by decide)⟩
        rw [g5, hb0]
        exact k_fine hq c2
      · unfold p_X11_save
        refine r_fromT (lo := 0) (hi := 12) (by decide) (by decide) (by omega) hn (by decide) ⟨fun _ => r_saveOf hWs hWb R ok h3 hn hb0 (fun u2 q2 g => ?_), fun z => absurd z (by decide)⟩
        rw [g]
        exact r_gives hq q2
    · refine pj (pc := p_X10_saveSet (nI n) u) (pr := p_X11_saveSet (nI n)) I ok R (nI b0) 0 (fun Q hq => ?_) (fun u1 c1 R Q hq => ?_)
      · unfold p_X10_saveSet
        refine k_withinT (lo := 0) (hi := 12) rfl rfl (by omega) hn (by decide) ⟨fun _ => k_planPumps hWs hWb L ok h3 hn (fun u2 c2 g5 g6 => ?_), fun z => absurd z (by decide)⟩
        rw [g6, hb0]
        exact k_fine hq c2
      · unfold p_X11_saveSet
        refine r_fromT (lo := 0) (hi := 12) (by decide) (by decide) (by omega) hn (by decide) ⟨fun z => absurd z (by decide), fun _ => r_saveOf hWs hWb R ok h3 hn hb0 (fun u2 q2 g => r_gives hq q2)⟩
  · refine ⟨?_, ?_⟩
    · refine pj (pc := p_X10_save a u) (pr := p_X11_save a) I ok R (-1) 1 (fun Q hq => ?_) (fun u1 c1 R Q hq => ?_)
      · unfold p_X10_save
        exact k_withinF (lo := 0) (hi := 12) rfl rfl ha (by decide) (by decide) ⟨fun z => absurd z (by decide), fun _ => k_none hq cq.rf⟩
      · unfold p_X11_save
        exact r_fromF (lo := 0) (hi := 12) (by decide) (by decide) ha (by decide) ⟨fun z => absurd z (by decide), fun _ => r_refuse hq rq.rf⟩
    · refine pj (pc := p_X10_saveSet a u) (pr := p_X11_saveSet a) I ok R (-1) 1 (fun Q hq => ?_) (fun u1 c1 R Q hq => ?_)
      · unfold p_X10_saveSet
        exact k_withinF (lo := 0) (hi := 12) rfl rfl ha (by decide) (by decide) ⟨fun z => absurd z (by decide), fun _ => k_none hq cq.rf⟩
      · unfold p_X11_saveSet
        exact r_fromF (lo := 0) (hi := 12) (by decide) (by decide) ha (by decide) ⟨fun _ => r_refuse hq rq.rf, fun z => absurd z (by decide)⟩
theorem K_save (I : INV u) (a : Int32) : p_X10_save a u (fun r u1 => p_X11_save a u1 (fun r' u2 => r = r' ∧ INV u2)) := (K_save2 I a).1
theorem K_saveSet (I : INV u) (a : Int32) : p_X10_saveSet a u (fun r u1 => p_X11_saveSet a u1 (fun r' u2 => r = r' ∧ INV u2)) := (K_save2 I a).2
end SAVE
