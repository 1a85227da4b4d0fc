/-! ===== suspects, prints, telling ===== -/
section TELL
variable {σ τ ρ : aS} {u u' u0 u1 : xM} {o o1 : Nat}
def eqP (σ : aS) (T : Nat → Int64) (d : Nat) : Nat → Bool
  | 0 => true
  | k + 1 => eqP σ T d k && decide (T k = (nI (mP σ d k)).toInt64)
theorem eqP_s (σ : aS) (T : Nat → Int64) (d k : Nat) : eqP σ T d (k + 1) = (eqP σ T d k && decide (T k = (nI (mP σ d k)).toInt64)) := rfl
theorem eqP_f {T : Nat → Int64} {d k : Nat} (h : eqP σ T d k = false) (n : Nat) : eqP σ T d (k + n) = false := by
  induction n with
  | zero => exact h
  | succ n ih => rw [← Nat.add_assoc, eqP_s, ih]; rfl
theorem x_len_pr : ∀ d, d < 10 → x_len (7 + d) = 7 := by decide +kernel
theorem k_startsWith {t m d : Nat} {Q : Bool → xM → Prop} (ok : okS σ) (hd : d < 10) (m1 : gi u (50 + 2 * t) 2 = nI m) (hm : m ≤ 60) (hn : σ 0 0 ≤ m) (hp : ∀ r, r < σ 0 0 → gi u (7 + d) r = nI (mP σ d r)) (hq : Q (eqP σ (gl u (51 + 2 * t)) d (σ 0 0)) u) : p_X9_startsWith (50 + 2 * t) (7 + d) (nI (σ 0 0)) u Q := by
  have h7 := ok.r
  unfold p_X9_startsWith
  rw [m1, x_len_pr d hd, cLT (by omega) (by omega), cLE (by omega) (by omega)]
  refine ⟨fun c => absurd c (by omega), fun _ => ⟨fun _ => ?_, fun c => absurd h7 c⟩⟩
  refine xloop (fun k i (_ : Unit) => p_X9_startsWith_L18 (50 + 2 * t) (7 + d) Q k (nI (σ 0 0)) (nI i) u) (fun i _ => eqP σ (gl u (51 + 2 * t)) d i = true) (σ 0 0) 0 () (Nat.zero_le _) rfl ?_ ?_
  · intro k _ hs
    unfold p_X9_startsWith_L18
    rw [hs] at hq
    exact ⟨fun _ => hq, fun c => absurd (by rw [cLE (by omega) (by omega)]; exact Nat.le_refl _) c⟩
  · intro k i _ _ hi hs kk
    have es := eqP_s σ (gl u (51 + 2 * t)) d i
    rw [hs, Bool.true_and] at es
    unfold p_X9_startsWith_L18
    rw [cLE (by omega) (by omega), cCL (by omega), x_len_pr d hd, show 50 + 2 * t + 1 = 51 + 2 * t by omega, hp i hi, lg_cmp_eq]
    refine ⟨fun c => absurd c (by omega), fun _ => ⟨cIN (by omega) (by decide), cIN (by omega) (by decide), fun c x5 h5 => ?_, fun c => ?_⟩⟩
    · rw [l_1, cA] at h5
      subst h5
      exact kk () (by rw [es]; exact decide_eq_true c)
    · rw [decide_eq_false c] at es
      have e := eqP_f es (σ 0 0 - (i + 1))
      rw [show i + 1 + (σ 0 0 - (i + 1)) = σ 0 0 by omega] at e
      rw [e] at hq
      exact hq
def susB (σ : aS) (T : Nat → Int64) (d : Nat) : Bool := !(σ 21 0).testBit d && eqP σ T d (σ 0 0)
theorem eqP_congr {T T' : Nat → Int64} {d : Nat} {n : Nat} (h : ∀ k, k < n → T k = T' k) : eqP σ T d n = eqP σ T' d n := by
  induction n with
  | zero => rfl
  | succ n ih => rw [eqP_s, eqP_s, ih (fun k hk => h k (by omega)), h n (by omega)]
theorem K_suspects (I : INV u) (a : Int32) : p_X10_suspects a u (fun r u1 => p_X11_suspects a u1 (fun r' u2 => r = r' ∧ INV u2)) := by
  obtain ⟨σ, S, L, ok, R⟩ := I.sp
  have h3 := okS.hour S
  have hp : σ 23 0 = 4095 := S.2.2.2.2.1
  have h7 := ok.r
  have h10 := ok.d
  have hp10 := ok.p10
  rcases below (a := a) 4 with ⟨t, ht, rfl⟩ | ha
  · obtain ⟨s, hs, s1, s2, hm⟩ := I.tra t ht
    rcases hm with ⟨m1, m2⟩ | ⟨m, hm, m1, m2, m3⟩
    · refine pj (pc := p_X10_suspects (nI t) u) (pr := p_X11_suspects (nI t)) I ok R (-1) 2 (fun Q hq => ?_) (fun u1 c1 R Q hq => ?_)
      · unfold p_X10_suspects
        refine k_trayT ht ⟨fun z => (nomatch z), fun x ex => ?_⟩
        rw [← (Option.some.inj ex)]
        exact k_isMissingT m1 ⟨fun z => absurd z (by decide), fun _ => k_none hq cq.rf⟩
      · unfold p_X11_suspects
        exact r_wp2 ht ((c1.1 _ _ (by omega)).trans m2) ⟨fun z => absurd z (by decide), fun _ => r_refuse hq rq.rf⟩
    · by_cases hn : σ 0 0 ≤ m
      · have hml : ∀ n, n ≤ σ 1 0 → mk (susB σ (gl u (51 + 2 * t))) n < 2147483648 := fun n hn' => by
          have h1 := mk_lt (susB σ (gl u (51 + 2 * t))) n
          have h2 := p2le hn'
          omega
        refine pj (pc := p_X10_suspects (nI t) u) (pr := p_X11_suspects (nI t)) I ok R (nI (mk (susB σ (gl u (51 + 2 * t))) (σ 1 0))) 0 (fun Q hq => ?_) (fun u1 c1 R Q hq => ?_)
        · unfold p_X10_suspects
          refine k_trayT ht ⟨fun z => (nomatch z), fun x ex => ?_⟩
          rw [← (Option.some.inj ex)]
          refine k_isMissingF m1 (by omega) ⟨fun _ => ?_, fun z => absurd z (by decide)⟩
          rw [show gi u 84 0 = nI (σ 0 0) from L.f0]
          refine k_hasRow (i := 0) m1 hm (by omega) (by omega) ?_
          rw [decide_eq_true (by omega)]
          refine ⟨fun _ => k_findPrints L ok hp h3 (fun u2 L2 c2 p2 => ?_), fun z => absurd z (by decide)⟩
          have eT : ∀ j, gl u2 (51 + 2 * t) j = gl u (51 + 2 * t) j := fun j => c2.2 _ _ (by omega)
          refine xloop (fun k i (w : Int32) => p_X10_suspects_L69 Q k (50 + 2 * t) w (nI i) u2) (fun i w => w = nI (mk (susB σ (gl u (51 + 2 * t))) i)) (σ 1 0) 0 0 (Nat.zero_le _) rfl ?_ ?_
          · intro k w hw
            unfold p_X10_suspects_L69
            rw [show gi u2 92 0 = nI (σ 1 0) from L2.f1, hw]
            exact ⟨fun _ => k_fine hq c2, fun c => absurd (by rw [cLE (by omega) (by omega)]; exact Nat.le_refl _) c⟩
          · intro k i w _ hi hw kk
            unfold p_X10_suspects_L69
            rw [show gi u2 92 0 = nI (σ 1 0) from L2.f1]
            refine ⟨fun c => absurd c (by rw [cLE (by omega) (by omega)]; omega), fun _ => k_isWalled L2 ok (by omega) ⟨fun c x7 h7' => ?_, fun c => ⟨cIN (by omega) (by decide), ?_⟩⟩⟩
            · rw [l_1, cA] at h7'
              subst h7'
              refine kk w ?_
              rw [mk_n (by unfold susB; rw [c]; rfl)]
              exact hw
            · rw [show gi u2 84 0 = nI (σ 0 0) from L2.f0, cCL (by omega)]
              refine k_startsWith ok (by omega) ((c2.1 _ _ (by omega)).trans m1) hm hn (fun r hr => p2 i hi r hr) ?_
              rw [eqP_congr (T' := gl u (51 + 2 * t)) (fun k _ => eT k)]
              refine ⟨fun c2' x12 h12 => ?_, fun c2' x13 h13 x14 h14 => ?_⟩
              · rw [l_1, cA] at h12
                subst h12
                refine kk w ?_
                rw [mk_n (by unfold susB; rw [c2', Bool.and_false])]
                exact hw
              · rw [l_1, cA] at h14
                subst h14
                refine kk x13 ?_
                rw [mk_s (by unfold susB; rw [c, c2']; rfl), h13, hw, bPOW (by omega), bOR]
        · unfold p_X11_suspects
          refine r_wp0 ht R ok ((c1.1 _ _ (by omega)).trans m2) hm hn ⟨fun _ => ?_, fun z => absurd (by decide) z⟩
          refine xloop (fun k i (w : Int32 × xM) => p_X11_suspects_L21 Q k (nI t) w.1 (nI i) w.2) (fun i w => w.1 = nI (mk (susB σ (gl u (51 + 2 * t))) i) ∧ RS σ w.2 ∧ rq u1 w.2) (σ 1 0) 0 (0, u1) (Nat.zero_le _) ⟨rfl, R, rq.rf⟩ ?_ ?_
          · intro k w hw
            unfold p_X11_suspects_L21
            rw [(r_at l_1 (by decide)).2, hw.2.1.1.r1, hw.1]
            exact ⟨(r_at l_1 (by decide)).1, fun _ => r_gives hq hw.2.2, fun c => absurd (by rw [cLE (by omega) (by omega)]; exact Nat.le_refl _) c⟩
          · intro k i w _ hi hw kk
            have hml' := hml i (by omega)
            unfold p_X11_suspects_L21
            rw [(r_at l_1 (by decide)).2, hw.2.1.1.r1]
            refine ⟨(r_at l_1 (by decide)).1, fun c => absurd c (by rw [cLE (by omega) (by omega)]; omega), fun _ => ?_⟩
            refine r_doorV (w := 7) (f := 21) (v := nI (bitN (σ 21 0) i)) hw.2.1.1 ok hi rfl (by decide) (by decide) rfl (by simp [rk]; omega) rfl ?_
            rw [bitN_1]
            refine ⟨fun c => r_laysPrint hw.2.1 ok h3 hi (fun u8 q8 p8 _ => ?_), fun c x9 h9 => ?_⟩
            · rw [Bool.not_eq_true] at c
              have R8 := hw.2.1.rq ok q8
              have q8' := hw.2.2.tr q8
              have eT : ∀ j, j < σ 0 0 → gl u8 277 (60 * t + j) = gl u (51 + 2 * t) j := fun j hj => by
                rw [q8'.2 _ _ (by omega), c1.2 _ _ (by omega), m3 j (by omega)]
              refine xloop (fun n j (b : Bool) => p_X11_suspects_L59 Q (p_X11_suspects_L21 Q k) n (nI t) w.1 (nI i) b (nI j) u8) (fun j b => b = eqP σ (gl u (51 + 2 * t)) i j) (σ 0 0) 0 true (Nat.zero_le _) rfl ?_ ?_
              · intro n b hb
                unfold p_X11_suspects_L59
                rw [(r_at l_0 (by decide)).2, R8.1.r0]
                refine ⟨(r_at l_0 (by decide)).1, fun _ => ⟨fun cb x4 h4 x5 h5 => ?_, fun cb x6 h6 x7 h7' => ?_⟩, fun c => absurd (by rw [cLE (by omega) (by omega)]; exact Nat.le_refl _) c⟩
                · rw [l_1, cA] at h5
                  subst h5
                  rw [hw.1, l_0, bOR, Nat.or_zero] at h4
                  refine kk (x4, u8) ⟨?_, R8, q8'⟩
                  rw [mk_n (by unfold susB; rw [← hb, cb, Bool.and_false])]
                  exact h4
                · rw [l_1, cA] at h7'
                  subst h7'
                  rw [hw.1, bPOW (by omega), bOR] at h6
                  refine kk (x6, u8) ⟨?_, R8, q8'⟩
                  rw [mk_s (by unfold susB; rw [← hb, cb, c]; rfl)]
                  exact h6
              · intro n j b _ hj hb kk2
                unfold p_X11_suspects_L59
                rw [(r_at l_0 (by decide)).2, R8.1.r0, l_60, cM, cA, cCL (by omega), cCL (by omega), eT j hj, p8 j hj, lg_cmp_eq]
                refine ⟨(r_at l_0 (by decide)).1, fun c => absurd c (by rw [cLE (by omega) (by omega)]; omega), fun _ => ⟨fun cb x9 h9 => ?_, fun cb => ⟨cIN (by omega) (by decide), cIN (by omega) (by decide), fun c2 x13 h13 => ?_, fun c2 x14 h14 => ?_⟩⟩⟩
                · rw [l_1, cA] at h9
                  subst h9
                  exact kk2 false (by rw [eqP_s, ← hb, cb]; rfl)
                · rw [l_1, cA] at h13
                  subst h13
                  exact kk2 false (by rw [eqP_s, decide_eq_false c2, Bool.and_false])
                · rw [l_1, cA] at h14
                  subst h14
                  exact kk2 true (by rw [eqP_s, ← hb, cb, decide_eq_true c2]; rfl)
            · rw [l_1, cA] at h9
              subst h9
              refine kk (w.1, w.2) ⟨?_, hw.2.1, hw.2.2⟩
              rw [mk_n (by unfold susB; rw [c]; rfl)]
              exact hw.1
      · refine pj (pc := p_X10_suspects (nI t) u) (pr := p_X11_suspects (nI t)) I ok R (-1) 3 (fun Q hq => ?_) (fun u1 c1 R Q hq => ?_)
        · unfold p_X10_suspects
          refine k_trayT ht ⟨fun z => (nomatch z), fun x ex => ?_⟩
          rw [← (Option.some.inj ex)]
          refine k_isMissingF m1 (by omega) ⟨fun _ => ?_, fun z => absurd z (by decide)⟩
          rw [show gi u 84 0 = nI (σ 0 0) from L.f0]
          refine k_hasRow (i := 0) m1 hm (by omega) (by omega) ?_
          rw [decide_eq_false (by omega)]
          exact ⟨fun z => absurd z (by decide), fun _ => k_none hq cq.rf⟩
        · unfold p_X11_suspects
          exact r_wp3 ht R ok ((c1.1 _ _ (by omega)).trans m2) hm (by omega) ⟨fun z => absurd z (by decide), fun _ => r_refuse hq rq.rf⟩
  · refine pj (pc := p_X10_suspects a u) (pr := p_X11_suspects a) I ok R (-1) 1 (fun Q hq => ?_) (fun u1 c1 R Q hq => ?_)
    · unfold p_X10_suspects
      exact k_trayF ha ⟨fun _ => k_none hq cq.rf, fun _ ex => (nomatch ex)⟩
    · unfold p_X11_suspects
      exact r_wp1 ha ⟨fun z => absurd z (by decide), fun _ => r_refuse hq rq.rf⟩
/-! how many marks there are of a room -/
def amB (σ : aS) (r d : Nat) : Nat → Bool
  | 0 => false
  | k + 1 => amB σ r d k || (!(σ 21 0).testBit k && decide (mP σ k r = mP σ d r))
theorem amB_s (σ : aS) (r d k : Nat) : amB σ r d (k + 1) = (amB σ r d k || (!(σ 21 0).testBit k && decide (mP σ k r = mP σ d r))) := rfl
theorem amB_t {r d k : Nat} (h : amB σ r d k = true) (n : Nat) : amB σ r d (k + n) = true := by
  induction n with
  | zero => exact h
  | succ n ih => rw [← Nat.add_assoc, amB_s, ih]; rfl
def unN (σ : aS) (r : Nat) : Nat → Nat
  | 0 => 0
  | d + 1 => unN σ r d + if !(σ 21 0).testBit d && !amB σ r d d then 1 else 0
theorem unN_s (σ : aS) (r d : Nat) : unN σ r (d + 1) = unN σ r d + if !(σ 21 0).testBit d && !amB σ r d d then 1 else 0 := rfl
theorem unN_le (σ : aS) (r n : Nat) : unN σ r n ≤ n := by
  induction n with
  | zero => exact Nat.le_refl _
  | succ n ih =>
    rw [unN_s]
    split <;> omega
theorem k_isAmong {r d : Nat} {Q : Bool → xM → Prop} (L : LR 83 σ u) (ok : okS σ) (h3 : σ 3 0 ≤ 9999) (hr : r < σ 0 0) (hd : d < σ 1 0) (hp : PR σ (σ 1 0) u) (hq : Q (amB σ r d d) u) : p_X6_isAmong 83 (nI d) (nI r) u Q := by
  have h7 := ok.r
  have h10 := ok.d
  unfold p_X6_isAmong
  refine xloop (fun k i (_ : Unit) => p_X6_isAmong_L3 83 Q k (nI d) (nI r) (nI i) u) (fun i _ => amB σ r d i = false) d 0 () (Nat.zero_le _) rfl ?_ ?_
  · intro k _ hs
    unfold p_X6_isAmong_L3
    rw [hs] at hq
    exact ⟨fun _ => hq, fun c => absurd (by rw [cLE (by omega) (by omega)]; exact Nat.le_refl _) c⟩
  · intro k i _ _ hi hs kk
    have es := amB_s σ r d i
    rw [hs, Bool.false_or] at es
    have l1 := mP_le ok h3 (d := i) hr
    have l2 := mP_le ok h3 (d := d) hr
    unfold p_X6_isAmong_L3
    have key : (gi u (7 + i) r = gi u (7 + d) r) = (mP σ i r = mP σ d r) := by rw [hp i (by omega) r hr, hp d hd r hr, cEQ (by omega) (by omega)]
    rw [cLE (by omega) (by omega), cCL (by omega), cCL (by omega), cCL (by omega)]
    refine ⟨fun c => absurd c (by omega), fun _ => k_isWalled L ok (by omega) ⟨fun c x5 h5 => ?_, fun c => ⟨cIN (by omega) (by decide), cIN (by omega) (by decide), cIN (by omega) (by decide), cIN (by omega) (by decide), fun c2 x11 h11 => ?_, fun c2 => ?_⟩⟩⟩
    · rw [l_1, cA] at h5
      subst h5
      exact kk () (by rw [es, c]; rfl)
    · rw [l_1, cA] at h11
      subst h11
      rw [key] at c2
      exact kk () (by rw [es, decide_eq_false c2, Bool.and_false])
    · rw [key] at c2
      rw [c, decide_eq_true c2] at es
      have e := amB_t es (d - (i + 1))
      rw [show i + 1 + (d - (i + 1)) = d by omega] at e
      rw [e] at hq
      exact hq
theorem k_unlike {r : Nat} {Q : Int32 → xM → Prop} (L : LR 83 σ u) (ok : okS σ) (h3 : σ 3 0 ≤ 9999) (hr : r < σ 0 0) (hp : PR σ (σ 1 0) u) (hq : Q (nI (unN σ r (σ 1 0))) u) : p_X6_unlikeMarks 83 (nI r) u Q := by
  have h10 := ok.d
  unfold p_X6_unlikeMarks
  refine xloop (fun k i (w : Int32) => p_X6_unlikeMarks_L5 83 Q k (nI r) w (nI i) u) (fun i w => w = nI (unN σ r i)) (σ 1 0) 0 0 (Nat.zero_le _) rfl ?_ ?_
  · intro k w hw
    unfold p_X6_unlikeMarks_L5
    rw [show gi u (83 + 9) 0 = nI (σ 1 0) from L.f1, hw]
    exact ⟨fun _ => hq, fun c => absurd (by rw [cLE (by omega) (by omega)]; exact Nat.le_refl _) c⟩
  · intro k i w _ hi hw kk
    unfold p_X6_unlikeMarks_L5
    rw [show gi u (83 + 9) 0 = nI (σ 1 0) from L.f1]
    refine ⟨fun c => absurd c (by rw [cLE (by omega) (by omega)]; omega), fun _ => k_isWalled L ok (by omega) ⟨fun c x5 h5 => ?_, fun c => k_isAmong L ok h3 hr hi hp ⟨fun c2 x9 h9 => ?_, fun c2 x10 h10' x11 h11 => ?_⟩⟩⟩
    · rw [l_1, cA] at h5
      subst h5
      exact kk w (by rw [unN_s, c, hw]; rfl)
    · rw [l_1, cA] at h9
      subst h9
      exact kk w (by rw [unN_s, c2, hw, Bool.not_true, Bool.and_false]; rfl)
    · rw [l_1, cA] at h11
      subst h11
      refine kk x10 ?_
      rw [unN_s, c, c2, h10', hw, l_1, cA]
      rfl
theorem r_printsOf {r : Nat} {Q : Int32 → xM → Prop} (R : RS σ u) (ok : okS σ) (h3 : σ 3 0 ≤ 9999) (hr : r < σ 0 0) (hq : ∀ u', rq u u' → Q (nI (unN σ r (σ 1 0))) u') : p_X11_printsOf (nI r) u Q := by
  have h10 := ok.d
  have h7 := ok.r
  unfold p_X11_printsOf
  refine xloop (fun k i (w : Int32 × xM) => p_X11_printsOf_L4 Q k (nI r) w.1 (nI i) w.2) (fun i w => w.1 = nI (unN σ r i) ∧ RS σ w.2 ∧ rq u w.2 ∧ ∀ j, j < i → gi w.2 286 j = if (σ 21 0).testBit j then -1 else nI (mP σ j r)) (σ 1 0) 0 (0, u) (Nat.zero_le _) ⟨rfl, R, rq.rf, fun j hj => by omega⟩ ?_ ?_
  · intro k w hw
    unfold p_X11_printsOf_L4
    rw [(r_at l_1 (by decide)).2, hw.2.1.1.r1, hw.1]
    exact ⟨(r_at l_1 (by decide)).1, fun _ => hq _ hw.2.2.1, fun c => absurd (by rw [cLE (by omega) (by omega)]; exact Nat.le_refl _) c⟩
  · intro k i w _ hi hw kk
    unfold p_X11_printsOf_L4
    rw [(r_at l_1 (by decide)).2, hw.2.1.1.r1]
    refine ⟨(r_at l_1 (by decide)).1, fun c => absurd c (by rw [cLE (by omega) (by omega)]; omega), fun _ => ⟨cIN (by omega) (by decide), fun u4 h4 => ?_⟩⟩
    rw [cCL (by omega)] at h4
    have q4 : rq w.2 u4 := by
      rw [h4]
      exact ⟨fun a b hab => by rw [gi_si, if_neg (by omega)], fun _ _ _ => rfl⟩
    have R4 := hw.2.1.rq ok q4
    have m4 : ∀ j, j < i → gi u4 286 j = if (σ 21 0).testBit j then -1 else nI (mP σ j r) := fun j hj => by
      rw [h4, gi_si, if_neg (by omega)]
      exact hw.2.2.2 j hj
    refine r_doorV (w := 7) (f := 21) (v := nI (bitN (σ 21 0) i)) R4.1 ok hi rfl (by decide) (by decide) rfl (by simp [rk]; omega) rfl ?_
    rw [bitN_1]
    refine ⟨fun c => r_laysPrint R4 ok h3 hi (fun u8 q8 p8 e8 => ?_), fun c x9 h9 => ?_⟩
    · rw [Bool.not_eq_true] at c
      have R8 := R4.rq ok q8
      have m8 : ∀ j, j < i → gi u8 286 j = if (σ 21 0).testBit j then -1 else nI (mP σ j r) := fun j hj => by rw [e8]; exact m4 j hj
      have li := mP_le ok h3 (d := i) hr
      refine xloop (fun n j (b : Bool) => p_X11_printsOf_L46 Q (p_X11_printsOf_L4 Q k) n (nI r) w.1 (nI i) b (nI j) u8) (fun j b => b = !amB σ r i j) i 0 true (Nat.zero_le _) rfl ?_ ?_
      · intro n b hb
        unfold p_X11_printsOf_L46
        rw [cLE (by omega) (by omega), cCL (by omega), cCL (by omega), p8 r hr]
        refine ⟨fun _ => ⟨cIN (by omega) (by decide), cIN (by omega) (by decide), fun u5 h5 => ?_⟩, fun c => absurd (Nat.le_refl _) c⟩
        have q5 : rq u8 u5 := by
          rw [h5]
          exact ⟨fun a b hab => by rw [gi_si, if_neg (by omega)], fun _ _ _ => rfl⟩
        have fin : ∀ x : Int32, x = nI (unN σ r (i + 1)) → p_X11_printsOf_L4 Q k (nI r) x (nI (i + 1)) u5 := fun x hx => kk (x, u5) ⟨hx, R8.rq ok q5, ((hw.2.2.1.tr q4).tr q8).tr q5, fun j hj => by
          show gi u5 286 j = _
          rw [h5, gi_si]
          by_cases e : j = i
          · subst e
            rw [if_pos ⟨rfl, rfl⟩, c]; rfl
          · rw [if_neg (by omega)]
            exact m8 j (by omega)⟩
        refine ⟨fun cb x6 h6 x7 h7' => ?_, fun cb x8 h8 x9 h9 => ?_⟩
        · rw [l_1, cA] at h7'
          subst h7'
          refine fin x6 ?_
          rw [unN_s, ← hb, cb, h6, hw.1, Bool.and_false, l_0, cA]; rfl
        · rw [l_1, cA] at h9
          subst h9
          refine fin x8 ?_
          rw [unN_s, ← hb, cb, c, h8, hw.1, l_1, cA]; rfl
      · intro n j b _ hj hb kk2
        have lj := mP_le ok h3 (d := j) hr
        have ev : (gi u8 286 j = nI (mP σ i r)) = ((!(σ 21 0).testBit j && decide (mP σ j r = mP σ i r)) = true) := by
          rw [m8 j hj]
          cases hw2 : (σ 21 0).testBit j with
          | true =>
            rw [if_pos rfl]
            apply propext
            constructor
            · intro z
              exact absurd z.symm (nI_ne_m1 (by omega))
            · intro z
              exact absurd z (by simp)
          | false =>
            rw [if_neg (by decide), cEQ (by omega) (by omega)]
            simp
        unfold p_X11_printsOf_L46
        rw [cLE (by omega) (by omega), cCL (by omega), cCL (by omega), cCL (by omega), p8 r hr, ev]
        refine ⟨fun c => absurd c (by omega), fun _ => ⟨fun cb x11 h11 => ?_, fun cb => ⟨cIN (by omega) (by decide), cIN (by omega) (by decide), fun c2 x15 h15 => ?_, fun c2 x16 h16 => ?_⟩⟩⟩
        · rw [l_1, cA] at h11
          subst h11
          refine kk2 false ?_
          rw [cb] at hb
          rw [amB_s, Bool.not_or, ← hb]; rfl
        · rw [l_1, cA] at h15
          subst h15
          refine kk2 false ?_
          rw [amB_s, c2, Bool.or_true]; rfl
        · rw [l_1, cA] at h16
          subst h16
          refine kk2 true ?_
          rw [cb] at hb
          rw [Bool.not_eq_true] at c2
          rw [amB_s, Bool.not_or, ← hb, c2]; rfl
    · rw [l_1, cA] at h9
      subst h9
      refine kk (w.1, u4) ⟨?_, R4, hw.2.2.1.tr q4, fun j hj => ?_⟩
      · rw [unN_s, c, hw.1]; rfl
      · show gi u4 286 j = _
        by_cases e : j = i
        · subst e
          rw [h4, gi_at, c]; rfl
        · exact m4 j (by omega)
theorem K_prints (I : INV u) (a : Int32) : p_X10_prints a u (fun r u1 => p_X11_prints a u1 (fun r' u2 => r = r' ∧ INV u2)) := by
  obtain ⟨σ, S, L, ok, R⟩ := I.sp
  have h3 := okS.hour S
  have hp : σ 23 0 = 4095 := S.2.2.2.2.1
  rcases below (a := a) (σ 0 0) with ⟨r, hr, rfl⟩ | hr
  · refine pj (pc := p_X10_prints (nI r) u) (pr := p_X11_prints (nI r)) I ok R (nI (unN σ r (σ 1 0))) 0 (fun Q hq => ?_) (fun u1 c1 R Q hq => ?_)
    · unfold p_X10_prints
      exact k_isRoomT L ok hr ⟨fun _ => k_findPrints L ok hp h3 (fun u2 L2 c2 p2 => k_unlike L2 ok h3 hr p2 (k_fine hq c2)), fun z => absurd z (by decide)⟩
    · unfold p_X11_prints
      exact r_isRoomT R ok hr ⟨fun z => absurd z (by decide), fun _ => r_printsOf R ok h3 hr (fun u2 q2 => r_gives hq q2)⟩
  · refine pj (pc := p_X10_prints a u) (pr := p_X11_prints a) I ok R (-1) 1 (fun Q hq => ?_) (fun u1 c1 R Q hq => ?_)
    · unfold p_X10_prints
      exact k_isRoomF L ok hr ⟨fun z => absurd z (by decide), fun _ => k_none hq cq.rf⟩
    · unfold p_X11_prints
      exact r_isRoomF R ok hr ⟨fun _ => r_refuse hq rq.rf, fun z => absurd z (by decide)⟩
theorem K_telling (I : INV u) : p_X10_telling u (fun r u1 => p_X11_telling u1 (fun r' u2 => r = r' ∧ INV u2)) := by
  obtain ⟨σ, S, L, ok, R⟩ := I.sp
  have h3 := okS.hour S
  have hp : σ 23 0 = 4095 := S.2.2.2.2.1
  have h7 := ok.r
  have h10 := ok.d
  generalize hW : (fun r => unN σ r (σ 1 0)) = W
  have hWr : ∀ r, unN σ r (σ 1 0) = W r := fun r => by rw [← hW]
  have hWb : ∀ r, W r < 2147483648 := fun r => by
    have := unN_le σ r (σ 1 0)
    rw [hWr] at this
    omega
  refine pj (pc := p_X10_telling u) (pr := p_X11_telling) I ok R (eO (pkO (bO W) (σ 0 0))) (sO (pkO (bO W) (σ 0 0))) (fun Q hq => ?_) (fun u1 c1 R Q hq => ?_)
  · unfold p_X10_telling
    refine k_findPrints L ok hp h3 (fun u2 L2 c2 p2 => ?_)
    refine xloop (fun m i (s : Int32 × Int32) => p_X10_telling_L17 Q m s.1 s.2 (nI i) u2) (fun i s => s.1 = eO (pkO (bO W) i) ∧ s.2 = mO W (pkO (bO W) i)) (σ 0 0) 0 (-1, -1) (Nat.zero_le _) ⟨rfl, rfl⟩ ?_ ?_
    · intro m s hs
      unfold p_X10_telling_L17
      rw [show gi u2 84 0 = nI (σ 0 0) from L2.f0, hs.1]
      exact ⟨fun _ => k_endO (fun j hj => by have := pkO_lt hj; omega) hq c2, fun c => absurd (by rw [cLE (by omega) (by omega)]; exact Nat.le_refl _) c⟩
    · intro m i s _ hi hs k
      unfold p_X10_telling_L17
      rw [show gi u2 84 0 = nI (σ 0 0) from L2.f0]
      refine ⟨fun c => absurd c (by rw [cLE (by omega) (by omega)]; omega), fun _ => k_unlike L2 ok h3 hi p2 ?_⟩
      rw [hWr, hs.2, mO_le (fun b _ => hWb b) (hWb i)]
      refine ⟨fun c x hx => ?_, fun c x hx => ?_⟩
      · rw [l_1, cA] at hx
        subst hx
        have e : pkO (bO W) (i + 1) = pkO (bO W) i := by rw [pkO_s, if_neg (by rw [c]; decide)]
        exact k (s.1, mO W (pkO (bO W) i)) ⟨by rw [e]; exact hs.1, by rw [e]⟩
      · rw [l_1, cA] at hx
        subst hx
        have e : pkO (bO W) (i + 1) = some i := by rw [pkO_s, if_pos (by simpa using c)]
        exact k (nI i, nI (W i)) ⟨by rw [e]; rfl, by rw [e]; rfl⟩
  · unfold p_X11_telling
    refine xloop (fun m i (s : Int32 × Int32 × xM) => p_X11_telling_L6 Q m s.1 s.2.1 (nI i) s.2.2) (fun i s => s.1 = eO (pkO (bO W) i) ∧ s.2.1 = mO W (pkO (bO W) i) ∧ rq u1 s.2.2 ∧ RS σ s.2.2) (σ 0 0) 0 (-1, -1, u1) (Nat.zero_le _) ⟨rfl, rfl, rq.rf, R⟩ ?_ ?_
    · intro m s hs
      unfold p_X11_telling_L6
      rw [(r_at l_0 (by decide)).2, hs.2.2.2.1.r0, hs.1]
      exact ⟨(r_at l_0 (by decide)).1, fun _ => r_endO (fun j hj => by have := pkO_lt hj; omega) hq hs.2.2.1, fun c => absurd (by rw [cLE (by omega) (by omega)]; exact Nat.le_refl _) c⟩
    · intro m i s _ hi hs k
      unfold p_X11_telling_L6
      rw [(r_at l_0 (by decide)).2, hs.2.2.2.1.r0]
      refine ⟨(r_at l_0 (by decide)).1, fun c => absurd c (by rw [cLE (by omega) (by omega)]; omega), fun _ => r_printsOf hs.2.2.2 ok h3 hi (fun u5 q5 => ?_)⟩
      rw [hWr, hs.2.1, mO_lt (fun b _ => hWb b) (hWb i)]
      refine ⟨fun c x hx => ?_, fun c x hx => ?_⟩
      · rw [l_1, cA] at hx
        subst hx
        have e : pkO (bO W) (i + 1) = some i := by rw [pkO_s, if_pos c]
        exact k (nI i, nI (W i), u5) ⟨by rw [e]; rfl, by rw [e]; rfl, hs.2.2.1.tr q5, hs.2.2.2.rq ok q5⟩
      · rw [l_1, cA] at hx
        subst hx
        have e : pkO (bO W) (i + 1) = pkO (bO W) i := by rw [pkO_s, if_neg c]
        exact k (s.1, mO W (pkO (bO W) i), u5) ⟨by rw [e]; exact hs.1, by rw [e], hs.2.2.1.tr q5, hs.2.2.2.rq ok q5⟩
end TELL
