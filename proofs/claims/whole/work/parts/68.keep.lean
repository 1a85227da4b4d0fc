/-! ===== keep, keepSet ===== -/
section KEEP
variable {σ τ ρ : aS} {u u' u0 u1 : xM} {o o1 : Nat}
theorem bTST0 {m d : Nat} (hm : m < 2147483648) (hd : d < 32) : (((nI m >>> (nI d &&& 31)) &&& (1 : Int32)) = (0 : Int32)) = (m.testBit d = false) := by
  rw [bSHR hm hd, bAND1, cE0 (by omega), Nat.testBit_eq_decide_div_mod_eq, Nat.shiftRight_eq_div_pow, decide_eq_false_iff_not]
  apply propext
  omega
theorem pop10_all : ((List.range 1024).all fun m => decide (pop m ≤ 10)) = true := by decide +kernel
theorem pop10 {m : Nat} (h : m < 1024) : pop m ≤ 10 := of_decide_eq_true (List.all_eq_true.mp pop10_all m (List.mem_range.mpr h))
def kpG (σ : aS) (r s : Nat) : Bool := decide (s &&& σ 21 0 = 0) && !(rcN (fun d => !(σ 21 0 ||| s).testBit d && (true || !(decide (σ 10 d = 7 ∨ σ 11 d = 7)))) (σ 10) (σ 11) (σ 1 0) 8 128).testBit r
def kpB (σ : aS) (r s : Nat) : Option Nat → Bool
  | none => kpG σ r s
  | some b => kpG σ r s && decide (pop s < pop b)
theorem kpB_none {r s : Nat} : kpB σ r s none = kpG σ r s := rfl
theorem kpB_some {r s b : Nat} : kpB σ r s (some b) = (kpG σ r s && decide (pop s < pop b)) := rfl
def stO (σ : aS) : Nat := ndf (2 ^ σ 1 0 - 1) (σ 21 0)
theorem stO_lt (σ : aS) : stO σ < 2 ^ σ 1 0 := by
  have := ndf_le (2 ^ σ 1 0 - 1) (σ 21 0)
  have h0 := Nat.two_pow_pos (σ 1 0)
  unfold stO
  omega
theorem stO_iff {s : Nat} (hs : s < 2 ^ σ 1 0) : (ndf s (stO σ) = 0) = (s &&& σ 21 0 = 0) := by
  rw [ndf_iff]
  apply propext
  constructor
  · intro h
    apply Nat.eq_of_testBit_eq
    intro i
    rw [Nat.testBit_and, Nat.zero_testBit]
    cases c : s.testBit i with
    | false => rfl
    | true =>
      have := h i c
      unfold stO at this
      rw [ndf_testBit] at this
      cases c2 : (σ 21 0).testBit i with
      | false => rfl
      | true => rw [c2] at this; simp at this
  · intro h i hi
    unfold stO
    have hlt : i < σ 1 0 := by
      by_cases e : i < σ 1 0
      · exact e
      · rw [Nat.testBit_lt_two_pow (Nat.lt_of_lt_of_le hs (p2le (by omega)))] at hi
        exact absurd hi (by decide)
    rw [ndf_testBit, p2m1_testBit, decide_eq_true hlt]
    have := congrArg (fun z => z.testBit i) h
    simp only [Nat.testBit_and, hi, Nat.zero_testBit, Bool.true_and] at this
    rw [this]
    rfl
theorem kp_st {r : Nat} (hr : r < 7) : kpG σ r (stO σ) = true := by
  unfold kpG
  have e1 : stO σ &&& σ 21 0 = 0 := by rw [← stO_iff (stO_lt σ), ndf_self]
  have e2 : ∀ k, rcN (fun d => !(σ 21 0 ||| stO σ).testBit d && (true || !(decide (σ 10 d = 7 ∨ σ 11 d = 7)))) (σ 10) (σ 11) (σ 1 0) k 128 = 128 := by
    intro k
    induction k with
    | zero => rfl
    | succ k ih =>
      have es : ∀ p : Nat → Bool, rcN p (σ 10) (σ 11) (σ 1 0) (k + 1) 128 = rc1 p (σ 10) (σ 11) (σ 1 0) (rcN p (σ 10) (σ 11) (σ 1 0) k 128) := fun _ => rfl
      rw [es, ih]
      have ec : ∀ n, n ≤ σ 1 0 → rc1 (fun d => !(σ 21 0 ||| stO σ).testBit d && (true || !(decide (σ 10 d = 7 ∨ σ 11 d = 7)))) (σ 10) (σ 11) n 128 = 128 := by
        intro n
        induction n with
        | zero => intro _; rfl
        | succ n ih2 =>
          intro hn
          unfold rc1
          have e : ((σ 21 0 ||| stO σ).testBit n) = true := by
            unfold stO
            rw [Nat.testBit_or, ndf_testBit, p2m1_testBit, decide_eq_true (show n < σ 1 0 by omega)]
            cases (σ 21 0).testBit n <;> rfl
          simp only [e, Bool.not_true, Bool.false_and, Bool.false_eq_true, if_false]
          exact ih2 (by omega)
      exact ec _ (Nat.le_refl _)
  rw [e1, e2, decide_eq_true rfl, show (128 : Nat) = 2 ^ 7 from rfl, Nat.testBit_two_pow, decide_eq_false (by omega)]
  rfl
theorem pkO_s (b : Nat → Option Nat → Bool) (n : Nat) : pkO b (n + 1) = if b n (pkO b n) then some n else pkO b n := rfl
theorem kp_big {r : Nat} {n : Nat} (h : stO σ + 1 + n ≤ 2 ^ σ 1 0) : pkO (kpB σ r) (stO σ + 1 + n) = pkO (kpB σ r) (stO σ + 1) := by
  induction n with
  | zero => rfl
  | succ n ih =>
    have e : kpG σ r (stO σ + 1 + n) = false := by
      unfold kpG
      have : ¬ (stO σ + 1 + n) &&& σ 21 0 = 0 := by
        rw [← stO_iff (by omega)]
        intro z
        have := sub_le z
        omega
      rw [decide_eq_false this]
      rfl
    have e2 : ∀ a, kpB σ r (stO σ + 1 + n) a = false := fun a => by
      cases a with
      | none => rw [kpB_none, e]
      | some b => rw [kpB_some, e]; rfl
    rw [← Nat.add_assoc, pkO_s, e2, ih (by omega)]
    rfl
theorem kp_some {r : Nat} (hr : r < 7) : ∃ b, pkO (kpB σ r) (stO σ + 1) = some b ∧ b ≤ stO σ := by
  rw [pkO_s]
  cases c : pkO (kpB σ r) (stO σ) with
  | none => exact ⟨stO σ, by rw [kpB_none, kp_st hr]; rfl, Nat.le_refl _⟩
  | some b =>
    by_cases d : kpB σ r (stO σ) (some b) = true
    · exact ⟨stO σ, by rw [if_pos d], Nat.le_refl _⟩
    · exact ⟨b, by rw [if_neg d], Nat.le_of_lt (pkO_lt c)⟩
/-- the best and its number of walls, as the class has them -/
def kb1 (σ : aS) : Option Nat → Nat
  | none => stO σ
  | some b => b
def kb2 : Option Nat → Nat
  | none => 11
  | some b => pop b
theorem k_wallsFor {r : Nat} {Q : Int32 → xM → Prop} (L : LR 83 σ u) (ok : okS σ) (hr : r < σ 0 0) (hq : Q (nI (kb1 σ (pkO (kpB σ r) (stO σ + 1)))) u) : p_X6_wallsFor 83 (nI r) u Q := by
  have h7 := ok.r
  have h10 := ok.p10
  have hst := stO_lt σ
  have hw := ok.walled
  unfold p_X6_wallsFor
  refine k_all L ok (fun x3 h3 => ?_)
  rw [show gi u 92 2 = nI (σ 21 0) from L.f21, bNOT (by omega)] at h3
  have h3 : x3 = nI (stO σ) := h3
  subst h3
  refine xloop (fun m i (s : Int32 × Int32) => p_X6_wallsFor_L21 83 Q m (nI r) (nI (stO σ)) s.1 s.2 (nI i) u) (fun i s => s.1 = nI (kb1 σ (pkO (kpB σ r) i)) ∧ s.2 = nI (kb2 (pkO (kpB σ r) i))) (stO σ + 1) 0 (nI (stO σ), 11) (Nat.zero_le _) ⟨rfl, rfl⟩ ?_ ?_
  · intro m s hs
    unfold p_X6_wallsFor_L21
    rw [hs.1]
    exact ⟨fun _ => hq, fun c => absurd (by rw [cLT (by omega) (by omega)]; omega) c⟩
  · intro m i s _ hi hs k
    have hpi := pop10 (m := i) (by omega)
    have hk2 : kb2 (pkO (kpB σ r) i) ≤ 12 := by
      cases pkO (kpB σ r) i with
      | none => decide
      | some b => exact pop_le b
    have skip : kpB σ r i (pkO (kpB σ r) i) = false → p_X6_wallsFor_L21 83 Q m (nI r) (nI (stO σ)) s.1 s.2 (nI (i + 1)) u := fun hb => k s (by
      rw [pkO_s, hb]
      exact hs)
    unfold p_X6_wallsFor_L21
    rw [bNOT (by omega), cE0 (Nat.lt_of_le_of_lt (ndf_le _ _) (by omega)), stO_iff (by omega)]
    refine ⟨fun c => absurd c (by rw [cLT (by omega) (by omega)]; omega), fun _ => ⟨fun c x3 h3 => ?_, fun c => k_bitCount (by omega) ?_⟩⟩
    · rw [l_1, cA] at h3
      subst h3
      refine skip ?_
      have : kpG σ r i = false := by unfold kpG; rw [decide_eq_false c]; rfl
      cases pkO (kpB σ r) i with
      | none => rw [kpB_none, this]
      | some b => rw [kpB_some, this]; rfl
    · rw [hs.2, cLE (by omega) (by omega)]
      refine ⟨fun c2 x7 h7' => ?_, fun c2 => ?_⟩
      · rw [l_1, cA] at h7'
        subst h7'
        refine (show _ from hs.2 ▸ skip) ?_
        cases d : pkO (kpB σ r) i with
        | none =>
          rw [d] at c2
          simp only [kb2] at c2
          omega
        | some b =>
          rw [d] at c2
          simp only [kb2] at c2
          rw [kpB_some, decide_eq_false (by omega), Bool.and_false]
      · rw [bNOT (by omega), l_128]
        refine k_reached L ok (Nat.lt_of_le_of_lt (ndf_le _ _) (by omega)) (by omega) ?_
        have er : rcN (ndf (stO σ) i).testBit (σ 10) (σ 11) (σ 1 0) 8 128 = rcN (fun d => !(σ 21 0 ||| i).testBit d && (true || !(decide (σ 10 d = 7 ∨ σ 11 d = 7)))) (σ 10) (σ 11) (σ 1 0) 8 128 := rcN_congr (fun d hd => by
          unfold stO
          rw [ndf_testBit, ndf_testBit, p2m1_testBit, Nat.testBit_or, decide_eq_true hd]
          cases (σ 21 0).testBit d <;> cases i.testBit d <;> rfl) 8 128
        have hlt := rcN_lt (p := (ndf (stO σ) i).testBit) (F := σ 10) (T := σ 11) (n := σ 1 0) (s := 128) (fun i hi => ok.fin hi) (by decide) 8
        rw [bTST0 (by omega) (by omega), er]
        refine ⟨fun c3 x11 h11 => ?_, fun c3 => k_bitCount (by omega) (fun x14 h14 => ?_)⟩
        · rw [l_1, cA] at h11
          subst h11
          refine (show _ from hs.2 ▸ skip) ?_
          have : kpG σ r i = false := by
            unfold kpG
            rw [Bool.not_eq_false] at c3
            rw [c3, Bool.not_true, Bool.and_false]
          cases pkO (kpB σ r) i with
          | none => rw [kpB_none, this]
          | some b => rw [kpB_some, this]; rfl
        · rw [l_1, cA] at h14
          subst h14
          have g : kpG σ r i = true := by
            unfold kpG
            rw [c3, decide_eq_true c]; rfl
          have hb : kpB σ r i (pkO (kpB σ r) i) = true := by
            cases d : pkO (kpB σ r) i with
            | none => rw [kpB_none, g]
            | some b =>
              rw [d] at c2
              simp only [kb2] at c2
              rw [kpB_some, g, decide_eq_true (by omega)]; rfl
          refine k (nI i, nI (pop i)) ?_
          rw [pkO_s, hb]
          exact ⟨rfl, rfl⟩
theorem r_keepOf {r : Nat} {Q : Int32 → xM → Prop} (R : RS σ u) (ok : okS σ) (hr : r < σ 0 0) (hq : Q (nI (kb1 σ (pkO (kpB σ r) (stO σ + 1)))) u) : p_X11_keepOf (nI r) u Q := by
  have h7 := ok.r
  have h10 := ok.p10
  have hd10 := ok.d
  have hst := stO_lt σ
  have hw := ok.walled
  unfold p_X11_keepOf
  refine r_set4 R.1 ok ?_
  refine xloop (fun m i (s : Int32) => p_X11_keepOf_L11 Q m (nI r) (nI (σ 21 0)) s (nI i) u) (fun i s => s = eO (pkO (kpB σ r) i)) (2 ^ σ 1 0) 0 (-1) (Nat.zero_le _) rfl ?_ ?_
  · intro m s hs
    unfold p_X11_keepOf_L11
    rw [(r_at l_1 (by decide)).2, R.1.r1, bPOW (by omega)]
    refine ⟨(r_at l_1 (by decide)).1, fun _ => ?_, fun c => absurd (by rw [cLE (by omega) (by omega)]; exact Nat.le_refl _) c⟩
    obtain ⟨b, hb, _⟩ := kp_some (σ := σ) (r := r) (by omega)
    have e := kp_big (σ := σ) (r := r) (n := 2 ^ σ 1 0 - (stO σ + 1)) (by omega)
    rw [show stO σ + 1 + (2 ^ σ 1 0 - (stO σ + 1)) = 2 ^ σ 1 0 by omega] at e
    rw [hb] at hq
    rw [hs, e, hb]
    exact hq
  · intro m i s _ hi hs k
    have hpi := pop10 (m := i) (by omega)
    have skip : kpB σ r i (pkO (kpB σ r) i) = false → p_X11_keepOf_L11 Q m (nI r) (nI (σ 21 0)) s (nI (i + 1)) u := fun hb => k s (by
      rw [pkO_s, hb]
      exact hs)
    have main : i &&& σ 21 0 = 0 → (∀ b, pkO (kpB σ r) i = some b → pop i < pop b) → p_X11_keepOf_L48 Q (p_X11_keepOf_L11 Q m) (nI r) (nI (σ 21 0)) s (nI i) u := fun c hbb => by
      unfold p_X11_keepOf_L48
      rw [bOR, l_128]
      refine r_linkedFrom R.1 ok (Nat.lt_trans (or_lt2 hw hi) (by omega)) (by decide) ?_
      have hlt := rcN_lt (p := (fun d => !(σ 21 0 ||| i).testBit d && (true || !(decide (σ 10 d = 7 ∨ σ 11 d = 7))))) (F := σ 10) (T := σ 11) (n := σ 1 0) (s := 128) (fun i hi => ok.fin hi) (by decide) 8
      refine r_isIn (by omega) (by omega) ⟨fun c3 x6 h6 => ?_, fun c3 x7 h7' => ?_⟩
      · rw [l_1, cA] at h6
        subst h6
        refine skip ?_
        have : kpG σ r i = false := by
          unfold kpG
          rw [c3, Bool.not_true, Bool.and_false]
        cases pkO (kpB σ r) i with
        | none => rw [kpB_none, this]
        | some b => rw [kpB_some, this]; rfl
      · rw [l_1, cA] at h7'
        subst h7'
        have g : kpG σ r i = true := by
          unfold kpG
          rw [c3, decide_eq_true c]; rfl
        have hb : kpB σ r i (pkO (kpB σ r) i) = true := by
          cases d : pkO (kpB σ r) i with
          | none => rw [kpB_none, g]
          | some b => rw [kpB_some, g, decide_eq_true (hbb b d)]; rfl
        refine k (nI i) ?_
        rw [pkO_s, hb]
        rfl
    unfold p_X11_keepOf_L11
    rw [(r_at l_1 (by decide)).2, R.1.r1, bPOW (by omega), bAND, cE0 (Nat.lt_of_le_of_lt Nat.and_le_left (by omega))]
    refine ⟨(r_at l_1 (by decide)).1, fun c => absurd c (by rw [cLE (by omega) (by omega)]; omega), fun _ => ⟨fun c x4 h4 => ?_, fun c => ⟨fun c2 => ?_, fun c2 => ?_⟩⟩⟩
    · rw [l_1, cA] at h4
      subst h4
      refine skip ?_
      have : kpG σ r i = false := by unfold kpG; rw [decide_eq_false c]; rfl
      cases pkO (kpB σ r) i with
      | none => rw [kpB_none, this]
      | some b => rw [kpB_some, this]; rfl
    · refine main c (fun b hb => ?_)
      rw [hs, hb] at c2
      exact absurd c2 (nI_ne_m1 (by have := pkO_lt hb; omega))
    · cases d : pkO (kpB σ r) i with
      | none => exact absurd (by rw [hs, d]; rfl) c2
      | some b =>
        have hbl := pkO_lt d
        have es : s = nI b := by rw [hs, d]; rfl
        have hpb := pop_le b
        rw [d] at main
        rw [es] at main ⊢
        refine r_bits (by omega) (r_bits (by omega) ?_)
        rw [cLE (by omega) (by omega)]
        refine ⟨fun c3 x11 h11 => ?_, fun c3 => main c (fun b' hb' => ?_)⟩
        · rw [l_1, cA] at h11
          subst h11
          rw [← es]
          refine skip ?_
          rw [d, kpB_some, decide_eq_false (by omega), Bool.and_false]
        · obtain rfl := Option.some.inj hb'
          omega
theorem K_keep (I : INV u) (a : Int32) : p_X10_keep a u (fun r u1 => p_X11_keep a u1 (fun r' u2 => r = r' ∧ INV u2)) := by
  obtain ⟨σ, S, L, ok, R⟩ := I.sp
  have h7 := ok.r
  have h10 := ok.p10
  rcases below (a := a) (σ 0 0) with ⟨r, hr, rfl⟩ | hr
  · obtain ⟨b, hb, hb2⟩ := kp_some (σ := σ) (r := r) (by omega)
    have hst := stO_lt σ
    have hk : kb1 σ (pkO (kpB σ r) (stO σ + 1)) < 4096 := by rw [hb]; show b < 4096; omega
    refine pj (pc := p_X10_keep (nI r) u) (pr := p_X11_keep (nI r)) I ok R (nI (pop (kb1 σ (pkO (kpB σ r) (stO σ + 1))))) 0 (fun Q hq => ?_) (fun u1 c1 R Q hq => ?_)
    · unfold p_X10_keep
      exact k_isRoomT L ok hr ⟨fun c => absurd c (by decide), fun _ => k_wallsFor L ok hr (k_bitCount hk (k_fine hq cq.rf))⟩
    · unfold p_X11_keep
      exact r_isRoomT R ok hr ⟨fun c => absurd c (by decide), fun _ => r_keepOf R ok hr (r_bits hk (r_gives hq rq.rf))⟩
  · refine pj (pc := p_X10_keep a u) (pr := p_X11_keep a) I ok R (-1) 1 (fun Q hq => ?_) (fun u1 c1 R Q hq => ?_)
    · unfold p_X10_keep
      exact k_isRoomF L ok hr ⟨fun _ => k_none hq cq.rf, fun c => absurd c (by decide)⟩
    · unfold p_X11_keep
      exact r_isRoomF R ok hr ⟨fun _ => r_refuse hq rq.rf, fun c => absurd c (by decide)⟩
theorem K_keepSet (I : INV u) (a : Int32) : p_X10_keepSet a u (fun r u1 => p_X11_keepSet a u1 (fun r' u2 => r = r' ∧ INV u2)) := by
  obtain ⟨σ, S, L, ok, R⟩ := I.sp
  rcases below (a := a) (σ 0 0) with ⟨r, hr, rfl⟩ | hr
  · refine pj (pc := p_X10_keepSet (nI r) u) (pr := p_X11_keepSet (nI r)) I ok R (nI (kb1 σ (pkO (kpB σ r) (stO σ + 1)))) 0 (fun Q hq => ?_) (fun u1 c1 R Q hq => ?_)
    · unfold p_X10_keepSet
      exact k_isRoomT L ok hr ⟨fun c => absurd c (by decide), fun _ => k_wallsFor L ok hr (k_fine hq cq.rf)⟩
    · unfold p_X11_keepSet
      exact r_isRoomT R ok hr ⟨fun c => absurd c (by decide), fun _ => r_keepOf R ok hr (r_gives hq rq.rf)⟩
  · refine pj (pc := p_X10_keepSet a u) (pr := p_X11_keepSet a) I ok R (-1) 1 (fun Q hq => ?_) (fun u1 c1 R Q hq => ?_)
    · unfold p_X10_keepSet
      exact k_isRoomF L ok hr ⟨fun _ => k_none hq cq.rf, fun c => absurd c (by decide)⟩
    · unfold p_X11_keepSet
      exact r_isRoomF R ok hr ⟨fun _ => r_refuse hq rq.rf, fun c => absurd c (by decide)⟩
end KEEP
