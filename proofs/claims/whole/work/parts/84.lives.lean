/-! ===== the reference's lives ===== -/
section LIVES
variable {K T N P : Nat → Nat} {L : Nat} {σ τ : aS} {c : cfg} {u u' u0 : xM} {q : Nat → Nat}
theorem kc_all : ∀ k, k < 13 → ((kc k = 17) = (k = 0)) ∧ ((kc k = 18) = (k = 1)) ∧ ((kc k = 19) = (k = 2)) ∧ ((kc k = 20) = (k = 3)) ∧ ((kc k = 21) = (k = 4)) ∧ ((kc k = 23) = (k = 10)) ∧ ((kc k = 24) = (k = 12)) ∧ ((kc k = 25) = (k = 11)) ∧ ((kc k < 2200) = (k < 5 ∨ 9 < k)) ∧ kc k < 3000 := by
  intro k hk
  have h : k = 0 ∨ k = 1 ∨ k = 2 ∨ k = 3 ∨ k = 4 ∨ k = 5 ∨ k = 6 ∨ k = 7 ∨ k = 8 ∨ k = 9 ∨ k = 10 ∨ k = 11 ∨ k = 12 := by omega
  rcases h with h | h | h | h | h | h | h | h | h | h | h | h | h <;> subst h <;> decide
theorem l_2200 : (2200 : Int32) = nI 2200 := by decide +kernel
theorem l_2300 : (23 : Int32) = nI 23 := by decide +kernel
theorem l_25 : (25 : Int32) = nI 25 := by decide +kernel
theorem l_17 : (17 : Int32) = nI 17 := by decide +kernel
theorem l_19 : (19 : Int32) = nI 19 := by decide +kernel
theorem l_21 : (21 : Int32) = nI 21 := by decide +kernel
theorem itr_comp (a b : Nat) (c : cfg) : itr K T N P L a (itr K T N P L b c) = itr K T N P L (a + b) c := by
  induction a with
  | zero => rw [Nat.zero_add]; rfl
  | succ a ih =>
    rw [Nat.succ_add]
    show nxt K T N P L (itr K T N P L a (itr K T N P L b c)) = nxt K T N P L (itr K T N P L (a + b) c)
    rw [ih]
theorem RQ.q0 {v : Nat} (h : RQ q u) : RQ (qU q 0 v) u := ⟨by rw [qU_n (by decide)]; exact h.1, by rw [qU_n (by decide)]; exact h.2.1, fun i hi => by rw [qU_n (by omega)]; exact h.2.2 i hi⟩
theorem r_holds {l : Nat} {Q : Bool → xM → Prop} (R : RR 0 τ u) (hM : MD none u) (ok : okS τ) (hNR : NR K T N P L u) (hl : l < L) (hL : L ≤ 60) (h59 : 5 ≤ K l ∧ K l ≤ 9) (ht : if K l = 6 then T l < τ 1 0 else T l < τ 0 0) (hn : 7 ≤ K l → N l ≤ 9999) (hq : Q (tst (K l) (T l) (N l) τ) u) : p_X11_holds (nI (160 + 6 * l)) u Q := by
  have h := hNR.2 l hl
  have h10 := ok.d
  have h7 := ok.r
  unfold p_X11_holds
  rw [cCL (by omega), l_1, cA, cCL (by omega), show 160 + 6 * l + 1 = 161 + 6 * l by omega, h.1, h.2.2.1 (by omega), l_2, cA, l_5, cA, cCL (by omega), cCL (by omega), show 160 + 6 * l + 5 = 165 + 6 * l by omega, show 160 + 6 * l + 2 = 162 + 6 * l by omega]
  refine ⟨cIN (by omega) (by decide), fun x2 e2 => ⟨cIN (by omega) (by decide), fun x4 e4 => ?_⟩⟩
  subst e4
  have hd : K l ≠ 6 → T l < τ 0 0 := fun z => by rw [if_neg z] at ht; exact ht
  by_cases k6 : K l = 6
  · have e2 : x2 = 18 := by
      rw [e2, k6]
      decide +kernel
    rw [if_pos k6] at ht
    rw [e2]
    refine ⟨fun z => absurd rfl z, fun _ => r_isOpen (op := opn τ) R ok ht hM.mo ?_⟩
    have e : tst (K l) (T l) (N l) τ = (opn τ).testBit (T l) := by rw [k6]; rfl
    rw [e] at hq
    exact hq
  · have hdd := dep_le ok (hd k6)
    by_cases k5 : K l = 5
    · have e2 : x2 = 26 := by
        rw [e2, k5]
        decide +kernel
      rw [e2]
      refine ⟨fun _ => r_depthOf R ok (hd k6) ⟨fun z => absurd rfl z, fun _ => ?_⟩, fun z => absurd z (by decide)⟩
      have e : tst (K l) (T l) (N l) τ = decide (0 < dep τ (T l)) := by rw [k5]; rfl
      rw [e] at hq
      rw [l_0, cLE (by omega) (by omega)]
      refine ⟨fun z => ?_, fun z => ?_⟩
      · rw [decide_eq_false (by omega)] at hq; exact hq
      · rw [decide_eq_true (by omega)] at hq; exact hq
    · have hnn := hn (by omega)
      have hk789 : kc (K l) = 2227 := by
        rcases (by omega : K l = 7 ∨ K l = 8 ∨ K l = 9) with z | z | z <;> rw [z] <;> rfl
      have e2 : x2 = 27 := by
        rw [e2, hk789]
        decide +kernel
      rw [e2]
      refine ⟨fun _ => r_depthOf R ok (hd k6) ?_, fun z => absurd z (by decide)⟩
      rw [h.2.2.2.1 (by omega), h.2.2.2.2.1 (by omega)]
      refine ⟨fun _ => ⟨cIN (by omega) (by decide), ?_⟩, fun z => absurd z (by decide)⟩
      rcases (by omega : K l = 7 ∨ K l = 8 ∨ K l = 9) with z | z | z
      · have es : nI (sgc (K l)) = (60 : Int32) := by rw [z]; decide +kernel
        have e : tst (K l) (T l) (N l) τ = decide (dep τ (T l) < N l) := by rw [z]; rfl
        rw [e] at hq
        rw [es, cLE (a := N l) (b := dep τ (T l)) (by omega) (by omega)]
        refine ⟨fun y => absurd rfl y, fun _ => ⟨cIN (by omega) (by decide), fun y => ?_, fun y => ?_⟩⟩
        · rw [decide_eq_false (by omega)] at hq; exact hq
        · rw [decide_eq_true (by omega)] at hq; exact hq
      · have es : nI (sgc (K l)) = (62 : Int32) := by rw [z]; decide +kernel
        have e : tst (K l) (T l) (N l) τ = decide (N l < dep τ (T l)) := by rw [z]; rfl
        rw [e] at hq
        rw [es, cLE (a := dep τ (T l)) (by omega) (by omega)]
        refine ⟨fun _ => ⟨cIN (by omega) (by decide), fun y => absurd rfl y, fun _ => ⟨cIN (by omega) (by decide), fun y => ?_, fun y => ?_⟩⟩, fun y => absurd y (by decide)⟩
        · rw [decide_eq_false (by omega)] at hq; exact hq
        · rw [decide_eq_true (by omega)] at hq; exact hq
      · have es : nI (sgc (K l)) = (61 : Int32) := by rw [z]; decide +kernel
        have e : tst (K l) (T l) (N l) τ = decide (dep τ (T l) = N l) := by rw [z]; rfl
        rw [e] at hq
        rw [es, cEQ (by omega) (by omega)]
        refine ⟨fun _ => ⟨cIN (by omega) (by decide), fun _ => ⟨cIN (by omega) (by decide), fun y => ?_, fun y => ?_⟩, fun y => absurd y (by decide)⟩, fun y => absurd y (by decide)⟩
        · rw [decide_eq_false y] at hq; exact hq
        · rw [decide_eq_true y] at hq; exact hq
theorem r_bEnds {Q : Int32 → xM → Prop} (hB : BRK L K P) (hN : NP K T N L σ) (hL : L ≤ 60) (hNR : NR K T N P L u) (hP : PI K P L σ c) (hl0 : c.2.1 0 ≤ L) (C : RRL K P L c u) (hq : ∀ u' m, RRL K P L (itr K T N P L m c) u' → PI K P L σ (itr K T N P L m c) → rlf u u' → (itr K T N P L m c).2.1 0 ≤ L → ((itr K T N P L m c).2.1 0 < L → K ((itr K T N P L m c).2.1 0) ≠ 12) → (itr K T N P L m c).2.1 1 = c.2.1 1 → Q (nI ((itr K T N P L m c).2.1 0)) u') : p_X11_behindEnds (nI (c.2.1 0)) u Q := by
  unfold p_X11_behindEnds
  refine xloop (fun f j (s : Int32 × xM) => p_X11_behindEnds_L2 Q f s.1 s.2) (fun j s => ∃ m, s.1 = nI ((itr K T N P L m c).2.1 0) ∧ RRL K P L (itr K T N P L m c) s.2 ∧ PI K P L σ (itr K T N P L m c) ∧ rlf u s.2 ∧ (itr K T N P L m c).2.1 0 ≤ L ∧ (itr K T N P L m c).2.1 1 = c.2.1 1 ∧ j + Rm K P L (itr K T N P L m c) ≤ 160) 161 0 (nI (c.2.1 0), u) (Nat.zero_le _) ⟨0, rfl, C, hP, rlf.rf, hl0, rfl, by have := Rm_le hB hL hP; show 0 + Rm K P L c ≤ 160; omega⟩ ?_ ?_
  · intro f s hs
    obtain ⟨m, _, _, _, _, _, _, h⟩ := hs
    omega
  · intro f j s _ hj hs kk
    obtain ⟨m, e1, C1, P1, F1, l1, s1, b1⟩ := hs
    have eS : itr K T N P L (m + 1) c = nxt K T N P L (itr K T N P L m c) := rfl
    have hqm := hq s.2 m
    have hP' := PI_nxt hB hN hL P1
    have N1 := hNR.cg F1
    generalize itr K T N P L m c = d at *
    unfold p_X11_behindEnds_L2
    rw [e1, (r_at l_4 (by decide)).2, N1.1, cLE (by omega) (by omega)]
    refine ⟨(r_at l_4 (by decide)).1, fun z => hqm C1 P1 F1 l1 (fun z2 => absurd z2 (by omega)) s1, fun z => ?_⟩
    have hl : d.2.1 0 < L := by omega
    have h := N1.2 _ hl
    have hk13 := (hN _ hl).1
    have hkc := kc_all (K (d.2.1 0)) (by omega)
    have l6 : (6 : Int32) = nI 6 := by decide +kernel
    rw [l_160, l_6, cM, cA, l_4, cA, cCL (by omega), cCL (by omega), h.1, l_24, cEQ (by omega) (by omega), hkc.2.2.2.2.2.2.1, show 160 + 6 * d.2.1 0 + 4 = 164 + 6 * d.2.1 0 by omega]
    refine ⟨cIN (by omega) (by decide), fun hk => hqm C1 P1 F1 l1 (fun _ => hk) s1, fun hk => ⟨cIN (by omega) (by decide), fun x6 h6 => ?_⟩⟩
    have hb := hB.2.1 _ hl hk
    have hP2 := (hN (P (d.2.1 0)) (by omega)).1
    have hkc2 := kc_all (K (P (d.2.1 0))) (by omega)
    have hp := N1.2 (P (d.2.1 0)) (by omega)
    rw [h.2.2.2.2.2 (Or.inr hk)] at h6
    subst h6
    have en := nxt_e (T := T) (N := N) (P := P) hl hk
    have hR := Rm_end (T := T) (N := N) hB hL P1 hl hk
    have q1 : (nxt K T N P L d).2.1 1 = d.2.1 1 := by rw [en]; dsimp only; rw [qU_n (by decide)]
    -- what the last step leaves
    have fin : ∀ (b : Bool) (w2 : Int32), b = decide (K (P (d.2.1 0)) = 10 ∧ 1 < d.2.2 (P (d.2.1 0))) → (K (P (d.2.1 0)) = 10 → ∀ o, o ≠ P (d.2.1 0) → True) → p_X11_behindEnds_L78 Q (fun a b => p_X11_behindEnds_L2 Q f a b) (nI (d.2.1 0)) (nI (P (d.2.1 0))) b s.2 := fun b w2 hb2 _ => by
      have last : ∀ u2 : xM, u2 = si s.2 287 (P (d.2.1 0)) (gi s.2 287 (P (d.2.1 0)) - xb b) → p_X11_behindEnds_L2 Q f (nI (if K (P (d.2.1 0)) = 10 ∧ 1 < d.2.2 (P (d.2.1 0)) then P (d.2.1 0) + 1 else d.2.1 0 + 1)) u2 := fun u2 h2 => by
        have e0 : (nxt K T N P L d).2.1 0 = (if K (P (d.2.1 0)) = 10 ∧ 1 < d.2.2 (P (d.2.1 0)) then P (d.2.1 0) + 1 else d.2.1 0 + 1) := by rw [en]; dsimp only; rw [qU_s]
        have l2 : (nxt K T N P L d).2.1 0 ≤ L := by rw [e0]; split <;> omega
        have hact : ∀ o, act K P L ((nxt K T N P L d).2.1 0) o → act K P L (d.2.1 0) o ∧ (o = P (d.2.1 0) → K (P (d.2.1 0)) = 10 ∧ 1 < d.2.2 (P (d.2.1 0))) := fun o hoa => by
          rw [e0] at hoa
          by_cases ca : K (P (d.2.1 0)) = 10 ∧ 1 < d.2.2 (P (d.2.1 0))
          · rw [if_pos ca] at hoa
            exact ⟨act_again hB hl hk hoa, fun _ => ca⟩
          · rw [if_neg ca] at hoa
            rcases act_next hB hoa with y | y
            · obtain ⟨_, y1, _⟩ := hoa
              rw [y, hk] at y1
              omega
            · refine ⟨y, fun y2 => ?_⟩
              obtain ⟨_, _, _, y3⟩ := hoa
              rw [y2, hb.2.2.2] at y3
              omega
        rw [← e0]
        refine kk (nI ((nxt K T N P L d).2.1 0), u2) ⟨m + 1, by rw [eS], ?_, by rw [eS]; exact hP', F1.tr (by rw [h2]; exact rlf.si (Or.inl rfl)), by rw [eS]; exact l2, by rw [eS, q1]; exact s1, by rw [eS]; omega⟩
        rw [eS]
        refine ⟨?_, ?_, fun o hoa => ?_⟩
        · have okd := P1.1.1
          have ed : (nxt K T N P L d).1 = d.1 := by rw [en]
          rw [ed, h2]
          exact C1.1.cg okd.r okd.d okd.e (fun i _ _ => by rw [gi_si, if_neg (by omega)])
        · have ed : (nxt K T N P L d).2.1 = qU d.2.1 0 (if K (P (d.2.1 0)) = 10 ∧ 1 < d.2.2 (P (d.2.1 0)) then P (d.2.1 0) + 1 else d.2.1 0 + 1) := by rw [en]
          rw [ed]
          refine RQ.q0 (C1.2.1.cg (fun i => ?_) (fun i => ?_))
          · rw [h2, gi_si, if_neg (by omega)]
          · rw [h2, gi_si, if_neg (by omega)]
        · obtain ⟨ha, hpo⟩ := hact o hoa
          have hcell := C1.2.2 o ha
          have hlp := P1.2.2.2.2.1 o ha
          have ed : (nxt K T N P L d).2.2 = if K (P (d.2.1 0)) = 10 then qU d.2.2 (P (d.2.1 0)) (d.2.2 (P (d.2.1 0)) - 1) else d.2.2 := by rw [en]
          rw [ed, h2, gi_si]
          by_cases y : o = P (d.2.1 0)
          · have hc := hpo y
            rw [if_pos ⟨rfl, y⟩, if_pos hc.1, y, qU_s, hb2, decide_eq_true hc]
            rw [y] at hcell
            rw [hcell, show xb true = nI 1 from rfl, cS (by omega)]
          · rw [if_neg (fun z2 => y z2.2), hcell]
            by_cases y10 : K (P (d.2.1 0)) = 10
            · rw [if_pos y10, qU_n y]
            · rw [if_neg y10]
      have l97 : ∀ w3 : Bool, w3 = b → p_X11_behindEnds_L97 Q (fun a b => p_X11_behindEnds_L2 Q f a b) (nI (d.2.1 0)) (nI (P (d.2.1 0))) b (nI (P (d.2.1 0))) (gi s.2 287 (P (d.2.1 0))) w3 s.2 := fun w3 hw3 => by
        subst hw3
        unfold p_X11_behindEnds_L97
        rw [cCL (by omega), l_1, cA, cA]
        refine ⟨cIN (by omega) (by decide), fun u2 h2 => ⟨fun y x4 h4 => ?_, fun y x5 h5 => ?_⟩⟩
        · have := last u2 h2
          rw [hb2, decide_eq_false_iff_not] at y
          rw [if_neg y] at this
          rw [h4]
          exact this
        · have := last u2 h2
          rw [hb2, decide_eq_true_eq] at y
          rw [if_pos y] at this
          rw [h5]
          exact this
      unfold p_X11_behindEnds_L78
      rw [cCL (by omega)]
      exact ⟨cIN (by omega) (by decide), fun y => l97 false y.symm, fun y => l97 true y.symm⟩
    rw [cM, cA, cCL (by omega), hp.1, l_2300, cEQ (by omega) (by omega), hkc2.2.2.2.2.2.1, cCL (by omega)]
    refine ⟨cIN (by omega) (by decide), fun y => ?_, fun y => ⟨cIN (by omega) (by decide), ?_⟩⟩
    · unfold p_X11_behindEnds_L77
      exact fin false 0 (decide_eq_false (fun z2 => y z2.1)).symm (fun _ _ _ => trivial)
    · have ha := act_own hB hl hk y
      have hlp := P1.2.2.2.2.1 _ ha
      rw [C1.2.2 _ ha, l_0, cLE (by omega) (by omega)]
      refine ⟨fun z2 => ?_, fun z2 => fin true 0 (decide_eq_true ⟨y, by omega⟩).symm (fun _ _ _ => trivial)⟩
      unfold p_X11_behindEnds_L77
      exact fin false 0 (decide_eq_false (fun z3 => by omega)).symm (fun _ _ _ => trivial)
theorem DO.none {k t n : Nat} (hk : 5 ≤ k) (R : RR 0 τ u) (C : RQ q u) : DO k t n τ q true u u := by
  have he : eff k t n τ q = (τ, q) := by
    unfold eff
    rw [if_neg (by omega), if_neg (by omega), if_neg (by omega), if_neg (by omega)]
  have e : qU q 2 (q 2) = q := by
    funext i
    rw [qU_at]
    by_cases z : i = 2
    · rw [if_pos z, z]
    · rw [if_neg z]
  exact ⟨by rw [he]; exact R, by rw [he]; dsimp only; rw [e]; exact C, by rw [he]; rfl, rlf.rf, fun _ => rfl⟩
theorem r_does {l : Nat} {Q : Bool → xM → Prop} (hT : okT σ τ) (hN : NP K T N L σ) (hL : L ≤ 60) (hl : l < L) (hNR : NR K T N P L u) (R : RR 0 τ u) (hM : MD none u) (h25 : gi u 272 25 = xb false) (h7 : q 7 < 65536) (C : RQ q u) (hq : ∀ b u', DO (K l) (T l) (N l) τ q b u u' → Q b u') : p_X11_does (nI (160 + 6 * l)) u Q := by
  have ok := hT.1
  have e0 : τ 0 0 = σ 0 0 := hT.2.2.2.1
  have e1 : τ 1 0 = σ 1 0 := hT.2.2.2.2.1
  have h := hNR.2 l hl
  have hn := hN l hl
  have hkc := kc_all (K l) (by omega)
  unfold p_X11_does
  rw [cCL (by omega), l_1, cA, cCL (by omega), show 160 + 6 * l + 1 = 161 + 6 * l by omega, h.1]
  refine ⟨cIN (by omega) (by decide), fun x2 h2 => ⟨cIN (by omega) (by decide), fun x4 h4 => ?_⟩⟩
  subst h4
  have n17 : (nI (kc (K l)) = (17 : Int32)) = (K l = 0) := by rw [l_17, cEQ (by omega) (by omega)]; exact hkc.1
  have n18 : (nI (kc (K l)) = (18 : Int32)) = (K l = 1) := by rw [l_18, cEQ (by omega) (by omega)]; exact hkc.2.1
  have n19 : (nI (kc (K l)) = (19 : Int32)) = (K l = 2) := by rw [l_19, cEQ (by omega) (by omega)]; exact hkc.2.2.1
  have n20 : (nI (kc (K l)) = (20 : Int32)) = (K l = 3) := by rw [l_20, cEQ (by omega) (by omega)]; exact hkc.2.2.2.1
  have n21 : (nI (kc (K l)) = (21 : Int32)) = (K l = 4) := by rw [l_21, cEQ (by omega) (by omega)]; exact hkc.2.2.2.2.1
  rw [n17, n18, n19, n20, n21, h2]
  refine ⟨fun z => ?_, fun z => ?_, fun z => ?_, fun z => ?_, fun z => ?_, fun z0 z1 z2 z3 z4 => hq true u (DO.none (by omega) R C)⟩
  · rw [h.2.1 (by omega)]
    refine r_lhours (t := T l) R hM h25 ok hT.2.2.1 hT.2.1 (hn.2.1 z).2 C (fun b u' d => hq b u' ?_)
    rw [z]; exact d
  · rw [h.2.2.1 (by omega)]
    exact r_lturn (k := K l) (n := N l) (by omega) R ok (by rw [e1]; exact hn.2.2.1 (by omega)) C (by rw [z]; rfl) hq
  · rw [h.2.2.1 (by omega)]
    exact r_lturn (k := K l) (n := N l) (by omega) R ok (by rw [e1]; exact hn.2.2.1 (by omega)) C (by rw [z]; rfl) hq
  · rw [h.2.2.1 (by omega), l_2, cA, cCL (by omega), show 160 + 6 * l + 2 = 162 + 6 * l by omega, h.2.2.2.1 (by omega)]
    refine ⟨cIN (by omega) (by decide), r_lbail R ok (by rw [e0]; exact hn.2.2.2.1 (by omega)) (hn.2.2.2.2.1 (by omega)) C (fun b u' d => hq b u' ?_)⟩
    rw [z]; exact d
  · refine r_lany (t := T l) (n := N l) R ok h7 C (fun b u' d => hq b u' ?_)
    rw [z]; exact d
theorem r_lives {s0 : Nat} {Q : xM → Prop} (hB : BRK L K P) (hN : NP K T N L σ) (hL : L ≤ 60) (hT : okT σ σ) (hs0 : s0 ≤ 9999) (hNR : NR K T N P L u) (R : RS σ u) (hq : ∀ u' n, L ≤ (itr K T N P L n (σ, qU (fun _ => 0) 7 s0, fun _ => 0)).2.1 0 → PI K P L σ (itr K T N P L n (σ, qU (fun _ => 0) 7 s0, fun _ => 0)) → RR 0 (itr K T N P L n (σ, qU (fun _ => 0) 7 s0, fun _ => 0)).1 u' → RQ (itr K T N P L n (σ, qU (fun _ => 0) 7 s0, fun _ => 0)).2.1 u' → rlf u u' → Q u') : p_X11_lives (nI s0) u Q := by
  have ok := hT.1
  unfold p_X11_lives
  intro u1 h1 u2 h2
  refine xloop (fun f i (w : xM) => p_X11_lives_L12 Q f (nI i) w) (fun i w => rlf u w ∧ gi w 272 37 = nI s0 ∧ gi w 272 38 = 0 ∧ (∀ j, j < 160 → gi w 273 j = gi u 273 j) ∧ ∀ j, j < i → gi w 288 j = 0) 5 0 u2 (Nat.zero_le _) ⟨?_, ?_, ?_, fun j hj => ?_, fun j hj => by omega⟩ ?_ ?_
  · rw [h2, h1]; exact (rlf.si (by omega)).tr (rlf.si (by omega))
  · rw [h2, gi_si, if_neg (by omega), h1, gi_at]
  · rw [h2, gi_at]
  · rw [h2, gi_si, if_neg (by omega), h1, gi_si, if_neg (by omega)]
  · intro f w hw
    unfold p_X11_lives_L12
    refine ⟨fun _ => ?_, fun z => absurd (by decide) z⟩
    refine xloop (fun f i (s : Int32 × xM) => p_X11_lives_L32 Q f s.1 s.2) (fun i s => ∃ n, s.1 = nI ((itr K T N P L n (σ, qU (fun _ => 0) 7 s0, fun _ => 0)).2.1 0) ∧ RRL K P L (itr K T N P L n (σ, qU (fun _ => 0) 7 s0, fun _ => 0)) s.2 ∧ PI K P L σ (itr K T N P L n (σ, qU (fun _ => 0) 7 s0, fun _ => 0)) ∧ rlf u s.2 ∧ (itr K T N P L n (σ, qU (fun _ => 0) 7 s0, fun _ => 0)).2.1 0 ≤ L ∧ ((itr K T N P L n (σ, qU (fun _ => 0) 7 s0, fun _ => 0)).2.1 0 < L → K ((itr K T N P L n (σ, qU (fun _ => 0) 7 s0, fun _ => 0)).2.1 0) ≠ 12) ∧ (itr K T N P L n (σ, qU (fun _ => 0) 7 s0, fun _ => 0)).2.1 1 = i) 300 0 (0, w) (Nat.zero_le _) ⟨0, ?_, ?_, ?_, hw.1, ?_, fun hl hk => ?_, ?_⟩ ?_ ?_
    · show (0 : Int32) = nI (qU (fun _ => 0) 7 s0 0)
      rw [qU_n (by decide)]; rfl
    · refine ⟨R.1.k ok hw.2.2.2.1, ⟨?_, ?_, fun i hi => ?_⟩, fun o hoa => ?_⟩
      · show gi w 272 37 = nI (qU (fun _ => 0) 7 s0 7)
        rw [qU_s]; exact hw.2.1
      · show gi w 272 38 = nI (qU (fun _ => 0) 7 s0 1)
        rw [qU_n (by decide)]; exact hw.2.2.1
      · show gi w 288 i = nI (qU (fun _ => 0) 7 s0 (i + 2))
        rw [qU_n (by omega)]; exact hw.2.2.2.2 i hi
      · have hoa : act K P L (qU (fun _ => 0) 7 s0 0) o := hoa
        rw [qU_n (by decide)] at hoa
        obtain ⟨_, _, y, _⟩ := hoa
        omega
    · refine ⟨hT, ?_, ?_, Or.inl ?_, fun o hoa => ?_, Or.inl ?_⟩
      · show qU (fun _ => 0) 7 s0 1 ≤ 300
        rw [qU_n (by decide)]; omega
      · show qU (fun _ => 0) 7 s0 7 < 65536
        rw [qU_s]; omega
      · show qU (fun _ => 0) 7 s0 6 = 0
        rw [qU_n (by decide)]
      · have hoa : act K P L (qU (fun _ => 0) 7 s0 0) o := hoa
        rw [qU_n (by decide)] at hoa
        obtain ⟨_, _, y, _⟩ := hoa
        omega
      · show qU (fun _ => 0) 7 s0 0 ≤ L
        rw [qU_n (by decide)]; omega
    · show qU (fun _ => 0) 7 s0 0 ≤ L
      rw [qU_n (by decide)]; omega
    · have e : (itr K T N P L 0 (σ, qU (fun _ => 0) 7 s0, fun _ => 0)).2.1 0 = 0 := by
        show qU (fun _ => 0) 7 s0 0 = 0
        rw [qU_n (by decide)]
      rw [e] at hl hk
      have := hB.2.1 0 hl hk
      omega
    · show qU (fun _ => 0) 7 s0 1 = 0
      rw [qU_n (by decide)]
    -- three ways on
    · intro f s hs
      obtain ⟨n, e1, C1, P1, F1, l1, k12, s1⟩ := hs
      have eS : itr K T N P L (n + 1) (σ, qU (fun _ => 0) 7 s0, fun _ => 0) = nxt K T N P L (itr K T N P L n (σ, qU (fun _ => 0) 7 s0, fun _ => 0)) := rfl
      have hqn := fun w => hq w n
      have hqs := fun w => hq w (n + 1)
      rw [eS] at hqs
      have hP' := PI_nxt hB hN hL P1
      generalize itr K T N P L n (σ, qU (fun _ => 0) 7 s0, fun _ => 0) = d at *
      have N1 := hNR.cg F1
      unfold p_X11_lives_L32
      rw [e1, (r_at l_4 (by decide)).2, N1.1, cLE (by omega) (by omega), C1.2.1.2.1, s1]
      refine ⟨(r_at l_4 (by decide)).1, fun z => hqn s.2 z P1 C1.1 C1.2.1 F1, fun z => ⟨fun y => absurd rfl y, fun _ => ⟨(show vp_in (4 : Int32) 5 from cIN (a := 4) (by omega) (by decide)), fun u13 h13 => ?_⟩⟩⟩
      have hl : d.2.1 0 < L := by omega
      have en := nxt_l (T := T) (N := N) (P := P) hl (k12 hl) s1
      refine hqs u13 ?_ hP' ?_ ?_ (F1.tr (by rw [h13]; exact rlf.si (by omega)))
      · rw [en]; dsimp only; rw [qU_s]; omega
      · have okd := P1.1.1
        rw [en, h13]
        exact C1.1.cg okd.r okd.d okd.e (fun e _ _ => by rw [gi_si, if_neg (by omega)])
      · rw [en, h13]
        dsimp only
        exact RQ.q0 (C1.2.1.set (i := 4) (v := 1) (x := 1) (by omega) rfl)
    · intro f i s _ hi hs kk
      obtain ⟨n, e1, C1, P1, F1, l1, k12, s1⟩ := hs
      have eS : itr K T N P L (n + 1) (σ, qU (fun _ => 0) 7 s0, fun _ => 0) = nxt K T N P L (itr K T N P L n (σ, qU (fun _ => 0) 7 s0, fun _ => 0)) := rfl
      have hqn := fun w => hq w n
      have hqs := fun w => hq w (n + 1)
      have hcomp := fun a => itr_comp (K := K) (T := T) (N := N) (P := P) (L := L) a (n + 1) (σ, qU (fun _ => 0) 7 s0, fun _ => 0)
      rw [eS] at hqs hcomp
      have hP' := PI_nxt hB hN hL P1
      generalize itr K T N P L n (σ, qU (fun _ => 0) 7 s0, fun _ => 0) = d at hqn hqs hcomp e1 C1 P1 F1 l1 k12 s1 hP'
      have N1 := hNR.cg F1
      have okd := P1.1.1
      unfold p_X11_lives_L32
      rw [e1, (r_at l_4 (by decide)).2, N1.1, cLE (by omega) (by omega), C1.2.1.2.1, l_300, cEQ (by have := P1.2.1; omega) (by omega)]
      refine ⟨(r_at l_4 (by decide)).1, fun z => hqn s.2 z P1 C1.1 C1.2.1 F1, fun z => ⟨fun hs3 x4 h4 u5 h5 => ?_, fun y => absurd y (by omega)⟩⟩
      have hl : d.2.1 0 < L := by omega
      have hk12 := k12 hl
      have l6 : (6 : Int32) = nI 6 := by decide +kernel
      rw [l_160, l6, cM, cA] at h4
      subst h4
      rw [l_1, cA] at h5
      have R5 : RR 0 d.1 u5 := C1.1.cg okd.r okd.d okd.e (fun e _ _ => by rw [h5, gi_si, if_neg (by omega)])
      have C5 : RQ (qU d.2.1 1 (d.2.1 1 + 1)) u5 := ⟨by rw [h5, gi_si, if_neg (by omega), qU_n (by decide)]; exact C1.2.1.1, by rw [h5, gi_at, qU_s], fun j hj => by rw [h5, gi_si, if_neg (by omega), qU_n (by omega)]; exact C1.2.1.2.2 j hj⟩
      have F5 : rlf s.2 u5 := by rw [h5]; exact rlf.si (by omega)
      have G5 : ∀ j, gi u5 287 j = gi s.2 287 j := fun j => by rw [h5, gi_si, if_neg (by omega)]
      have N5 := N1.cg F5
      have hh := N5.2 _ hl
      have hnp := hN _ hl
      have hkc := kc_all (K (d.2.1 0)) (by omega)
      have md : ∀ w, rlf u w → MD none w ∧ gi w 272 25 = xb false := fun w fw => ⟨R.2.1.cg (fw.1 272 23 (by omega) (by omega) (by omega) (by omega) (by omega) (by omega)) (fw.1 272 24 (by omega) (by omega) (by omega) (by omega) (by omega) (by omega)), (fw.1 272 25 (by omega) (by omega) (by omega) (by omega) (by omega) (by omega)).trans R.2.2⟩
      rw [cCL (by omega), hh.1, l_25, cEQ (by omega) (by omega), hkc.2.2.2.2.2.2.2.1]
      refine ⟨cIN (by omega) (by decide), fun hk11 => ⟨(show vp_in (0 : Int32) 5 from cIN (a := 0) (by omega) (by decide)), ?_⟩, fun hk11 => ?_⟩
      · refine r_does (q := qU d.2.1 1 (d.2.1 1 + 1)) P1.1 hN hL hl N5 R5 (md u5 (F1.tr F5)).1 (md u5 (F1.tr F5)).2 (by rw [qU_n (by decide)]; exact P1.2.2.1) C5 (fun b u9 d9 => ?_)
        obtain ⟨R9, C9, m9, F9, G9⟩ := d9
        have en := nxt_s (T := T) (N := N) (P := P) hl hk12 hk11 hs3
        have heT := eff_ok (k := K (d.2.1 0)) (t := T (d.2.1 0)) (n := N (d.2.1 0)) (q := qU d.2.1 1 (d.2.1 1 + 1)) P1.1 (fun z => hnp.2.2.1 (by omega)) (by rw [qU_n (by decide)]; exact P1.2.2.1)
        have hq1 := eff_q (K (d.2.1 0)) (T (d.2.1 0)) (N (d.2.1 0)) d.1 (qU d.2.1 1 (d.2.1 1 + 1))
        have h59 : 5 ≤ K (d.2.1 0) → eff (K (d.2.1 0)) (T (d.2.1 0)) (N (d.2.1 0)) d.1 (qU d.2.1 1 (d.2.1 1 + 1)) = (d.1, qU d.2.1 1 (d.2.1 1 + 1)) := fun z => by
          unfold eff
          rw [if_neg (by omega), if_neg (by omega), if_neg (by omega), if_neg (by omega)]
        have e5 : gi u5 288 0 = nI (qU d.2.1 1 (d.2.1 1 + 1) 2) := C5.2.2 0 (by omega)
        -- counted, then on
        have l111 : ∀ w3 : Bool, w3 = !b → p_X11_lives_L111 Q (fun a b => p_X11_lives_L32 Q f a b) (nI (d.2.1 0)) (nI (160 + 6 * d.2.1 0)) (gi u5 288 (0 : Int32).toNatClampNeg) w3 u9 := fun w3 hw3 => by
          unfold p_X11_lives_L111
          rw [show ((0 : Int32).toNatClampNeg) = 0 from rfl, e5, cCL (by omega)]
          refine ⟨(show vp_in (0 : Int32) 5 from cIN (a := 0) (by omega) (by decide)), fun v2 hv2 => ⟨cIN (by omega) (by decide), ?_⟩⟩
          have okE := heT.1.1
          have Cv : RQ (eff (K (d.2.1 0)) (T (d.2.1 0)) (N (d.2.1 0)) d.1 (qU d.2.1 1 (d.2.1 1 + 1))).2 v2 := by
            have := C9.set (i := 0) (v := (eff (K (d.2.1 0)) (T (d.2.1 0)) (N (d.2.1 0)) d.1 (qU d.2.1 1 (d.2.1 1 + 1))).2 2) (x := nI (qU d.2.1 1 (d.2.1 1 + 1) 2) + xb w3) (by omega) (by
              rw [m9, hw3]
              cases b
              · show nI _ + nI 1 = _
                rw [cA]; rfl
              · show nI _ + nI 0 = _
                rw [cA]; rfl)
            have ee : qU (qU (eff (K (d.2.1 0)) (T (d.2.1 0)) (N (d.2.1 0)) d.1 (qU d.2.1 1 (d.2.1 1 + 1))).2 2 (qU d.2.1 1 (d.2.1 1 + 1) 2)) (0 + 2) ((eff (K (d.2.1 0)) (T (d.2.1 0)) (N (d.2.1 0)) d.1 (qU d.2.1 1 (d.2.1 1 + 1))).2 2) = (eff (K (d.2.1 0)) (T (d.2.1 0)) (N (d.2.1 0)) d.1 (qU d.2.1 1 (d.2.1 1 + 1))).2 := by
              generalize (eff (K (d.2.1 0)) (T (d.2.1 0)) (N (d.2.1 0)) d.1 (qU d.2.1 1 (d.2.1 1 + 1))).2 = qq
              funext j
              rw [qU_at]
              by_cases y : j = 0 + 2
              · rw [if_pos y, y]
              · rw [if_neg y, qU_n (by omega)]
            rw [ee] at this
            rw [hv2]
            exact this
          have Rv : RR 0 (eff (K (d.2.1 0)) (T (d.2.1 0)) (N (d.2.1 0)) d.1 (qU d.2.1 1 (d.2.1 1 + 1))).1 v2 := R9.cg okE.r okE.d okE.e (fun e _ _ => by rw [hv2, gi_si, if_neg (by omega)])
          have Fv : rlf u v2 := ((F1.tr F5).tr F9).tr (by rw [hv2]; exact rlf.si (by omega))
          have Gv : ∀ j, gi v2 287 j = gi s.2 287 j := fun j => by rw [hv2, gi_si, if_neg (by omega), G9, G5]
          have Nv := hNR.cg Fv
          have hv := Nv.2 _ hl
          -- behind it
          have l140 : ∀ v7 : xM, RQ (eff (K (d.2.1 0)) (T (d.2.1 0)) (N (d.2.1 0)) d.1 (qU d.2.1 1 (d.2.1 1 + 1))).2 v7 → RR 0 (eff (K (d.2.1 0)) (T (d.2.1 0)) (N (d.2.1 0)) d.1 (qU d.2.1 1 (d.2.1 1 + 1))).1 v7 → rlf u v7 → (K (d.2.1 0) ≠ 10 → ∀ j, gi v7 287 j = gi s.2 287 j) → (K (d.2.1 0) = 10 → ∀ j, gi v7 287 j = if j = d.2.1 0 then nI (N (d.2.1 0) - 1) else gi s.2 287 j) → p_X11_lives_L140 Q (fun a b => p_X11_lives_L32 Q f a b) (nI (d.2.1 0)) (nI (160 + 6 * d.2.1 0)) v7 := fun v7 C7 R7 F7 G7 H7 => by
            have N7 := hNR.cg F7
            have h7 := N7.2 _ hl
            have e0 : (nxt K T N P L d).2.1 0 = if tst (K (d.2.1 0)) (T (d.2.1 0)) (N (d.2.1 0)) d.1 then d.2.1 0 + 1 else P (d.2.1 0) + 1 := by rw [en]; dsimp only; rw [qU_s]
            have lle : (nxt K T N P L d).2.1 0 ≤ L := by
              rw [e0]
              by_cases ct : tst (K (d.2.1 0)) (T (d.2.1 0)) (N (d.2.1 0)) d.1 = true
              · rw [if_pos ct]; omega
              · rw [if_neg ct]
                have y := tst_f ct
                have := hB.1 _ hl (by omega) (by omega)
                omega
            have hact : ∀ o, act K P L ((nxt K T N P L d).2.1 0) o → o = d.2.1 0 ∧ K (d.2.1 0) = 10 ∨ act K P L (d.2.1 0) o := fun o hoa => by
              rw [e0] at hoa
              by_cases ct : tst (K (d.2.1 0)) (T (d.2.1 0)) (N (d.2.1 0)) d.1 = true
              · rw [if_pos ct] at hoa
                rcases act_next hB hoa with y | y
                · obtain ⟨_, y1, _⟩ := hoa
                  rw [y] at y1
                  exact Or.inl ⟨y, y1⟩
                · exact Or.inr y
              · rw [if_neg ct] at hoa
                have y := tst_f ct
                exact Or.inr (act_past hB hl (by omega) (by omega) hoa)
            have CL : RRL K P L (nxt K T N P L d) v7 := by
              refine ⟨by rw [en]; exact R7, by rw [en]; exact RQ.q0 C7, fun o hoa => ?_⟩
              have el : (nxt K T N P L d).2.2 = if K (d.2.1 0) = 10 then qU d.2.2 (d.2.1 0) (N (d.2.1 0)) else d.2.2 := by rw [en]
              rw [el]
              rcases hact o hoa with ⟨y, y10⟩ | y
              · rw [if_pos y10, H7 y10, if_pos y, y, qU_s]
              · by_cases y10 : K (d.2.1 0) = 10
                · have zl : o ≠ d.2.1 0 := by obtain ⟨_, _, y3, _⟩ := y; omega
                  rw [if_pos y10, H7 y10, if_neg zl, qU_n zl]
                  exact C1.2.2 o y
                · rw [if_neg y10, G7 y10]
                  exact C1.2.2 o y
            have go : p_X11_behindEnds (nI ((nxt K T N P L d).2.1 0)) v7 (fun r2 u1 => p_X11_lives_L32 Q f r2 u1) := by
              refine r_bEnds hB hN hL N7 hP' lle CL (fun v8 m C8 P8 F8 l8 k8 s8 => ?_)
              refine kk (nI ((itr K T N P L m (nxt K T N P L d)).2.1 0), v8) ⟨m + (n + 1), ?_, ?_, ?_, F7.tr F8, ?_, ?_, ?_⟩
              · rw [← hcomp]
              · rw [← hcomp]; exact C8
              · rw [← hcomp]; exact P8
              · rw [← hcomp]; exact l8
              · rw [← hcomp]; exact k8
              · rw [← hcomp, s8, en]
                dsimp only
                rw [qU_n (by decide), hq1.1, qU_s, s1]
            unfold p_X11_lives_L140
            rw [cCL (by omega), h7.1, l_2200, cLT (by omega) (by omega), hkc.2.2.2.2.2.2.2.2.1]
            refine ⟨cIN (by omega) (by decide), fun y => ?_, fun y => ?_⟩
            · rw [e0, if_pos (tst_t y), ← cA] at go
              unfold p_X11_lives_L174
              exact go
            · have k59 : 5 ≤ K (d.2.1 0) ∧ K (d.2.1 0) ≤ 9 := by omega
              rw [h59 k59.1] at R7
              refine r_holds R7 (md v7 F7).1 okd N7 hl hL k59 ?_ (fun y7 => hnp.2.2.2.2.1 (by omega)) ⟨fun y2 => ?_, fun y2 => ?_⟩
              · split
                · rw [P1.1.2.2.2.2.1]; exact hnp.2.2.1 (by omega)
                · rw [P1.1.2.2.2.1]; exact hnp.2.2.2.1 (by omega)
              · rw [e0, if_pos y2, ← cA] at go
                unfold p_X11_lives_L174
                exact go
              · rw [e0, y2, if_neg (by decide), ← cA] at go
                rw [l_4, cA, cCL (by omega), show 160 + 6 * d.2.1 0 + 4 = 164 + 6 * d.2.1 0 by omega, h7.2.2.2.2.2 (by omega)]
                exact ⟨cIN (by omega) (by decide), go⟩
          rw [hv.1, l_2300, cEQ (by omega) (by omega), hkc.2.2.2.2.2.1]
          refine ⟨fun y => l140 v2 Cv Rv Fv (fun _ => Gv) (fun z => absurd z y), fun y => ?_⟩
          rw [l_1, cA, cCL (by omega), cCL (by omega), show 160 + 6 * d.2.1 0 + 1 = 161 + 6 * d.2.1 0 by omega, hv.2.1 (by omega)]
          refine ⟨cIN (by omega) (by decide), cIN (by omega) (by decide), fun u7 h7 => ?_⟩
          have hb := hnp.2.2.2.2.2 y
          rw [cS (by omega)] at h7
          refine l140 u7 ?_ ?_ (Fv.tr (by rw [h7]; exact rlf.si (by omega))) (fun z => absurd y z) (fun _ j => ?_)
          · rw [h7]; exact Cv.cg (fun j => by rw [gi_si, if_neg (by omega)]) (fun j => by rw [gi_si, if_neg (by omega)])
          · rw [h7]; exact Rv.cg okE.r okE.d okE.e (fun e _ _ => by rw [gi_si, if_neg (by omega)])
          · rw [h7, gi_si]
            by_cases z : j = d.2.1 0
            · rw [if_pos ⟨rfl, z⟩, if_pos z]
            · rw [if_neg (fun z2 => z z2.2), if_neg z, Gv]
        cases b
        · exact ⟨fun _ => l111 true rfl, fun y => absurd y (by decide)⟩
        · exact ⟨fun y => absurd y (by decide), fun _ => l111 false rfl⟩
      · have en := nxt_q (T := T) (N := N) (P := P) hl hk11 hs3
        refine hqs u5 ?_ hP' ?_ ?_ (F1.tr F5)
        · rw [en]; dsimp only; rw [qU_s]; omega
        · rw [en]; exact R5
        · rw [en]; exact RQ.q0 C5
  · intro f i w _ hi hw kk
    unfold p_X11_lives_L12
    refine ⟨fun z => absurd z (by rw [l_5, cLE (by omega) (by omega)]; omega), fun _ => ⟨cIN (by omega) (by decide), fun u3 h3 x4 h4 => ?_⟩⟩
    rw [l_1, cA] at h4
    subst h4
    rw [cCL (by omega)] at h3
    refine kk u3 ⟨hw.1.tr (by rw [h3]; exact rlf.si (by omega)), by rw [h3, gi_si, if_neg (by omega)]; exact hw.2.1, by rw [h3, gi_si, if_neg (by omega)]; exact hw.2.2.1, fun j hj => by rw [h3, gi_si, if_neg (by omega)]; exact hw.2.2.2.1 j hj, fun j hj => ?_⟩
    rw [h3, gi_si]
    by_cases z : j = i
    · rw [if_pos ⟨rfl, z⟩]
    · rw [if_neg (fun y => z y.2)]; exact hw.2.2.2.2 j (by omega)
end LIVES
