/-! ===== the reference reads NIGHTS ===== -/
def rn (u u' : xM) : Prop := (∀ k i, ¬ (k = 272 ∧ ((12 ≤ i ∧ i ≤ 15) ∨ i = 21 ∨ i = 22)) → ¬ (k = 273 ∧ 2096 ≤ i) → k ≠ 280 → gi u' k i = gi u k i) ∧ ∀ k i, ¬ (k = 274 ∧ 84 ≤ i) → gl u' k i = gl u k i
def rnf (u u' : xM) : Prop := (∀ k i, ¬ (k = 272 ∧ ((12 ≤ i ∧ i ≤ 18 ∧ i ≠ 16) ∨ i = 21 ∨ i = 22)) → ¬ (k = 273 ∧ 2096 ≤ i) → k ≠ 280 → gi u' k i = gi u k i) ∧ ∀ k i, ¬ (k = 274 ∧ 84 ≤ i) → gl u' k i = gl u k i
def RNE (B : Nat → Nat) (n : Nat) (u0 : xM) (Q : xM → Prop) (k i : Nat) : Prop := ∀ u', RFT B n k i u' → rnf u0 u' → Q u'
/-- a line k of the reference, from cell b on -/
def RLX (b : Nat) (F : aS) (z : Prop) (k : Nat) (u : xM) : Prop := gi u 273 (b + 6 * k) = nI (kc (F 0 k)) ∧ (F 0 k = 0 ∨ F 0 k = 10 → gi u 273 (b + 6 * k + 1) = nI (F 2 k)) ∧ (thK (F 0 k) → gi u 273 (b + 6 * k + 1) = nI (F 1 k)) ∧ (F 0 k = 3 ∨ (7 ≤ F 0 k ∧ F 0 k ≤ 9) → gi u 273 (b + 6 * k + 2) = nI (F 2 k)) ∧ (7 ≤ F 0 k ∧ F 0 k ≤ 9 → gi u 273 (b + 6 * k + 5) = nI (sgc (F 0 k))) ∧ ((opK (F 0 k) ∧ z) ∨ F 0 k = 12 → gi u 273 (b + 6 * k + 4) = nI (F 3 k))
def RBG (stk : List Nat) (u : xM) : Prop := gi u 272 21 = nI stk.length ∧ ∀ j, j < stk.length → gi u 280 (stk.length - 1 - j) = nI (stk.getD j 0)
def RND (s : NS) (u : xM) : Prop := gi u 273 2100 = nI s.1 ∧ gi u 272 22 = nI s.2.1 ∧ RBG s.2.2.1 u ∧ ∀ k, k < s.1 → RLX 2256 s.2.2.2 (k ∉ s.2.2.1) k u
def NML (D : DR) (u : xM) : Prop := gi u 273 0 = nI (D.1 0 0) ∧ gi u 273 1 = nI (D.1 1 0) ∧ RNS 0 (D.1 0 0) (D.2 0) u ∧ RNS 7 (D.1 1 0) (D.2 1) u
/-- a line's cells alone -/
def ro (x : Nat) (u u' : xM) : Prop := (∀ k i, ¬ (k = 272 ∧ 12 ≤ i ∧ i ≤ 15) → ¬ (k = 273 ∧ x ≤ i ∧ i < x + 6) → gi u' k i = gi u k i) ∧ ∀ k i, gl u' k i = gl u k i
def zf (x : Nat) (u u' : xM) : Prop := (∀ k i, ¬ (k = 272 ∧ ((12 ≤ i ∧ i ≤ 15) ∨ i = 22)) → ¬ (k = 273 ∧ (i = 2100 ∨ (x ≤ i ∧ i < x + 6))) → gi u' k i = gi u k i) ∧ ∀ k i, gl u' k i = gl u k i
def RROW (x k t m : Nat) (u : xM) : Prop := gi u 273 x = nI (kc k) ∧ (k = 0 ∨ k = 10 → gi u 273 (x + 1) = nI m) ∧ (thK k → gi u 273 (x + 1) = nI t) ∧ (k = 3 ∨ (7 ≤ k ∧ k ≤ 9) → gi u 273 (x + 2) = nI m) ∧ (7 ≤ k ∧ k ≤ 9 → gi u 273 (x + 5) = nI (sgc k))
section NIGHTR
variable {B : Nat → Nat} {n : Nat} {u u' u0 : xM} {i : Nat} {D : DR} {s : NS} {op : Bool} {Q : Bool → xM → Prop} {x : Nat}
theorem rn.rf : rn u u := ⟨fun _ _ _ _ _ => rfl, fun _ _ _ => rfl⟩
theorem rn.tr {w : xM} (h : rn u u') (h' : rn u' w) : rn u w := ⟨fun k i a b c => (h'.1 k i a b c).trans (h.1 k i a b c), fun k i a => (h'.2 k i a).trans (h.2 k i a)⟩
theorem rn.rnf (h : rn u u') : rnf u u' := ⟨fun k i a b c => h.1 k i (by omega) b c, h.2⟩
theorem rnf.tr {w : xM} (h : rnf u u') (h' : rnf u' w) : rnf u w := ⟨fun k i a b c => (h'.1 k i a b c).trans (h.1 k i a b c), fun k i a => (h'.2 k i a).trans (h.2 k i a)⟩
theorem rgf.rnf (h : rgf u u') : rnf u u' := ⟨fun k i a b c => h.1 k i (by omega) b, h.2⟩
theorem rfr.rn (h : rfr u u') : rn u u' := ⟨fun k i a b c => h.1 k i (by omega), fun k i _ => h.2 k i⟩
theorem zf.rn (h : zf x u u') (hx : 2096 ≤ x) : rn u u' := ⟨fun k i a b c => h.1 k i (by omega) (by omega), fun k i _ => h.2 k i⟩
theorem ro.rn (h : ro x u u') (hx : 2096 ≤ x) : rn u u' := ⟨fun k i a b c => h.1 k i (by omega) (by omega), fun k i _ => h.2 k i⟩
theorem ro.rf : ro x u u := ⟨fun _ _ _ _ => rfl, fun _ _ => rfl⟩
theorem ro.tr {w : xM} (h : ro x u u') (h' : ro x u' w) : ro x u w := ⟨fun k i a b => (h'.1 k i a b).trans (h.1 k i a b), fun k i => (h'.2 k i).trans (h.2 k i)⟩
theorem rfr.ro (h : rfr u u') : ro x u u' := ⟨fun k i a b => h.1 k i a, h.2⟩
theorem ro.si {j : Nat} {v : Int32} (h : x ≤ j ∧ j < x + 6) : ro x u (si u 273 j v) := ⟨fun k i _ a => by rw [gi_si, if_neg (by omega)], fun _ _ => rfl⟩
theorem RNE.mv {k j : Nat} {P : xM → Prop} (h : RNE B n u0 P k j) (hf : rn u0 u) : RNE B n u P k j := fun u' a b => h u' a (hf.rnf.tr b)
theorem RNE.re {k j : Nat} {P : xM → Prop} (h : RNE B n u0 P k j) (hf : rn u0 u) : RE B n u P k j := fun u' a b => h u' a (hf.rnf.tr b.rnf)
theorem RC.bs (h : RC B n i u0 u) : RC B n i u u := ⟨h.1, h.2.1, h.2.2.1, rg.rf⟩
theorem RC.nb (h : RC B n i u0 u) (hg : ∀ j, 11 ≤ j → j ≤ 18 → gi u' 272 j = gi u 272 j) (ht : ∀ j, gi u' 279 j = gi u 279 j) : RC B n i u' u' := by
  obtain ⟨⟨a1, a2, a3, a4, a5, a6⟩, ⟨b1, b2, b3⟩, c, d⟩ := h
  exact ⟨⟨a1, (hg 12 (by omega) (by omega)).trans a2, (hg 13 (by omega) (by omega)).trans a3, (hg 14 (by omega) (by omega)).trans a4, fun z => (hg 15 (by omega) (by omega)).trans (a5 z), fun z => (hg 15 (by omega) (by omega)).trans (a6 z)⟩, ⟨(hg 11 (by omega) (by omega)).trans b1, b2, fun j hj => ⟨(ht j).trans (b3 j hj).1, (b3 j hj).2⟩⟩, (hg 18 (by omega) (by omega)).trans c, rg.rf⟩
theorem NML.cg (h : NML D u) (h0 : gi u' 273 0 = gi u 273 0) (h1 : gi u' 273 1 = gi u 273 1) (hS : okS D.1) (hl : ∀ j, j < 84 → gl u' 274 j = gl u 274 j) : NML D u' := by
  have c0 := hS.r
  have c1 := hS.d
  exact ⟨h0.trans h.1, h1.trans h.2.1, h.2.2.1.cg (fun j hj => hl _ (by omega)), h.2.2.2.cg (fun j hj => hl _ (by omega))⟩
theorem NML.rn (h : NML D u) (hS : okS D.1) (hf : rn u u') : NML D u' := h.cg (hf.1 273 0 (by omega) (by omega) (by omega)) (hf.1 273 1 (by omega) (by omega) (by omega)) hS (fun j hj => hf.2 274 j (by omega))
theorem NML.ro (h : NML D u) (hS : okS D.1) (hx : 2096 ≤ x) (hf : ro x u u') : NML D u' := h.rn hS (hf.rn hx)
theorem th_no {k : Nat} (h : k = 0 ∨ k = 4 ∨ 10 ≤ k) : ¬ thK k := by unfold thK; omega
theorem r_roomTo {c : Nat} (hc : 2096 ≤ c ∧ c < 3668) (hS : okS D.1) (hN : NML D u) (h : RC B n i u0 u) (hq : run (pOld B n (D.2 0) (D.1 0 0) i) (RE B n u0 (Q false)) (fun v => ∀ u', RC B n v.2 u0 u' → rfr (si u 273 c (nI v.1)) u' → Q true u')) : p_X11_roomTo (nI c) u Q := by
  have c0 := hS.r
  unfold p_X11_roomTo
  rw [show ((0 : Int32).toNatClampNeg) = 0 from by decide, hN.1]
  exact ⟨cIN (a := 0) (by omega) (by omega), r_oldOne (b := 0) hc (by omega) hN.2.2.1 h (run_mono hq (fun _ _ z => z) (fun v z u' a b _ => z u' a b))⟩
theorem r_doorTo {c : Nat} (hc : 2096 ≤ c ∧ c < 3668) (hS : okS D.1) (hN : NML D u) (h : RC B n i u0 u) (hq : run (pOld B n (D.2 1) (D.1 1 0) i) (RE B n u0 (Q false)) (fun v => ∀ u', RC B n v.2 u0 u' → rfr (si u 273 c (nI v.1)) u' → Q true u')) : p_X11_doorTo (nI c) u Q := by
  have c0 := hS.d
  unfold p_X11_doorTo
  rw [show ((1 : Int32).toNatClampNeg) = 1 from by decide, hN.2.1]
  exact ⟨cIN (a := 1) (by omega) (by omega), r_oldOne (b := 7) hc (by omega) hN.2.2.2 h (run_mono hq (fun _ _ z => z) (fun v z u' a b _ => z u' a b))⟩
theorem r_113 {c kd r j : Nat} (hx : 2256 ≤ x ∧ x + 5 < 3668) (h : RC B n j u0 u) (hs : sgT B n j c = true) (hc : c = sgc kd) (hk : 7 ≤ kd ∧ kd ≤ 9) (h0 : gi u 273 x = nI 2227) (h1 : gi u 273 (x + 1) = nI r) (hq : run (bnd (pNum B n 0 9999 (j + 1)) fun v => ok ((kd, r, v.1), v.2)) (RE B n u0 (Q false)) (fun (a : (Nat × Nat × Nat) × Nat) => ∀ u', RC B n a.2 u0 u' → ro x u u' → RROW x a.1.1 a.1.2.1 a.1.2.2 u' → Q true u')) : p_X11_test_L113 Q (nI x) u := by
  have h3 := sgT_3 hs
  have ev : gi u 272 15 = nI c := by rw [h.1.2.2.2.2.2 h3.1, h3.2]
  unfold p_X11_test_L113
  rw [pl5, pl2, cCL (by omega), ev]
  refine ⟨cIN (by omega) (by omega), fun u2 e2 => ?_⟩
  have h2 : RC B n j u0 u2 := by rw [e2]; exact h.si (by omega)
  refine r_go h2 (by omega) (by omega) (fun u3 k3 f3 => ?_)
  rw [run_bnd] at hq
  refine r_number (c := x + 2) (a := 0) (b := 9999) (by omega) (by omega) (by omega) k3 (run_mono hq (fun _ _ z => z) (fun v hq u5 k5 f5 => hq u5 k5 ?_ ⟨?_, ?_, ?_, ?_, ?_⟩))
  · have f2 : ro x u u2 := by rw [e2]; exact ro.si (by omega)
    exact ((f2.tr f3.ro).tr (ro.si (by omega))).tr f5.ro
  · show gi u5 273 x = nI (kc kd)
    have ek : kc kd = 2227 := by
      unfold kc
      rw [if_neg (by omega), if_neg (by omega), if_neg (by omega), if_pos (by omega)]
    rw [f5.1 273 x (by omega), gi_si, if_neg (by omega), f3.1 273 x (by omega), e2, gi_si, if_neg (by omega), h0, ek]
  · show kd = 0 ∨ kd = 10 → _
    exact fun y => absurd y (by omega)
  · intro _
    show gi u5 273 (x + 1) = nI r
    rw [f5.1 273 _ (by omega), gi_si, if_neg (by omega), f3.1 273 _ (by omega), e2, gi_si, if_neg (by omega), h1]
  · intro _
    show gi u5 273 (x + 2) = nI v.1
    rw [f5.1 273 _ (by omega), gi_at]
  · intro _
    show gi u5 273 (x + 5) = nI (sgc kd)
    rw [f5.1 273 _ (by omega), gi_si, if_neg (by omega), f3.1 273 _ (by omega), e2, gi_at, hc]
theorem r_test (hx : 2256 ≤ x ∧ x + 5 < 3668) (hS : okS D.1) (hN : NML D u) (h : RC B n i u0 u) (hq : run (pTest B n D i) (RE B n u0 (Q false)) (fun a => ∀ u', RC B n a.2 u0 u' → ro x u u' → RROW x a.1.1 a.1.2.1 a.1.2.2 u' → Q true u')) : p_X11_test (nI x) u Q := by
  unfold p_X11_test
  unfold pTest at hq
  have w26 : (eO (rwd B n i) = (26 : Int32)) = (wrd B n i = some 23) := rw_is (k := 26) (by omega)
  have w18 : (eO (rwd B n i) = (18 : Int32)) = (wrd B n i = some 18) := rw_is (k := 18) (by omega)
  have w27 : (eO (rwd B n i) = (27 : Int32)) = (wrd B n i = some 24) := rw_is (k := 27) (by omega)
  refine r_inWords h.2.1 h.1 ⟨fun z => ?_, fun z1 => ⟨fun z => ?_, fun z2 => ⟨fun z => ?_, fun z3 => ?_⟩⟩⟩
  · rw [z]
    rw [w26] at z
    rw [if_pos z, run_bnd] at hq
    have hk := wrd_1 z
    unfold p_X11_test_L31
    rw [cCL (by omega), show ((2200 : Int32) + (26 : Int32)) = nI 2226 from by decide, pl1]
    refine ⟨cIN (by omega) (by omega), fun u2 e2 => ?_⟩
    have h2 : RC B n i u0 u2 := by rw [e2]; exact h.si (by omega)
    refine r_go h2 (by omega) (by omega) (fun u3 k3 f3 => ⟨fun _ => ?_, fun y => absurd y (by decide)⟩)
    have f02 : ro x u u2 := by rw [e2]; exact ro.si (by omega)
    have f03 : ro x u u3 := f02.tr f3.ro
    refine r_roomTo (c := x + 1) (by omega) hS (hN.ro hS (by omega) f03) k3 (run_mono hq (fun k j hE u' a b => ⟨fun y => absurd y (by decide), fun _ => hE u' a b⟩) (fun v hq u5 k5 f5 => ⟨fun _ => ⟨fun y => absurd rfl y, fun _ => hq u5 k5 ?_ ⟨?_, ?_, ?_, ?_, ?_⟩⟩, fun y => absurd y (by decide)⟩))
    · exact (f03.tr (ro.si (by omega))).tr f5.ro
    · show gi u5 273 x = nI 2226
      rw [f5.1 273 _ (by omega), gi_si, if_neg (by omega), f3.1 273 _ (by omega), e2, gi_at]
    · exact fun y => absurd y (by simp)
    · intro _
      show gi u5 273 (x + 1) = nI v.1
      rw [f5.1 273 _ (by omega), gi_at]
    · exact fun y => absurd y (by simp)
    · exact fun y => absurd y (by simp)
  · rw [z]
    rw [w26] at z1
    rw [w18] at z
    rw [if_neg z1, if_pos z, run_bnd] at hq
    have hk := wrd_1 z
    unfold p_X11_test_L31
    rw [cCL (by omega), show ((2200 : Int32) + (18 : Int32)) = nI 2218 from by decide, pl1]
    refine ⟨cIN (by omega) (by omega), fun u2 e2 => ?_⟩
    have h2 : RC B n i u0 u2 := by rw [e2]; exact h.si (by omega)
    refine r_go h2 (by omega) (by omega) (fun u3 k3 f3 => ⟨fun y => absurd rfl y, fun _ => ?_⟩)
    have f02 : ro x u u2 := by rw [e2]; exact ro.si (by omega)
    have f03 : ro x u u3 := f02.tr f3.ro
    refine r_doorTo (c := x + 1) (by omega) hS (hN.ro hS (by omega) f03) k3 (run_mono hq (fun k j hE u' a b => hE u' a b) (fun v hq u5 k5 f5 => hq u5 k5 ?_ ⟨?_, ?_, ?_, ?_, ?_⟩))
    · exact (f03.tr (ro.si (by omega))).tr f5.ro
    · show gi u5 273 x = nI 2218
      rw [f5.1 273 _ (by omega), gi_si, if_neg (by omega), f3.1 273 _ (by omega), e2, gi_at]
    · exact fun y => absurd y (by simp)
    · intro _
      show gi u5 273 (x + 1) = nI v.1
      rw [f5.1 273 _ (by omega), gi_at]
    · exact fun y => absurd y (by simp)
    · exact fun y => absurd y (by simp)
  · rw [z]
    rw [w26] at z1
    rw [w18] at z2
    rw [w27] at z
    rw [if_neg z1, if_neg z2, if_pos z, run_bnd] at hq
    have hk := wrd_1 z
    unfold p_X11_test_L31
    rw [cCL (by omega), show ((2200 : Int32) + (27 : Int32)) = nI 2227 from by decide, pl1]
    refine ⟨cIN (by omega) (by omega), fun u2 e2 => ?_⟩
    have h2 : RC B n i u0 u2 := by rw [e2]; exact h.si (by omega)
    refine r_go h2 (by omega) (by omega) (fun u3 k3 f3 => ⟨fun _ => ?_, fun y => absurd y (by decide)⟩)
    have f02 : ro x u u2 := by rw [e2]; exact ro.si (by omega)
    have f03 : ro x u u3 := f02.tr f3.ro
    refine r_roomTo (c := x + 1) (by omega) hS (hN.ro hS (by omega) f03) k3 (run_mono hq (fun k j hE u' a b => ⟨fun y => absurd y (by decide), fun _ => hE u' a b⟩) (fun v hq u5 k5 f5 => ⟨fun _ => ⟨fun _ => ?_, fun y => absurd y (by decide)⟩, fun y => absurd y (by decide)⟩))
    have f05 : ro x u u5 := (f03.tr (ro.si (by omega))).tr f5.ro
    have g0 : gi u5 273 x = nI 2227 := by rw [f5.1 273 _ (by omega), gi_si, if_neg (by omega), f3.1 273 _ (by omega), e2, gi_at]
    have g1 : gi u5 273 (x + 1) = nI v.1 := by rw [f5.1 273 _ (by omega), gi_at]
    unfold pDep at hq
    refine r_isSign (c := 60) (by omega) k5 ⟨fun y => ?_, fun y1 => r_isSign (c := 62) (by omega) k5 ⟨fun y => ?_, fun y2 => r_isSign (c := 61) (by omega) k5 ⟨fun y => ?_, fun y3 => ?_⟩⟩⟩
    · rw [if_pos y] at hq
      exact r_113 (kd := 7) hx k5 y rfl (by omega) g0 g1 (run_mono hq (fun _ _ z => z) (fun a hq u' p q r => hq u' p (f05.tr q) r))
    · rw [if_neg (by rw [y1]; decide), if_pos y] at hq
      exact r_113 (kd := 8) hx k5 y rfl (by omega) g0 g1 (run_mono hq (fun _ _ z => z) (fun a hq u' p q r => hq u' p (f05.tr q) r))
    · rw [if_neg (by rw [y1]; decide), if_neg (by rw [y2]; decide), if_pos y] at hq
      exact r_113 (kd := 9) hx k5 y rfl (by omega) g0 g1 (run_mono hq (fun _ _ z => z) (fun a hq u' p q r => hq u' p (f05.tr q) r))
    · rw [if_neg (by rw [y1]; decide), if_neg (by rw [y2]; decide), if_neg (by rw [y3]; decide)] at hq
      exact r_errs (k := 2) k5 hq
  · rw [w26] at z1
    rw [w18] at z2
    rw [w27] at z3
    rw [if_neg z1, if_neg z2, if_neg z3] at hq
    exact r_errs (k := 2) h hq
theorem bgk : ∀ k, k < 28 → (decide (some (ko k) = some 17) || (decide (some (ko k) = some 18) || (decide (some (ko k) = some 19) || (decide (some (ko k) = some 20) || (decide (some (ko k) = some 21) || (decide (some (ko k) = some 22) || (decide (some (ko k) = some 25) || decide (some (ko k) = some 27)))))))) = decide (17 ≤ k ∧ k ≤ 25 ∧ k ≠ 24) ∧ (decide (some (ko k) = some 22) || decide (some (ko k) = some 25)) = decide (k = 22 ∨ k = 23) := by decide +kernel
theorem bgW_k {k : Nat} (e : rwd B n i = some k) : bgW B n i = decide (17 ≤ k ∧ k ≤ 25 ∧ k ≠ 24) ∧ opW B n i = decide (k = 22 ∨ k = 23) := by
  have hk := rwd_lt e
  have h := bgk k hk
  rw [rwd_is hk] at e
  unfold bgW opW
  rw [e]
  exact h
theorem r_order {k : Nat} (hx : 2256 ≤ x ∧ x + 5 < 3668) (hS : okS D.1) (hN : NML D u) (e : rwd B n i = some k) (hb : bgW B n i = true) (h : RC B n (i + 1) u0 u) (hv : gi u 273 x = nI k) (hq : run (pOrd B n D i) (RE B n u0 (Q false)) (fun a => ∀ u', RC B n a.2 u0 u' → ro x u u' → RROW x a.1.1 a.1.2.1 a.1.2.2 u' → Q true u')) : p_X11_nightOrder (nI k) (nI x) u Q := by
  have hk := rwd_lt e
  have hw : ∀ j, j < 28 → (wrd B n i = some (ko j)) = (k = j) := fun j hj => by rw [← rwd_is hj, e]; simp
  have w17 : (wrd B n i = some 17) = (k = 17) := hw 17 (by omega)
  have w18 : (wrd B n i = some 18) = (k = 18) := hw 18 (by omega)
  have w19 : (wrd B n i = some 19) = (k = 19) := hw 19 (by omega)
  have w20 : (wrd B n i = some 20) = (k = 20) := hw 20 (by omega)
  have w21 : (wrd B n i = some 21) = (k = 21) := hw 21 (by omega)
  have w22 : (wrd B n i = some 22) = (k = 22) := hw 22 (by omega)
  have w23 : (wrd B n i = some 25) = (k = 23) := hw 23 (by omega)
  have hb2 := (bgW_k e).1
  rw [hb] at hb2
  have hb3 := of_decide_eq_true hb2.symm
  unfold p_X11_nightOrder
  unfold pOrd at hq
  rw [show (nI k = 17) = (k = 17) from cEQ (b := 17) (by omega) (by omega), show (nI k = 18) = (k = 18) from cEQ (b := 18) (by omega) (by omega), show (nI k = 19) = (k = 19) from cEQ (b := 19) (by omega) (by omega), show (nI k = 20) = (k = 20) from cEQ (b := 20) (by omega) (by omega), show (nI k = 21) = (k = 21) from cEQ (b := 21) (by omega) (by omega), show (nI k = 22) = (k = 22) from cEQ (b := 22) (by omega) (by omega), show (nI k = 23) = (k = 23) from cEQ (b := 23) (by omega) (by omega), pl1, pl2]
  refine ⟨fun z => ?_, fun z => ?_, fun z => ?_, fun z => ?_, fun z => ?_, fun z => ?_, fun z => ?_, fun z1 z2 z3 z4 z5 z6 z7 => ?_⟩
  · subst z
    rw [if_pos (by rw [w17]), run_bnd] at hq
    refine r_number (c := x + 1) (a := 1) (b := 12) (by omega) (by omega) (by omega) h (run_mono hq (fun _ _ z => z) (fun v hq u5 k5 f5 => hq u5 k5 ((ro.si (by omega)).tr f5.ro) ⟨?_, fun _ => ?_, fun y => absurd y (th_no (by simp)), fun y => absurd y (by simp), fun y => absurd y (by simp)⟩))
    · rw [f5.1 273 _ (by omega), gi_si, if_neg (by omega), hv]; rfl
    · rw [f5.1 273 _ (by omega), gi_at]
  · subst z
    rw [if_neg (by rw [w17]; decide), if_pos (by rw [w18]), run_bnd] at hq
    refine r_doorTo (c := x + 1) (by omega) hS hN h (run_mono hq (fun _ _ z => z) (fun v hq u5 k5 f5 => hq u5 k5 ((ro.si (by omega)).tr f5.ro) ⟨?_, fun y => absurd y (by simp), fun _ => ?_, fun y => absurd y (by simp), fun y => absurd y (by simp)⟩))
    · rw [f5.1 273 _ (by omega), gi_si, if_neg (by omega), hv]; rfl
    · rw [f5.1 273 _ (by omega), gi_at]
  · subst z
    rw [if_neg (by rw [w17]; decide), if_neg (by rw [w18]; decide), if_pos (by rw [w19]), run_bnd] at hq
    refine r_doorTo (c := x + 1) (by omega) hS hN h (run_mono hq (fun _ _ z => z) (fun v hq u5 k5 f5 => hq u5 k5 ((ro.si (by omega)).tr f5.ro) ⟨?_, fun y => absurd y (by simp), fun _ => ?_, fun y => absurd y (by simp), fun y => absurd y (by simp)⟩))
    · rw [f5.1 273 _ (by omega), gi_si, if_neg (by omega), hv]; rfl
    · rw [f5.1 273 _ (by omega), gi_at]
  · subst z
    rw [if_neg (by rw [w17]; decide), if_neg (by rw [w18]; decide), if_neg (by rw [w19]; decide), if_pos (by rw [w20]), run_bnd] at hq
    refine r_roomTo (c := x + 1) (by omega) hS hN h (run_mono hq (fun k j hE u' a b => ⟨fun _ => hE u' a b, fun y => absurd y (by simp)⟩) (fun r hq u5 k5 f5 => ⟨fun y => absurd y (by simp), fun _ => ?_⟩))
    rw [run_bnd] at hq
    refine r_number (c := x + 2) (a := 1) (b := 999) (by omega) (by omega) (by omega) k5 (run_mono hq (fun k j hE u' a b => ⟨fun _ => hE u' a b, fun y => absurd y (by simp)⟩) (fun v hq u6 k6 f6 => ⟨fun y => absurd y (by simp), fun _ => hq u6 k6 ((((ro.si (by omega)).tr f5.ro).tr (ro.si (by omega))).tr f6.ro) ⟨?_, fun y => absurd y (by simp), fun _ => ?_, fun _ => ?_, fun y => absurd y (by simp)⟩⟩))
    · rw [f6.1 273 _ (by omega), gi_si, if_neg (by omega), f5.1 273 _ (by omega), gi_si, if_neg (by omega), hv]; rfl
    · show gi u6 273 (x + 1) = nI r.1
      rw [f6.1 273 _ (by omega), gi_si, if_neg (by omega), f5.1 273 _ (by omega), gi_at]
    · show gi u6 273 (x + 2) = nI v.1
      rw [f6.1 273 _ (by omega), gi_at]
  · subst z
    rw [if_neg (by rw [w17]; decide), if_neg (by rw [w18]; decide), if_neg (by rw [w19]; decide), if_neg (by rw [w20]; decide), if_pos (by rw [w21])] at hq
    exact hq u h ro.rf ⟨by rw [hv]; rfl, fun y => absurd y (by simp), fun y => absurd y (th_no (by simp)), fun y => absurd y (by simp), fun y => absurd y (by simp)⟩
  · subst z
    rw [if_neg (by rw [w17]; decide), if_neg (by rw [w18]; decide), if_neg (by rw [w19]; decide), if_neg (by rw [w20]; decide), if_neg (by rw [w21]; decide), if_pos (by rw [w22])] at hq
    exact r_test hx hS hN h hq
  · subst z
    rw [if_neg (by rw [w17]; decide), if_neg (by rw [w18]; decide), if_neg (by rw [w19]; decide), if_neg (by rw [w20]; decide), if_neg (by rw [w21]; decide), if_neg (by rw [w22]; decide), if_pos (by rw [w23]), run_bnd] at hq
    refine r_number (c := x + 1) (a := 1) (b := 99) (by omega) (by omega) (by omega) h (run_mono hq (fun _ _ z => z) (fun v hq u5 k5 f5 => hq u5 k5 ((ro.si (by omega)).tr f5.ro) ⟨?_, fun _ => ?_, fun y => absurd y (th_no (by simp)), fun y => absurd y (by simp), fun y => absurd y (by simp)⟩))
    · rw [f5.1 273 _ (by omega), gi_si, if_neg (by omega), hv]; rfl
    · rw [f5.1 273 _ (by omega), gi_at]
  · have ek : k = 25 := by omega
    rw [if_neg (by rw [w17]; exact z1), if_neg (by rw [w18]; exact z2), if_neg (by rw [w19]; exact z3), if_neg (by rw [w20]; exact z4), if_neg (by rw [w21]; exact z5), if_neg (by rw [w22]; exact z6), if_neg (by rw [w23]; exact z7)] at hq
    exact hq u h ro.rf ⟨by rw [hv, ek]; rfl, fun y => absurd y (by simp), fun y => absurd y (th_no (by simp)), fun y => absurd y (by simp), fun y => absurd y (by simp)⟩
end NIGHTR
