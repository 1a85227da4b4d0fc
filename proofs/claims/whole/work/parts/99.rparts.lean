/-! ===== the reference reads parts of a LAND ===== -/
section RPARTS
variable {B : Nat → Nat} {n : Nat} {u u' u0 : xM} {i : Nat} {D : DR} {Q : Bool → xM → Prop}
theorem pl1 (a : Nat) : nI a + (1 : Int32) = nI (a + 1) := cA a 1
theorem pl2 (a : Nat) : nI a + (2 : Int32) = nI (a + 2) := cA a 2
theorem pl3 (a : Nat) : nI a + (3 : Int32) = nI (a + 3) := cA a 3
theorem pl4 (a : Nat) : nI a + (4 : Int32) = nI (a + 4) := cA a 4
theorem pl5 (a : Nat) : nI a + (5 : Int32) = nI (a + 5) := cA a 5
theorem run_ifb {X Y : Type} {c : Prop} [Decidable c] {e : EX Y} {k i : Nat} {x : EX X} {f : X → EX Y} {E : Nat → Nat → Prop} {K : Y → Prop} (he : e = er k i) (h : run (if c then e else bnd x f) E K) : run (if c then er k i else x) E (fun a => run (f a) E K) := by
  subst he
  by_cases z : c
  · rw [if_pos z] at h ⊢; exact h
  · rw [if_neg z] at h ⊢
    rw [run_bnd] at h
    exact h
theorem addR_c {l : List Nat} {f ar be wa c : Nat} (hc : D.1 0 0 = c) : sU (sU (sU (sU (sU (sU (sU D.1 4 c f) 5 c 1) 6 c 10) 5 c ar) 6 c be) 8 c wa) 0 0 (c + 1) = (addR D l f ar be wa).1 := by
  subst hc
  funext x y
  show _ = sU (sU (sU (sU (sU D.1 4 (D.1 0 0) f) 5 (D.1 0 0) ar) 6 (D.1 0 0) be) 8 (D.1 0 0) wa) 0 0 (D.1 0 0 + 1) x y
  simp only [sU_at]
  repeat' split
  all_goals first | rfl | omega
theorem addD_c {l : List Nat} {a b s w lk c : Nat} (hc : D.1 1 0 = c) : sU (sU (sU (sU (sU (sU (sU D.1 10 c a) 11 c b) 12 c s) 13 c 1) 13 c w) 14 c lk) 1 0 (c + 1) = (addD D l a b s w lk).1 := by
  subst hc
  funext x y
  show _ = sU (sU (sU (sU (sU (sU D.1 10 (D.1 1 0) a) 11 (D.1 1 0) b) 12 (D.1 1 0) s) 13 (D.1 1 0) w) 14 (D.1 1 0) lk) 1 0 (D.1 1 0 + 1) x y
  simp only [sU_at]
  repeat' split
  all_goals first | rfl | omega
theorem r_aRoom (hD : okD D) (hP : RW D u) (h1 : tK B n (pS B n i) = 1) (h : RC B n i u0 u) (hq : run (pRoom B n D i) (RE B n u0 (Q false)) (fun a => ∀ u', RC B n a.2 u0 u' → RW a.1 u' → Q true u')) : p_X11_aRoom u Q := by
  have c0 := hD.1.r
  have c1 := hD.1.d
  have c2 := hD.1.e
  have hz := hD.2.2.1
  have hcell : gi u 273 2096 = nI (D.1 0 0) := hP.cnt (s := 0) (by omega)
  unfold p_X11_aRoom
  rw [show ((2096 : Int32).toNatClampNeg) = 2096 from by decide, hcell]
  refine ⟨cIN (a := 2096) (by omega) (by omega), fun x2 e2 => ?_⟩
  have e2 : x2 = nI (2102 + 7 * D.1 0 0) := by rw [e2, show ((2102 : Int32)) = nI 2102 from rfl, l_7, cM, cA]
  subst e2
  unfold pRoom at hq
  refine r_newOne (s := 0) (most := 7) (off := 0) (by omega) (by omega) c0 (by omega) hD.1 hP h1 h (fun w l hm hl hR => hR.put0 hl (by omega)) (run_mono (run_ifb rfl hq) (fun k i hE u' a b => ⟨fun _ => hE u' a b, fun z => absurd z (by decide)⟩) (fun i3 hq3 u3 hlt h3 p3 => ⟨fun z => absurd z (by decide), fun _ => ?_⟩))
  rw [run_bnd] at hq3
  refine r_wantWord (k := 6) (w := 1) (by omega) rfl h3 (run_mono hq3 (fun k i hE u' a b => ⟨fun _ => hE u' a b, fun z => absurd z (by decide)⟩) (fun i4 hq4 u4 h4 f4 => ⟨fun z => absurd z (by decide), fun _ => ?_⟩))
  have p4 := p3.fr f4
  rw [run_bnd] at hq4
  refine r_number (a := 0) (b := 99) (by omega) (by omega) (by omega) h4 (run_mono hq4 (fun k i hE u' a b => ⟨fun z => absurd z (by decide), fun _ => hE u' a b⟩) (fun f hq5 u5 h5 f5 => ⟨fun _ => ?_, fun z => absurd z (by decide)⟩))
  generalize hcc : D.1 0 0 = c at *
  generalize hll : nmT B n (i + 1) = l at *
  have e0 : ∀ f ar be wa, (addR D l f ar be wa).1 0 0 = c + 1 := fun f ar be wa => by simp [addR, sU_at, hcc]
  have e1 : ∀ f ar be wa, (addR D l f ar be wa).1 1 0 = D.1 1 0 := fun f ar be wa => by simp [addR, sU_at]
  have e2 : ∀ f ar be wa, (addR D l f ar be wa).1 2 0 = D.1 2 0 := fun f ar be wa => by simp [addR, sU_at]
  have eN : ∀ f ar be wa, (addR D l f ar be wa).2 = nU D.2 0 c l := fun f ar be wa => by simp [addR, hcc]
  have fin : ∀ f ar be wa j w, RC B n j u0 w → PS (sU (sU (sU (sU (sU (sU D.1 4 c f) 5 c 1) 6 c 10) 5 c ar) 6 c be) 8 c wa) (nU D.2 0 c l) (c + 1) (D.1 1 0) (D.1 2 0) w → (∀ u', RC B n j u0 u' → RW (addR D l f ar be wa) u' → Q true u') → p_X11_aRoom_L139 Q w := fun f ar be wa j w hw pw hq => by
    unfold p_X11_aRoom_L139
    have hcw : gi w 273 2096 = nI c := by
      have := pw.cnt (s := 0) (by omega)
      rw [show sU (sU (sU (sU (sU (sU D.1 4 c f) 5 c 1) 6 c 10) 5 c ar) 6 c be) 8 c wa 0 0 = c by simp [sU_at, hcc]] at this
      exact this
    rw [show ((2096 : Int32).toNatClampNeg) = 2096 from by decide, hcw, pl1]
    refine ⟨cIN (a := 2096) (by omega) (by omega), cIN (a := 2096) (by omega) (by omega), fun u3 e3 => hq u3 (by rw [e3]; exact hw.si (by omega)) ?_⟩
    have := PS.put (f := 0) (i := 0) (v := c + 1) (k := 2096) (x := nI (c + 1)) pw (by omega) (by omega) (by decide) rfl rfl rfr.rf
    rw [addR_c (l := l) hcc] at this
    unfold RW
    rw [e0, e1, e2, eN, e3]
    exact this
  have L114 : ∀ f ar be j w, RC B n j u0 w → PS (sU (sU (sU (sU (sU D.1 4 c f) 5 c 1) 6 c 10) 5 c ar) 6 c be) (nU D.2 0 c l) (c + 1) (D.1 1 0) (D.1 2 0) w → run (bnd (pNumB B n 4 0 999 0 j) fun wa => ok (addR D l f ar be wa.1, wa.2)) (RE B n u0 (Q false)) (fun a => ∀ u', RC B n a.2 u0 u' → RW a.1 u' → Q true u') → p_X11_aRoom_L114 Q (nI (2102 + 7 * c)) w := fun f ar be j w hw pw hq => by
    unfold p_X11_aRoom_L114
    rw [run_bnd] at hq
    unfold pNumB at hq
    rw [pl4]
    refine r_isThere (k := 9) (w := 4) (by omega) rfl hw (fun z u1 hu1 fu1 => ⟨fun y => absurd y (by decide), fun _ => ?_⟩) (fun z => ⟨fun _ => ?_, fun y => absurd y (by decide)⟩)
    · rw [if_pos z] at hq
      refine r_number (a := 0) (b := 999) (by omega) (by omega) (by omega) hu1 (run_mono hq (fun k i hE u' a b => ⟨fun y => absurd y (by decide), fun _ => hE u' a b⟩) (fun v hq u2 h2 f2 => ⟨fun _ => ?_, fun y => absurd y (by decide)⟩))
      exact fin f ar be v.1 v.2 u2 h2 ((pw.fr fu1).put (f := 8) (i := c) (v := v.1) (by omega) (by omega) (by show c < 7; omega) (by show _ = 2096 + (10 + 7 * c); omega) (by simp [rv, sU_at]) f2) hq
    · rw [if_neg z] at hq
      refine fin f ar be 0 j w hw ?_ hq
      rw [sU_self (by simp only [sU_at]; rw [if_neg (by omega), if_neg (by omega), if_neg (by omega), if_neg (by omega), if_neg (by omega)]; exact (hz c (by omega)).2)]
      exact pw
  have L92 : ∀ f ar j w, RC B n j u0 w → PS (sU (sU (sU (sU D.1 4 c f) 5 c 1) 6 c 10) 5 c ar) (nU D.2 0 c l) (c + 1) (D.1 1 0) (D.1 2 0) w → run (bnd (pNumB B n 3 1 99 10 j) fun be => bnd (pNumB B n 4 0 999 0 be.2) fun wa => ok (addR D l f ar be.1 wa.1, wa.2)) (RE B n u0 (Q false)) (fun a => ∀ u', RC B n a.2 u0 u' → RW a.1 u' → Q true u') → p_X11_aRoom_L92 Q (nI (2102 + 7 * c)) w := fun f ar j w hw pw hq => by
    unfold p_X11_aRoom_L92
    rw [run_bnd] at hq
    unfold pNumB at hq
    rw [pl2]
    refine r_isThere (k := 8) (w := 3) (by omega) rfl hw (fun z u1 hu1 fu1 => ⟨fun y => absurd y (by decide), fun _ => ?_⟩) (fun z => ⟨fun _ => ?_, fun y => absurd y (by decide)⟩)
    · rw [if_pos z] at hq
      refine r_number (a := 1) (b := 99) (by omega) (by omega) (by omega) hu1 (run_mono hq (fun k i hE u' a b => ⟨fun _ => hE u' a b, fun y => absurd y (by decide)⟩) (fun v hq u2 h2 f2 => ⟨fun y => absurd y (by decide), fun _ => ?_⟩))
      exact L114 f ar v.1 v.2 u2 h2 ((pw.fr fu1).put (f := 6) (i := c) (v := v.1) (by omega) (by omega) (by show c < 7; omega) (by show _ = 2096 + (8 + 7 * c); omega) (by simp [rv, sU_at]) f2) hq
    · rw [if_neg z] at hq
      refine L114 f ar 10 j w hw ?_ hq
      rw [sU_self (by simp [sU_at])]
      exact pw
  have p5 := p4.put (f := 4) (i := c) (v := f.1) (by omega) (by omega) (by show c < 7; omega) (by show _ = 2096 + (6 + 7 * c); omega) (by simp [rv, sU_at]) f5
  rw [pl1, pl2, cCL (by omega), cCL (by omega)]
  refine ⟨cIN (by omega) (by omega), fun u13 e13 => ⟨cIN (by omega) (by omega), fun u15 e15 => ?_⟩⟩
  have p13 := p5.put (u' := u13) (f := 5) (i := c) (v := 1) (k := 2102 + 7 * c + 1) (x := 1) (by omega) (by omega) (by show c < 7; omega) (by show _ = 2096 + (7 + 7 * c); omega) (by simp [rv, sU_at]; rfl) (by rw [e13]; exact rfr.rf)
  have p15 := p13.put (u' := u15) (f := 6) (i := c) (v := 10) (k := 2102 + 7 * c + 2) (x := 10) (by omega) (by omega) (by show c < 7; omega) (by show _ = 2096 + (8 + 7 * c); omega) (by simp [rv, sU_at]; rfl) (by rw [e15]; exact rfr.rf)
  have h15 : RC B n f.2 u0 u15 := by
    rw [e15, e13]
    exact (h5.si (by omega)).si (by omega)
  rw [run_bnd] at hq5
  unfold pNumB at hq5
  refine r_isThere (k := 7) (w := 2) (by omega) rfl h15 (fun z u1 hu1 fu1 => ⟨fun y => absurd y (by decide), fun _ => ?_⟩) (fun z => ⟨fun _ => ?_, fun y => absurd y (by decide)⟩)
  · rw [if_pos z] at hq5
    refine r_number (a := 1) (b := 20) (by omega) (by omega) (by omega) hu1 (run_mono hq5 (fun k i hE u' a b => ⟨fun _ => hE u' a b, fun y => absurd y (by decide)⟩) (fun v hq u2 h2 f2 => ⟨fun y => absurd y (by decide), fun _ => ?_⟩))
    exact L92 f.1 v.1 v.2 u2 h2 ((p15.fr fu1).put (f := 5) (i := c) (v := v.1) (by omega) (by omega) (by show c < 7; omega) (by show _ = 2096 + (7 + 7 * c); omega) (by simp [rv, sU_at]) f2) hq
  · rw [if_neg z] at hq5
    refine L92 f.1 1 f.2 u15 h15 ?_ hq5
    rw [sU_self (f := 5) (i := c) (v := 1) (by simp [sU_at])]
    exact p15
theorem PS.g {τ : aS} {nm : Nat → Nat → List Nat} {a b c f j k : Nat} (h : PS τ nm a b c u) (hf : f < 23) (hj : j < rkM f) (hk : k = 2096 + rk f j) : gi u 273 k = rv τ f j := by
  subst hk
  exact h.1.2 f hf j hj
theorem r_aDoor (hD : okD D) (hP : RW D u) (h1 : tK B n (pS B n i) = 1) (h : RC B n i u0 u) (hq : run (pDoor B n D i) (RE B n u0 (Q false)) (fun a => ∀ u', RC B n a.2 u0 u' → RW a.1 u' → Q true u')) : p_X11_aDoor u Q := by
  have c0 := hD.1.r
  have c1 := hD.1.d
  have c2 := hD.1.e
  have hz := hD.2.2.2.2.1
  have hcell : gi u 273 2097 = nI (D.1 1 0) := hP.cnt (s := 1) (by omega)
  unfold p_X11_aDoor
  rw [show ((2097 : Int32).toNatClampNeg) = 2097 from by decide, hcell]
  refine ⟨cIN (a := 2097) (by omega) (by omega), fun x2 e2 => ?_⟩
  have e2 : x2 = nI (2151 + 8 * D.1 1 0) := by rw [e2, show ((2151 : Int32)) = nI 2151 from rfl, l_8, cM, cA]
  subst e2
  unfold pDoor at hq
  refine r_newOne (s := 1) (most := 10) (off := 7) (by omega) (by omega) c1 (by omega) hD.1 hP h1 h (fun w l hm hl hR => hR.put1 hl c0 (by omega)) (run_mono (run_ifb rfl hq) (fun k i hE u' a b => ⟨fun _ => hE u' a b, fun z => absurd z (by decide)⟩) (fun i3 hq3 u3 hlt h3 p3 => ⟨fun z => absurd z (by decide), fun _ => ?_⟩))
  rw [run_bnd] at hq3
  refine r_wantWord (k := 10) (w := 6) (by omega) rfl h3 (run_mono hq3 (fun k i hE u' a b => ⟨fun _ => hE u' a b, fun z => absurd z (by decide)⟩) (fun i4 hq4 u4 h4 f4 => ⟨fun z => absurd z (by decide), fun _ => ?_⟩))
  have p4 := p3.fr f4
  have n0 : ∀ j, j < D.1 0 0 → nU D.2 1 (D.1 1 0) (nmT B n (i + 1)) 0 j = D.2 0 j := fun j _ => by unfold nU; rw [if_neg (by omega)]
  have rns : ∀ {τ : aS} {w : xM}, PS τ (nU D.2 1 (D.1 1 0) (nmT B n (i + 1))) (D.1 0 0) (D.1 1 0 + 1) (D.1 2 0) w → RNS 84 (D.1 0 0) (D.2 0) w := fun pw j hj => by
    have := pw.2.1 j hj
    rw [n0 j hj] at this
    exact this
  have g0 : ∀ {τ : aS} {w : xM}, PS τ (nU D.2 1 (D.1 1 0) (nmT B n (i + 1))) (D.1 0 0) (D.1 1 0 + 1) (D.1 2 0) w → τ 0 0 = D.1 0 0 → gi w 273 2096 = nI (D.1 0 0) := fun pw e => by
    have := pw.cnt (s := 0) (by omega)
    rw [e] at this
    exact this
  rw [run_bnd] at hq4
  refine r_endTo (by omega) c0 (g0 p4 rfl) (rns p4) h4 (run_mono hq4 (fun k i hE u' a b => ⟨fun _ => hE u' a b, fun z => absurd z (by decide)⟩) (fun e hq5 u5 h5 f5 he => ⟨fun z => absurd z (by decide), fun _ => ?_⟩))
  have p5 := p4.put (f := 10) (i := D.1 1 0) (v := e.1) (by omega) (by omega) (by show _ < 10; omega) (by show _ = 2096 + (55 + 8 * _); omega) (by simp [rv, sU_at]) f5
  rw [run_bnd] at hq5
  refine r_wantWord (k := 11) (w := 7) (by omega) rfl h5 (run_mono hq5 (fun k i hE u' a b => ⟨fun z => absurd z (by decide), fun _ => hE u' a b⟩) (fun i6 hq6 u6 h6 f6 => ⟨fun _ => ?_, fun z => absurd z (by decide)⟩))
  have p6 := p5.fr f6
  have gx : gi u6 273 (2151 + 8 * D.1 1 0) = eR e.1 := by
    rw [p6.g (f := 10) (j := D.1 1 0) (by omega) (by show _ < 10; omega) (by show _ = 2096 + (55 + 8 * _); omega)]
    simp [rv, sU_at]
  rw [cCL (by omega)]
  refine ⟨cIN (by omega) (by omega), ?_⟩
  rw [run_bnd, pEnd_same c0] at hq6
  have e0 : ∀ a b s w lk, (addD D (nmT B n (i + 1)) a b s w lk).1 0 0 = D.1 0 0 := fun a b s w lk => by simp [addD, sU_at]
  have e1 : ∀ a b s w lk, (addD D (nmT B n (i + 1)) a b s w lk).1 1 0 = D.1 1 0 + 1 := fun a b s w lk => by simp [addD, sU_at]
  have e2 : ∀ a b s w lk, (addD D (nmT B n (i + 1)) a b s w lk).1 2 0 = D.1 2 0 := fun a b s w lk => by simp [addD, sU_at]
  have eN : ∀ a b s w lk, (addD D (nmT B n (i + 1)) a b s w lk).2 = nU D.2 1 (D.1 1 0) (nmT B n (i + 1)) := fun a b s w lk => by simp [addD]
  have fin : ∀ b s wi lk j w, RC B n j u0 w → PS (sU (sU (sU (sU (sU (sU D.1 10 (D.1 1 0) e.1) 11 (D.1 1 0) b) 12 (D.1 1 0) s) 13 (D.1 1 0) 1) 13 (D.1 1 0) wi) 14 (D.1 1 0) lk) (nU D.2 1 (D.1 1 0) (nmT B n (i + 1))) (D.1 0 0) (D.1 1 0 + 1) (D.1 2 0) w → (∀ u', RC B n j u0 u' → RW (addD D (nmT B n (i + 1)) e.1 b s wi lk) u' → Q true u') → p_X11_aDoor_L228 Q w := fun b s wi lk j w hw pw hq => by
    unfold p_X11_aDoor_L228
    have hcw : gi w 273 2097 = nI (D.1 1 0) := by
      have := pw.cnt (s := 1) (by omega)
      rw [show sU (sU (sU (sU (sU (sU D.1 10 (D.1 1 0) e.1) 11 (D.1 1 0) b) 12 (D.1 1 0) s) 13 (D.1 1 0) 1) 13 (D.1 1 0) wi) 14 (D.1 1 0) lk 1 0 = D.1 1 0 by simp [sU_at]] at this
      exact this
    rw [show ((2097 : Int32).toNatClampNeg) = 2097 from by decide, hcw, pl1]
    refine ⟨cIN (a := 2097) (by omega) (by omega), cIN (a := 2097) (by omega) (by omega), fun u3 e3 => hq u3 (by rw [e3]; exact hw.si (by omega)) ?_⟩
    have := PS.put (f := 1) (i := 0) (v := D.1 1 0 + 1) (k := 2097) (x := nI (D.1 1 0 + 1)) pw (by omega) (by omega) (by decide) rfl rfl rfr.rf
    rw [addD_c (l := nmT B n (i + 1)) rfl] at this
    unfold RW
    rw [e0, e1, e2, eN, e3]
    exact this
  have L204 : ∀ b s wi j w, RC B n j u0 w → PS (sU (sU (sU (sU (sU D.1 10 (D.1 1 0) e.1) 11 (D.1 1 0) b) 12 (D.1 1 0) s) 13 (D.1 1 0) 1) 13 (D.1 1 0) wi) (nU D.2 1 (D.1 1 0) (nmT B n (i + 1))) (D.1 0 0) (D.1 1 0 + 1) (D.1 2 0) w → run (bnd (pNumB B n 10 0 9 0 j) fun lk => ok (addD D (nmT B n (i + 1)) e.1 b s wi lk.1, lk.2)) (RE B n u0 (Q false)) (fun a => ∀ u', RC B n a.2 u0 u' → RW a.1 u' → Q true u') → p_X11_aDoor_L204 Q (nI (2151 + 8 * D.1 1 0)) w := fun b s wi j w hw pw hq => by
    unfold p_X11_aDoor_L204
    rw [run_bnd] at hq
    unfold pNumB at hq
    rw [pl4]
    refine r_isThere (k := 14) (w := 10) (by omega) rfl hw (fun z u1 hu1 fu1 => ⟨fun y => absurd y (by decide), fun _ => ?_⟩) (fun z => ⟨fun _ => ?_, fun y => absurd y (by decide)⟩)
    · rw [if_pos z] at hq
      refine r_number (a := 0) (b := 9) (by omega) (by omega) (by omega) hu1 (run_mono hq (fun k i hE u' a b => ⟨fun y => absurd y (by decide), fun _ => hE u' a b⟩) (fun v hq u2 h2 f2 => ⟨fun _ => ?_, fun y => absurd y (by decide)⟩))
      exact fin b s wi v.1 v.2 u2 h2 ((pw.fr fu1).put (f := 14) (i := D.1 1 0) (v := v.1) (by omega) (by omega) (by show _ < 10; omega) (by show _ = 2096 + (59 + 8 * _); omega) (by simp [rv, sU_at]) f2) hq
    · rw [if_neg z] at hq
      refine fin b s wi 0 j w hw ?_ hq
      rw [sU_self (by simp only [sU_at]; rw [if_neg (by omega), if_neg (by omega), if_neg (by omega), if_neg (by omega), if_neg (by omega)]; exact hz _ (Nat.le_refl _))]
      exact pw
  have L126f : run (pEnd B n D none i6) (RE B n u0 (Q false)) (fun g => run (bnd (pWord B n 8 g.2) fun d => bnd (pNum B n 0 99 d) fun s => bnd (pNumB B n 9 1 9 1 s.2) fun w => bnd (pNumB B n 10 0 9 0 w.2) fun l => ok (addD D (nmT B n (i + 1)) e.1 g.1 s.1 w.1 l.1, l.2)) (RE B n u0 (Q false)) (fun a => ∀ u', RC B n a.2 u0 u' → RW a.1 u' → Q true u')) → p_X11_aDoor_L126 Q (nI (2151 + 8 * D.1 1 0)) false u6 := fun hq => by
    unfold p_X11_aDoor_L126
    refine ⟨fun _ => ?_, fun z => absurd z (by decide)⟩
    rw [pl1]
    refine r_endTo (by omega) c0 (g0 p6 (by simp [sU_at])) (rns p6) h6 (run_mono hq (fun k i hE u' a b => ⟨fun _ => hE u' a b, fun z => absurd z (by decide)⟩) (fun g hq7 u7 h7 f7 hg => ⟨fun z => absurd z (by decide), fun _ => ?_⟩))
    have p7 := p6.put (f := 11) (i := D.1 1 0) (v := g.1) (by omega) (by omega) (by show _ < 10; omega) (by show _ = 2096 + (56 + 8 * _); omega) (by simp [rv, sU_at]) f7
    rw [run_bnd] at hq7
    refine r_wantWord (k := 12) (w := 8) (by omega) rfl h7 (run_mono hq7 (fun k i hE u' a b => ⟨fun _ => hE u' a b, fun z => absurd z (by decide)⟩) (fun i8 hq8 u8 h8 f8 => ⟨fun z => absurd z (by decide), fun _ => ?_⟩))
    have p8 := p7.fr f8
    rw [run_bnd] at hq8
    rw [pl2, pl3]
    refine r_number (a := 0) (b := 99) (by omega) (by omega) (by omega) h8 (run_mono hq8 (fun k i hE u' a b => ⟨fun z => absurd z (by decide), fun _ => hE u' a b⟩) (fun s hq9 u9 h9 f9 => ⟨fun _ => ?_, fun z => absurd z (by decide)⟩))
    have p9 := p8.put (f := 12) (i := D.1 1 0) (v := s.1) (by omega) (by omega) (by show _ < 10; omega) (by show _ = 2096 + (57 + 8 * _); omega) (by simp [rv, sU_at]) f9
    rw [cCL (by omega)]
    refine ⟨cIN (by omega) (by omega), fun u12 e12 => ?_⟩
    have p12 := p9.put (u' := u12) (f := 13) (i := D.1 1 0) (v := 1) (k := 2151 + 8 * D.1 1 0 + 3) (x := 1) (by omega) (by omega) (by show _ < 10; omega) (by show _ = 2096 + (58 + 8 * _); omega) (by simp [rv, sU_at]; rfl) (by rw [e12]; exact rfr.rf)
    have h12 : RC B n s.2 u0 u12 := by
      rw [e12]
      exact h9.si (by omega)
    rw [run_bnd] at hq9
    unfold pNumB at hq9
    refine r_isThere (k := 13) (w := 9) (by omega) rfl h12 (fun z u1 hu1 fu1 => ⟨fun y => absurd y (by decide), fun _ => ?_⟩) (fun z => ⟨fun _ => ?_, fun y => absurd y (by decide)⟩)
    · rw [if_pos z] at hq9
      refine r_number (a := 1) (b := 9) (by omega) (by omega) (by omega) hu1 (run_mono hq9 (fun k i hE u' a b => ⟨fun _ => hE u' a b, fun y => absurd y (by decide)⟩) (fun v hq u2 h2 f2 => ⟨fun y => absurd y (by decide), fun _ => ?_⟩))
      exact L204 g.1 s.1 v.1 v.2 u2 h2 ((p12.fr fu1).put (f := 13) (i := D.1 1 0) (v := v.1) (by omega) (by omega) (by show _ < 10; omega) (by show _ = 2096 + (58 + 8 * _); omega) (by simp [rv, sU_at]) f2) hq
    · rw [if_neg z] at hq9
      refine L204 g.1 s.1 1 s.2 u12 h12 ?_ hq9
      rw [sU_self (f := 13) (i := D.1 1 0) (v := 1) (by simp [sU_at])]
      exact p12
  have L126t : RE B n u0 (Q false) 5 i6 → p_X11_aDoor_L126 Q (nI (2151 + 8 * D.1 1 0)) true u6 := fun hE => ⟨fun z => absurd z (by decide), fun _ => r_errs (k := 5) h6 hE⟩
  rw [gx]
  by_cases e7 : e.1 = 7
  · have ex : eR e.1 = -1 := by unfold eR; rw [if_pos e7]
    rw [ex]
    refine ⟨fun z => absurd rfl z, fun _ => r_inWords h6.2.1 h6.1 ?_⟩
    rw [show (eO (rwd B n i6) = (16 : Int32)) = (wrd B n i6 = some 16) from rw_is (k := 16) (by omega)]
    refine ⟨fun z => ?_, fun z => ?_⟩
    · rw [if_neg] at hq6
      · exact L126f hq6
      · rintro (y | y)
        · exact z y.2
        · have := fnd_lt y.2
          omega
    · rw [if_pos (Or.inl ⟨e7, z⟩)] at hq6
      exact L126t hq6
  · have ex : eR e.1 = nI e.1 := by unfold eR; rw [if_neg e7]
    have he7 : e.1 < D.1 0 0 := by omega
    rw [ex]
    refine ⟨fun _ => r_isName h6.2.1 h6.1 ⟨fun z => ?_, fun z => ⟨cIN (a := 2096) (by omega) (by omega), ?_⟩⟩, fun z => absurd z (nI_ne_m1 (by omega))⟩
    · unfold p_X11_aDoor_L125
      rw [if_neg] at hq6
      · exact L126f hq6
      · rintro (y | y)
        · exact e7 y.1
        · rw [z] at y
          exact absurd y.1 (by decide)
    · rw [show ((2096 : Int32).toNatClampNeg) = 2096 from by decide, g0 p6 (by simp [sU_at])]
      refine r_find (b := 84) h6.2.1 h6.1 z (by omega) (rns p6) ⟨cIN (by omega) (by omega), ?_⟩
      rw [gx, ex, eO_is (fun t ht => by have := fnd_lt ht; omega) (by omega)]
      refine ⟨fun y => ?_, fun y => ?_⟩
      · unfold p_X11_aDoor_L125
        rw [if_neg] at hq6
        · exact L126f hq6
        · rintro (x | x)
          · exact e7 x.1
          · exact y x.2
      · rw [if_pos (Or.inr ⟨z, y⟩)] at hq6
        exact L126t hq6
end RPARTS
