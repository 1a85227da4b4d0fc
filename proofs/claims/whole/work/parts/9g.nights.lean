/-! ===== the reference takes NIGHTS ===== -/
abbrev ordK (Q : Bool → xM → Prop) (v1 : Int32) (L x : Nat) (op : Bool) (r7 : Bool) (u6 : xM) : Prop := ((r7 = true → ((op = false → p_X11_nightStep_L222 Q v1 (nI L) (nI x) u6) ∧ (op = true → vp_in (gi u6 272 21) 3 ∧ ∀ u11 : xM, u11 = si u6 280 (gi u6 272 21).toNatClampNeg (nI L) → ∀ u12 : xM, u12 = si u11 272 21 ((gi u11 272 21) + (1 : Int32)) → p_X11_nightStep_L222 Q v1 (nI L) (nI x) u12))) ∧ (r7 = false → Q false u6))
section NIGHTS
variable {B : Nat → Nat} {n : Nat} {u u' u0 : xM} {i : Nat} {D : DR} {s : NS} {op : Bool} {Q : Bool → xM → Prop} {x : Nat}
theorem RROW.cg {k t m : Nat} (h : RROW x k t m u) (hg : ∀ j, gi u' 273 j = gi u 273 j) : RROW x k t m u' := by
  unfold RROW
  rw [hg, hg, hg, hg]
  exact h
theorem RLX.cg {b k : Nat} {F : aS} {z : Prop} (h : RLX b F z k u) (hg : ∀ c, c < 6 → gi u' 273 (b + 6 * k + c) = gi u 273 (b + 6 * k + c)) : RLX b F z k u' := by
  obtain ⟨a1, a2, a3, a4, a5, a6⟩ := h
  exact ⟨(hg 0 (by omega)).trans a1, fun y => (hg 1 (by omega)).trans (a2 y), fun y => (hg 1 (by omega)).trans (a3 y), fun y => (hg 2 (by omega)).trans (a4 y), fun y => (hg 5 (by omega)).trans (a5 y), fun y => (hg 4 (by omega)).trans (a6 y)⟩
theorem RND.fr (h : RND s u) (hf : rfr u u') : RND s u' := ⟨(hf.1 273 _ (by omega)).trans h.1, (hf.1 272 22 (by omega)).trans h.2.1, ⟨(hf.1 272 21 (by omega)).trans h.2.2.1.1, fun j hj => (hf.1 280 _ (by omega)).trans (h.2.2.1.2 j hj)⟩, fun k hk => (h.2.2.2 k hk).cg (fun c _ => hf.1 273 _ (by omega))⟩
theorem RND.add {k t m : Nat} {w : xM} (hP : RND s u) (hk : k ≤ 11) (hop : (op = true) = opK k) (v0 : gi w 273 2100 = nI (s.1 + 1)) (v1 : gi w 272 22 = nI (s.2.1 + 1)) (v2 : RBG (stkO s op) w) (v3 : RROW (2256 + 6 * s.1) k t m w) (hg : ∀ j, j < s.1 → ∀ c, c < 6 → gi w 273 (2256 + 6 * j + c) = gi u 273 (2256 + 6 * j + c)) : RND (addO s op k t m) w := by
  obtain ⟨L, c, stk, F⟩ := s
  obtain ⟨p1, p2, p3, p4⟩ := hP
  have F0 : ∀ y, sU (sU (sU F 0 L k) 1 L t) 2 L m 0 y = if y = L then k else F 0 y := fun y => by simp [sU_at]
  have F1 : ∀ y, sU (sU (sU F 0 L k) 1 L t) 2 L m 1 y = if y = L then t else F 1 y := fun y => by simp [sU_at]
  have F2 : ∀ y, sU (sU (sU F 0 L k) 1 L t) 2 L m 2 y = if y = L then m else F 2 y := fun y => by simp [sU_at]
  have F3 : ∀ y, sU (sU (sU F 0 L k) 1 L t) 2 L m 3 y = F 3 y := fun y => by simp [sU_at]
  refine ⟨v0, v1, v2, fun j hj => ?_⟩
  have hj : j < L + 1 := hj
  show RLX 2256 (sU (sU (sU F 0 L k) 1 L t) 2 L m) (j ∉ stkO (L, c, stk, F) op) j w
  unfold RLX
  rw [F0, F1, F2, F3]
  by_cases z : j = L
  · subst z
    rw [if_pos rfl, if_pos rfl, if_pos rfl]
    obtain ⟨r1, r2, r3, r4, r5⟩ := v3
    refine ⟨r1, r2, r3, r4, r5, fun y => ?_⟩
    exfalso
    rcases y with ⟨y1, y2⟩ | y
    · rw [← hop] at y1
      exact y2 (by unfold stkO; rw [if_pos y1]; exact List.mem_cons_self ..)
    · omega
  · rw [if_neg z, if_neg z, if_neg z]
    have hjL : j < L := by omega
    obtain ⟨a1, a2, a3, a4, a5, a6⟩ := p4 j hjL
    have e := hg j hjL
    refine ⟨(e 0 (by omega)).trans a1, fun y => (e 1 (by omega)).trans (a2 y), fun y => (e 1 (by omega)).trans (a3 y), fun y => (e 2 (by omega)).trans (a4 y), fun y => (e 5 (by omega)).trans (a5 y), fun y => (e 4 (by omega)).trans (a6 ?_)⟩
    rcases y with ⟨y1, y2⟩ | y
    · refine Or.inl ⟨y1, fun q => y2 ?_⟩
      unfold stkO
      split
      · exact List.mem_cons_of_mem _ q
      · exact q
    · exact Or.inr y
theorem RND.clo {L c b : Nat} {stk : List Nat} {F : aS} {w : xM} (hP : RND (L, c, b :: stk, F) u) (hb : b < L) (hnb : b ∉ stk) (v0 : gi w 273 2100 = nI (L + 1)) (v1 : gi w 272 22 = nI c) (v2 : RBG stk w) (v3 : gi w 273 (2256 + 6 * L) = nI 24) (v4 : gi w 273 (2256 + 6 * L + 4) = nI b) (v5 : gi w 273 (2256 + 6 * b + 4) = nI L) (hg : ∀ j, j < L → ∀ c, c < 6 → ¬ (j = b ∧ c = 4) → gi w 273 (2256 + 6 * j + c) = gi u 273 (2256 + 6 * j + c)) : RND (clo (L, c, b :: stk, F)) w := by
  obtain ⟨p1, p2, p3, p4⟩ := hP
  have F0 : ∀ y, sU (sU (sU F 0 L 12) 3 L b) 3 b L 0 y = if y = L then 12 else F 0 y := fun y => by simp [sU_at]
  have F1 : ∀ y, sU (sU (sU F 0 L 12) 3 L b) 3 b L 1 y = F 1 y := fun y => by simp [sU_at]
  have F2 : ∀ y, sU (sU (sU F 0 L 12) 3 L b) 3 b L 2 y = F 2 y := fun y => by simp [sU_at]
  have F3 : ∀ y, sU (sU (sU F 0 L 12) 3 L b) 3 b L 3 y = if y = b then L else if y = L then b else F 3 y := fun y => by simp [sU_at]
  refine ⟨v0, v1, v2, fun j hj => ?_⟩
  have hj : j < L + 1 := hj
  show RLX 2256 (sU (sU (sU F 0 L 12) 3 L b) 3 b L) (j ∉ stk) j w
  unfold RLX
  rw [F0, F1, F2, F3]
  by_cases z : j = L
  · subst z
    rw [if_pos rfl, if_neg (by omega), if_pos rfl]
    exact ⟨v3, fun y => absurd y (by decide), fun y => absurd y (th_no (by decide)), fun y => absurd y (by decide), fun y => absurd y (by decide), fun _ => v4⟩
  · rw [if_neg z, if_neg z]
    have hjL : j < L := by omega
    obtain ⟨a1, a2, a3, a4, a5, a6⟩ := p4 j hjL
    have e := hg j hjL
    refine ⟨(e 0 (by omega) (by omega)).trans a1, fun y => (e 1 (by omega) (by omega)).trans (a2 y), fun y => (e 1 (by omega) (by omega)).trans (a3 y), fun y => (e 2 (by omega) (by omega)).trans (a4 y), fun y => (e 5 (by omega) (by omega)).trans (a5 y), fun y => ?_⟩
    by_cases zb : j = b
    · subst zb
      rw [if_pos rfl]
      exact v5
    · rw [if_neg zb]
      refine (e 4 (by omega) (by omega)).trans (a6 ?_)
      rcases y with ⟨y1, y2⟩ | y
      · refine Or.inl ⟨y1, fun q => ?_⟩
        rcases List.mem_cons.mp q with q | q
        · exact zb q
        · exact y2 q
      · exact Or.inr y
theorem r_rowz {v1 : Int32} {L : Nat} (hx : 2256 ≤ x ∧ x + 6 ≤ 3668) (h21 : gi u 273 2100 = nI L) (hq : ∀ u4, (∀ k j, ¬ (k = 273 ∧ (j = 2100 ∨ (x + 1 ≤ j ∧ j < x + 6))) → gi u4 k j = gi u k j) → (∀ k j, gl u4 k j = gl u k j) → gi u4 273 2100 = nI (L + 1) → p_X11_ahead u4 (fun u5 => p_X11_nightOrder v1 (nI x) u5 (ordK Q v1 L x op))) : ∃ n9, p_X11_nightStep_L147 Q n9 v1 (nI L) (nI x) op 1 u := by
  refine xloop (fun m j (w : xM) => p_X11_nightStep_L147 Q m v1 (nI L) (nI x) op (nI j) w) (fun _ w => (∀ k j, ¬ (k = 273 ∧ x + 1 ≤ j ∧ j < x + 6) → gi w k j = gi u k j) ∧ ∀ k j, gl w k j = gl u k j) 6 1 u (by omega) ⟨fun _ _ _ => rfl, fun _ _ => rfl⟩ ?_ ?_
  · rintro m w ⟨a1, a2⟩
    unfold p_X11_nightStep_L147
    refine ⟨fun _ => ⟨cIN (a := 2100) (by omega) (by omega), cIN (a := 2100) (by omega) (by omega), fun u4 e4 => ?_⟩, fun z => absurd (by decide) z⟩
    rw [show ((2100 : Int32).toNatClampNeg) = 2100 from by decide, a1 273 2100 (by omega), h21, pl1] at e4
    exact hq u4 (fun k j hk => by rw [e4, gi_si, if_neg (by omega)]; exact a1 k j (by omega)) (fun k j => by rw [e4, gl_si]; exact a2 k j) (by rw [e4, gi_at])
  · rintro m j w h1 h6 ⟨a1, a2⟩ kk
    unfold p_X11_nightStep_L147
    rw [show ((6 : Int32) ≤ nI j) = (6 ≤ j) from cLE (a := 6) (by omega) (by omega), cA, cCL (by omega)]
    refine ⟨fun z => absurd z (by omega), fun _ => ⟨cIN (by omega) (by omega), fun u14 e14 x15 e15 => ?_⟩⟩
    rw [l_1, cA] at e15
    rw [e15]
    exact kk u14 ⟨fun k i hk => by rw [e14, gi_si, if_neg (by omega)]; exact a1 k i hk, fun k i => by rw [e14, gl_si]; exact a2 k i⟩
theorem r_117 {k L st : Nat} (hx : 2256 ≤ x ∧ x + 6 ≤ 3668) (hk : k < 28) (h22 : gi u 272 22 = nI st) (h21 : gi u 273 2100 = nI L) (h : RC B n i u u) (h0 : tK B n (pS B n i) = 1) (hq : ∀ u5, RC B n (i + 1) u5 u5 → gi u5 273 2100 = nI (L + 1) → gi u5 272 22 = nI (if k = 24 then st else st + 1) → gi u5 273 x = nI k → zf x u u5 → p_X11_nightOrder (nI k) (nI x) u5 (ordK Q (nI k) L x op)) : p_X11_nightStep_L117 Q (nI k) (nI L) (nI x) op u := by
  have go : ∀ (b : Bool) (st' : Nat), (if k = 24 then st else st + 1) = st' → nI st + xb b = nI st' → p_X11_nightStep_L133 Q (nI k) (nI L) (nI x) op (nI st) b u := fun b st' e1 e2 => by
    unfold p_X11_nightStep_L133
    rw [e2, cCL (by omega)]
    intro u1 q1
    refine ⟨cIN (by omega) (by omega), fun u3 q3 => ?_⟩
    have g3 : ∀ k' j, ¬ (k' = 272 ∧ j = 22) → ¬ (k' = 273 ∧ j = x) → gi u3 k' j = gi u k' j := fun k' j a b => by rw [q3, gi_si, if_neg b, q1, gi_si, if_neg a]
    have l3 : ∀ k' j, gl u3 k' j = gl u k' j := fun k' j => by rw [q3, gl_si, q1, gl_si]
    refine r_rowz hx ((g3 273 2100 (by omega) (by omega)).trans h21) (fun u4 g4 l4 c4 => ?_)
    have g4' : ∀ k' j, ¬ (k' = 272 ∧ j = 22) → ¬ (k' = 273 ∧ (j = 2100 ∨ (x ≤ j ∧ j < x + 6))) → gi u4 k' j = gi u k' j := fun k' j a b => by rw [g4 k' j (by omega), g3 k' j a (by omega)]
    have h4 : RC B n i u4 u4 := h.nb (fun j a b => g4' 272 j (by omega) (by omega)) (fun j => g4' 279 j (by omega) (by omega))
    refine r_go h4 (by omega) (by omega) (fun u5 k5 f5 => ?_)
    refine hq u5 k5.bs ?_ ?_ ?_ ⟨fun k' j a b => ?_, fun k' j => ?_⟩
    · rw [f5.1 273 _ (by omega), c4]
    · rw [f5.1 272 _ (by omega), g4 272 22 (by omega), q3, gi_si, if_neg (by omega), q1, gi_at, e1]
    · rw [f5.1 273 _ (by omega), g4 273 x (by omega), q3, gi_at]
    · rw [f5.1 k' j (by omega), g4' k' j (by omega) (by omega)]
    · rw [f5.2, l4, l3]
  unfold p_X11_nightStep_L117
  rw [h22, show (nI k = (24 : Int32)) = (k = 24) from cEQ (b := 24) (by omega) (by omega)]
  exact ⟨fun z => go true (st + 1) (if_neg z) (pl1 st), fun z => go false st (if_pos z) (cA st 0)⟩
theorem r_nightStep (hok : okN D.1 s) (hS : okS D.1) (hN : NML D u) (hP : RND s u) (h : RC B n i u u) (hq : run (pNPart B n D s i) (RNE B n u (Q false)) (fun a => ∀ u', RC B n a.2 u' u' → RND a.1 u' → rn u u' → Q true u')) : p_X11_nightStep u Q := by
  obtain ⟨L, c, stk, F⟩ := s
  have hlen := hok.1
  dsimp only at hlen
  have p1 : gi u 273 2100 = nI L := hP.1
  have p2 : gi u 272 22 = nI c := hP.2.1
  have p3 : gi u 272 21 = nI stk.length := hP.2.2.1.1
  unfold pNPart at hq
  rw [run_bnd] at hq
  unfold pLine at hq
  dsimp only at hq
  unfold p_X11_nightStep
  refine r_inWords h.2.1 h.1 ⟨cIN (a := 2100) (by omega) (by omega), ?_⟩
  rw [show ((2100 : Int32).toNatClampNeg) = 2100 from by decide, p1]
  intro x4 e4 x5 e5
  subst e4
  rw [l_6, cM, show (2256 : Int32) = nI 2256 from rfl, cA] at e5
  subst e5
  have hL42 : p_X11_nightStep_L42 Q (eO (rwd B n i)) (nI L) (nI (2256 + 6 * L)) (opW B n i) u := by
    cases e : rwd B n i with
    | none =>
      have w := e
      rw [rwd_none] at w
      have hb : bgW B n i = false := by unfold bgW; rw [w]; decide
      rw [if_neg (by rw [w]; simp), if_neg (by rw [hb]; decide)] at hq
      have hq : RNE B n u (Q false) 2 i := hq
      unfold p_X11_nightStep_L42
      exact ⟨fun _ => r_errs (k := 2) h (hq.re rn.rf), fun z => absurd (by decide) z⟩
    | some k =>
      have hk := rwd_lt e
      obtain ⟨b1, b2⟩ := bgW_k e
      have hw : ∀ j, j < 28 → (wrd B n i = some (ko j)) = (k = j) := fun j hj => by rw [← rwd_is hj, e]; simp
      have w26 : (wrd B n i = some 26) = (k = 24) := hw 24 (by omega)
      have h1 : tK B n (pS B n i) = 1 := wrd_1 ((hw k hk).mpr rfl)
      show p_X11_nightStep_L42 Q (nI k) (nI L) (nI (2256 + 6 * L)) (opW B n i) u
      have e24 : (nI k = (24 : Int32)) = (k = 24) := cEQ (b := 24) (by omega) (by omega)
      have L117B : k ≠ 24 → bgW B n i = true → c < 30 → ¬ (opW B n i = true ∧ 3 ≤ stk.length) → p_X11_nightStep_L117 Q (nI k) (nI L) (nI (2256 + 6 * L)) (opW B n i) u := fun z hb hc ho => by
        rw [if_neg (by rw [w26]; exact z), if_pos hb, if_neg (by omega), if_neg ho, run_bnd] at hq
        refine r_117 (st := c) (by omega) hk p2 p1 h h1 (fun u5 k5 c5 s5 r5 f5 => ?_)
        have r15 : rn u u5 := f5.rn (by omega)
        have hN5 : NML D u5 := hN.rn hS r15
        refine r_order (by omega) hS hN5 e hb k5 r5 (run_and hq (g_ord hb) (fun k' j hE _ u' a b => ⟨fun y => absurd y (by decide), fun _ => (hE.re r15) u' a b⟩) (fun a hq ha u6 k6 f6 row => ⟨fun _ => ?_, fun y => absurd y (by decide)⟩))
        have hq : run (bnd (pStop B n a.2) fun j => ok (addO (L, c, stk, F) (opW B n i) a.1.1 a.1.2.1 a.1.2.2, j)) (RNE B n u (Q false)) (fun a => ∀ u', RC B n a.2 u' u' → RND a.1 u' → rn u u' → Q true u') := hq
        rw [run_bnd] at hq
        have r16 : rn u u6 := r15.tr (f6.rn (by omega))
        have fin : ∀ w, RC B n a.2 w w → RND (addO (L, c, stk, F) (opW B n i) a.1.1 a.1.2.1 a.1.2.2) w → rn u w → p_X11_nightStep_L222 Q (nI k) (nI L) (nI (2256 + 6 * L)) w := fun w kw pw rw' => by
          unfold p_X11_nightStep_L222
          rw [e24]
          exact ⟨fun _ => r_wantStop kw (run_mono hq (fun k' j hE => hE.re rw') (fun j hq u7 k7 f7 => hq u7 k7.bs (pw.fr f7) (rw'.tr f7.rn))), fun y => absurd y z⟩
        have old : ∀ j, j < L → ∀ c', c' < 6 → gi u6 273 (2256 + 6 * j + c') = gi u 273 (2256 + 6 * j + c') := fun j hj c' hc' => by rw [f6.1 273 _ (by omega) (by omega), f5.1 273 _ (by omega) (by omega)]
        have s21 : gi u6 272 21 = nI stk.length := by rw [f6.1 272 21 (by omega) (by omega), f5.1 272 21 (by omega) (by omega), p3]
        have s280 : ∀ j, gi u6 280 j = gi u 280 j := fun j => by rw [f6.1 280 j (by omega) (by omega), f5.1 280 j (by omega) (by omega)]
        have v0 : gi u6 273 2100 = nI (L + 1) := by rw [f6.1 273 2100 (by omega) (by omega), c5]
        have v1 : gi u6 272 22 = nI (c + 1) := by rw [f6.1 272 22 (by omega) (by omega), s5, if_neg z]
        have hop := ha.2.1
        have hkk : a.1.1 ≤ 11 := ha.1.1
        refine ⟨fun y => fin u6 k6.bs (hP.add hkk hop v0 v1 ?_ row old) r16, fun y => ?_⟩
        · rw [y]
          exact ⟨s21, fun j hj => (s280 _).trans (hP.2.2.1.2 j hj)⟩
        · have hs3 : stk.length < 3 := by
            by_cases q : stk.length < 3
            · exact q
            · exact absurd ⟨y, by omega⟩ ho
          rw [s21, cCL (by omega)]
          refine ⟨cIN (by omega) (by omega), fun u11 q11 u12 q12 => ?_⟩
          have e11 : gi u11 272 21 = nI stk.length := by rw [q11, gi_si, if_neg (by omega), s21]
          rw [e11, pl1] at q12
          have g12 : ∀ k j, k ≠ 280 → ¬ (k = 272 ∧ j = 21) → gi u12 k j = gi u6 k j := fun k j a b => by rw [q12, gi_si, if_neg b, q11, gi_si, if_neg (by omega)]
          have l12 : ∀ k j, gl u12 k j = gl u6 k j := fun k j => by rw [q12, gl_si, q11, gl_si]
          refine fin u12 (k6.nb (fun j p q => g12 272 j (by omega) (by omega)) (fun j => g12 279 j (by omega) (by omega))) (hP.add hkk hop ((g12 273 2100 (by omega) (by omega)).trans v0) ((g12 272 22 (by omega) (by omega)).trans v1) ?_ (row.cg (fun j => g12 273 j (by omega) (by omega))) (fun j hj c' hc' => (g12 273 _ (by omega) (by omega)).trans (old j hj c' hc'))) (r16.tr ⟨fun k j p q r => g12 k j r (by omega), fun k j _ => l12 k j⟩)
          rw [y]
          show RBG (L :: stk) u12
          refine ⟨by rw [q12, gi_at]; rfl, fun j hj => ?_⟩
          rw [List.length_cons] at hj ⊢
          rw [q12, gi_si, if_neg (by omega), q11, gi_si]
          cases j with
          | zero => rw [if_pos ⟨rfl, by omega⟩]; rfl
          | succ j =>
            rw [if_neg (by omega), s280, show stk.length + 1 - 1 - (j + 1) = stk.length - 1 - j by omega]
            exact hP.2.2.1.2 j (by show j < stk.length; omega)
      have L117A : k = 24 → stk ≠ [] → p_X11_nightStep_L117 Q (nI k) (nI L) (nI (2256 + 6 * L)) (opW B n i) u := fun z hs => by
        have hop : opW B n i = false := by rw [b2, z]; decide
        rw [if_pos (by rw [w26]; exact z), if_neg hs] at hq
        have hq : run (bnd (pStop B n (i + 1)) fun j => ok (clo (L, c, stk, F), j)) (RNE B n u (Q false)) (fun a => ∀ u', RC B n a.2 u' u' → RND a.1 u' → rn u u' → Q true u') := hq
        rw [run_bnd] at hq
        cases stk with
        | nil => exact absurd rfl hs
        | cons b stk =>
          rw [List.length_cons] at hlen p3
          have hbL : b < L := (hok.2.2.1 b (List.mem_cons_self ..)).1
          have hd := List.pairwise_cons.mp hok.2.2.2.1
          have hnb : b ∉ stk := fun z => by have := hd.1 b z; omega
          refine r_117 (st := c) (by omega) hk p2 p1 h h1 (fun u5 k5 c5 s5 r5 f5 => ?_)
          subst z
          rw [if_pos rfl] at s5
          have r15 : rn u u5 := f5.rn (by omega)
          have s21 : gi u5 272 21 = nI (stk.length + 1) := by rw [f5.1 272 21 (by omega) (by omega), p3]
          have s280 : ∀ j, gi u5 280 j = gi u 280 j := fun j => f5.1 280 j (by omega) (by omega)
          unfold p_X11_nightOrder
          refine ⟨fun y => absurd y (by decide), fun y => absurd y (by decide), fun y => absurd y (by decide), fun y => absurd y (by decide), fun y => absurd y (by decide), fun y => absurd y (by decide), fun y => absurd y (by decide), fun _ _ _ _ _ _ _ => ⟨fun _ => ⟨fun _ => ?_, fun y => absurd y (by rw [hop]; decide)⟩, fun y => absurd y (by decide)⟩⟩
          unfold p_X11_nightStep_L222
          refine ⟨fun y => absurd rfl y, fun _ u4 q4 => ?_⟩
          rw [s21, l_1, cS (by omega), show stk.length + 1 - 1 = stk.length by omega] at q4
          have a4 : gi u4 272 21 = nI stk.length := by rw [q4, gi_at]
          have ob : gi u 280 stk.length = nI b := by
            have := hP.2.2.1.2 0 (by show 0 < (b :: stk).length; rw [List.length_cons]; omega)
            rw [show ((L, c, b :: stk, F) : NS).2.2.1.length - 1 - 0 = stk.length by show (b :: stk).length - 1 - 0 = _; rw [List.length_cons]; omega] at this
            exact this
          have o4 : gi u4 280 stk.length = nI b := by rw [q4, gi_si, if_neg (by omega), s280, ob]
          rw [a4, cCL (by omega), o4, pl4, cCL (by omega)]
          refine ⟨cIN (by omega) (by omega), cIN (by omega) (by omega), fun u7 q7 => ?_⟩
          have a7 : gi u7 272 21 = nI stk.length := by rw [q7, gi_si, if_neg (by omega), a4]
          have o7 : gi u7 280 stk.length = nI b := by rw [q7, gi_si, if_neg (by omega), o4]
          rw [a7, cCL (by omega), o7, l_6, cM, show (2256 : Int32) = nI 2256 from rfl, cA, pl4, cCL (by omega)]
          refine ⟨cIN (by omega) (by omega), cIN (by omega) (by omega), fun u10 q10 => ?_⟩
          have g10 : ∀ k j, ¬ (k = 272 ∧ j = 21) → ¬ (k = 273 ∧ (j = 2256 + 6 * L + 4 ∨ j = 2256 + 6 * b + 4)) → gi u10 k j = gi u5 k j := fun k j p q => by rw [q10, gi_si, if_neg (by omega), q7, gi_si, if_neg (by omega), q4, gi_si, if_neg p]
          have l10 : ∀ k j, gl u10 k j = gl u5 k j := fun k j => by rw [q10, gl_si, q7, gl_si, q4, gl_si]
          have r10 : rn u u10 := r15.tr ⟨fun k j p q _ => g10 k j (by omega) (by omega), fun k j _ => l10 k j⟩
          have kw : RC B n (i + 1) u10 u10 := k5.nb (fun j p q => g10 272 j (by omega) (by omega)) (fun j => g10 279 j (by omega) (by omega))
          refine r_wantStop kw (run_mono hq (fun k' j hE => hE.re r10) (fun j hq u11 k11 f11 => hq u11 k11.bs (RND.fr (RND.clo hP hbL hnb ?_ ?_ ⟨?_, fun j hj => ?_⟩ ?_ ?_ ?_ (fun j hj c' hc' hn => ?_)) f11) (r10.tr f11.rn)))
          · rw [g10 273 2100 (by omega) (by omega), c5]
          · rw [g10 272 22 (by omega) (by omega), s5]
          · rw [q10, gi_si, if_neg (by omega), a7]
          · rw [g10 280 _ (by omega) (by omega), s280]
            have := hP.2.2.1.2 (j + 1) (by show j + 1 < (b :: stk).length; rw [List.length_cons]; omega)
            rw [show ((L, c, b :: stk, F) : NS).2.2.1.length - 1 - (j + 1) = stk.length - 1 - j by show (b :: stk).length - 1 - (j + 1) = _; rw [List.length_cons]; omega] at this
            exact this
          · rw [g10 273 _ (by omega) (by omega), r5]
          · rw [q10, gi_si, if_neg (by omega), q7, gi_at]
          · rw [q10, gi_at]
          · rw [g10 273 _ (by omega) (by omega), f5.1 273 _ (by omega) (by omega)]
      unfold p_X11_nightStep_L42
      rw [show (nI k < (17 : Int32)) = (k < 17) from cLT (b := 17) (by omega) (by omega), show ((25 : Int32) < nI k) = (25 < k) from cLT (a := 25) (by omega) (by omega), e24, p3, show ((nI stk.length = 0) : Prop) = (stk.length = 0) from cEQ (b := 0) (by omega) (by omega)]
      have bad : (¬ (17 ≤ k ∧ k ≤ 25)) → RNE B n u (Q false) 2 i := fun z => by
        have hb : bgW B n i = false := by rw [b1]; exact decide_eq_false (by omega)
        rw [if_neg (by rw [w26]; omega), if_neg (by rw [hb]; decide)] at hq
        exact hq
      refine ⟨fun z => r_errs (k := 2) h ((bad (by omega)).re rn.rf), fun z => ⟨fun z2 => r_errs (k := 2) h ((bad (by omega)).re rn.rf), fun z2 => ⟨fun z3 => ?_, fun z3 => ⟨fun z4 => ?_, fun z4 => ?_⟩⟩⟩⟩
      · have hb : bgW B n i = true := by rw [b1]; exact decide_eq_true ⟨by omega, by omega, z3⟩
        unfold p_X11_nightStep_L75
        rw [e24, p2, show ((nI c = (30 : Int32)) : Prop) = (c = 30) from cEQ (b := 30) (by omega) (by omega)]
        refine ⟨fun y => absurd y z3, fun _ => ⟨fun y => ?_, fun y => ?_⟩⟩
        · unfold p_X11_nightStep_L97
          rw [p3, show ((nI stk.length = (3 : Int32)) : Prop) = (stk.length = 3) from cEQ (b := 3) (by omega) (by omega)]
          refine ⟨fun o => L117B z3 hb (by omega) (fun q => by rw [o] at q; exact absurd q.1 (by decide)), fun o => ⟨fun q => L117B z3 hb (by omega) (fun q2 => by omega), fun q => ?_⟩⟩
          rw [if_neg (by rw [w26]; exact z3), if_pos hb, if_neg (by omega), if_pos ⟨o, by omega⟩] at hq
          have hq : RNE B n u (Q false) 7 i := hq
          exact r_errs (k := 7) h (hq.re rn.rf)
        · rw [if_neg (by rw [w26]; exact z3), if_pos hb, if_pos (by omega)] at hq
          have hq : RNE B n u (Q false) 6 i := hq
          exact r_errs (k := 6) h (hq.re rn.rf)
      · have hop : opW B n i = false := by rw [b2, z3]; decide
        have hs : stk ≠ [] := fun y => z4 (by rw [y]; rfl)
        unfold p_X11_nightStep_L75
        rw [e24]
        refine ⟨fun _ => ?_, fun y => absurd z3 y⟩
        unfold p_X11_nightStep_L97
        exact ⟨fun _ => L117A z3 hs, fun y => absurd y (by rw [hop]; decide)⟩
      · have hs : stk = [] := List.length_eq_zero_iff.mp z4
        rw [if_pos (by rw [w26]; exact z3), if_pos hs] at hq
        have hq : RNE B n u (Q false) 2 i := hq
        exact r_errs (k := 2) h (hq.re rn.rf)
  have w22 : (eO (rwd B n i) = (22 : Int32)) = (wrd B n i = some 22) := rw_is (k := 22) (by omega)
  have w23 : (eO (rwd B n i) = (23 : Int32)) = (wrd B n i = some 25) := rw_is (k := 23) (by omega)
  refine ⟨fun z => ?_, fun z1 => ⟨fun z2 => ?_, fun z2 => ?_⟩⟩
  · have : opW B n i = true := by unfold opW; rw [w22] at z; rw [z]; decide
    rw [this] at hL42
    exact hL42
  · have : opW B n i = false := by unfold opW; rw [w22] at z1; rw [w23] at z2; rw [decide_eq_false z1, decide_eq_false z2]; rfl
    rw [this] at hL42
    exact hL42
  · have : opW B n i = true := by unfold opW; rw [w23] at z2; rw [z2]; decide
    rw [this] at hL42
    exact hL42
end NIGHTS
