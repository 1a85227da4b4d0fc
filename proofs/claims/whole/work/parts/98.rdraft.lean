/-! ===== the reference's draft of a land ===== -/
def RFD (τ : aS) (u : xM) : Prop := gi u 273 2100 = -1 ∧ ∀ f, f < 23 → ∀ i, i < rkM f → gi u 273 (2096 + rk f i) = rv τ f i
def RNM (a b c : Nat) (nm : Nat → Nat → List Nat) (u : xM) : Prop := RNS 84 a (nm 0) u ∧ RNS 91 b (nm 1) u ∧ RNS 101 c (nm 2) u
def PS (τ : aS) (nm : Nat → Nat → List Nat) (a b c : Nat) (u : xM) : Prop := RFD τ u ∧ RNM a b c nm u
def RW (D : DR) (u : xM) : Prop := PS D.1 D.2 (D.1 0 0) (D.1 1 0) (D.1 2 0) u
section RDRAFT
variable {B : Nat → Nat} {n : Nat} {u u' u0 : xM} {i : Nat} {τ : aS} {nm : Nat → Nat → List Nat} {a b c : Nat}
theorem rk_4 : ∀ f, f < 23 → ∀ i, i < rkM f → rk f i ≠ 4 := by decide +kernel
theorem rv_sU {f i v g j : Nat} (hf : f ≠ 19 ∧ f ≠ 20 ∧ f ≠ 21 ∧ f ≠ 22) (h : ¬ (g = f ∧ j = i)) : rv (sU τ f i v) g j = rv τ g j := by
  unfold rv
  split
  · rw [sU_at, if_neg h]
  · split
    · congr 1
      unfold rotD
      refine mk_congr (fun k _ => ?_)
      rw [sU_at, if_neg (by omega)]
    · split
      · rw [sU_at, if_neg (by omega)]
      · rw [sU_at, if_neg h]
theorem sU_self {f i v : Nat} (h : τ f i = v) : sU τ f i v = τ := by
  funext x y
  rw [sU_at]
  split
  · rename_i e
    rw [e.1, e.2, h]
  · rfl
theorem RFD.cg (h : RFD τ u) (hg : ∀ i, i < 2256 → gi u' 273 i = gi u 273 i) : RFD τ u' := ⟨(hg 2100 (by omega)).trans h.1, fun f hf i hi => by
  have := rk_lt f hf i hi
  rw [hg _ (by omega)]
  exact h.2 f hf i hi⟩
theorem RFD.st {f i v k : Nat} {x : Int32} (h : RFD τ u) (hs : f ≠ 19 ∧ f ≠ 20 ∧ f ≠ 21 ∧ f ≠ 22) (hf : f < 23) (hi : i < rkM f) (hk : k = 2096 + rk f i) (hx : x = rv (sU τ f i v) f i) : RFD (sU τ f i v) (si u 273 k x) := by
  subst hk; subst hx
  refine ⟨?_, fun g hg j hj => ?_⟩
  · rw [gi_si, if_neg (by have := rk_4 f hf i hi; omega)]
    exact h.1
  · rw [gi_si]
    by_cases e : g = f ∧ j = i
    · rw [e.1, e.2, if_pos ⟨rfl, rfl⟩]
    · rw [if_neg, rv_sU hs e]
      · exact h.2 g hg j hj
      · rintro ⟨-, z⟩
        exact e (rk_inj0 g hg f hf j hj i hi (by omega))
theorem RNM.cg (h : RNM a b c nm u) (hl : ∀ k i, gl u' k i = gl u k i) : RNM a b c nm u' := ⟨h.1.cg (fun _ _ => hl _ _), h.2.1.cg (fun _ _ => hl _ _), h.2.2.cg (fun _ _ => hl _ _)⟩
theorem PS.put {f i v k : Nat} {x : Int32} (h : PS τ nm a b c u) (hs : f ≠ 19 ∧ f ≠ 20 ∧ f ≠ 21 ∧ f ≠ 22) (hf : f < 23) (hi : i < rkM f) (hk : k = 2096 + rk f i) (hx : x = rv (sU τ f i v) f i) (hr : rfr (si u 273 k x) u') : PS (sU τ f i v) nm a b c u' := ⟨(h.1.st hs hf hi hk hx).cg (fun j _ => hr.1 273 j (by omega)), h.2.cg (fun k i => (hr.2 k i).trans rfl)⟩
theorem PS.scr {k : Nat} {x : Int32} (h : PS τ nm a b c u) (hk : 2256 ≤ k) (hr : rfr (si u 273 k x) u') : PS τ nm a b c u' := ⟨h.1.cg (fun j hj => by rw [hr.1 273 j (by omega), gi_si, if_neg (by omega)]), h.2.cg (fun k i => (hr.2 k i).trans rfl)⟩
theorem PS.fr (h : PS τ nm a b c u) (hr : rfr u u') : PS τ nm a b c u' := ⟨h.1.cg (fun j _ => hr.1 273 j (by omega)), h.2.cg (fun k i => hr.2 k i)⟩
theorem PS.cnt {s : Nat} (h : PS τ nm a b c u) (hs : s < 3) : gi u 273 (2096 + s) = nI (τ s 0) := by
  have h1 := h.1.2 s (by omega) 0 (by unfold rkM; rw [if_pos (by omega)]; omega)
  have e1 : rk s 0 = s := by unfold rk; rw [if_pos (by omega)]
  have e2 : rv τ s 0 = nI (τ s 0) := by
    unfold rv
    rw [if_neg (by omega), if_neg (by omega), if_neg (by omega)]
  rw [e1, e2] at h1
  exact h1
theorem RNM.put0 {l : List Nat} (h : RNM a b c nm u) (hl : isNm l) (ha : a < 7) : RNM (a + 1) b c (nU nm 0 a l) (sl u 274 (84 + 0 + a) (Int64.ofNat (c8 l))) := by
  refine ⟨fun j hj => ?_, fun j hj => ?_, fun j hj => ?_⟩
  · unfold nU
    rw [gl_sl]
    by_cases e : j = a
    · subst e
      rw [if_pos ⟨rfl, rfl⟩, if_pos ⟨rfl, by omega⟩]
      exact ⟨hl, rfl⟩
    · rw [if_neg (by omega), if_neg (by omega)]
      exact h.1 j (by omega)
  · unfold nU
    rw [gl_sl, if_neg (by omega), if_neg (by omega)]
    exact h.2.1 j hj
  · unfold nU
    rw [gl_sl, if_neg (by omega), if_neg (by omega)]
    exact h.2.2 j hj
theorem RNM.put1 {l : List Nat} (h : RNM a b c nm u) (hl : isNm l) (ha : a ≤ 7) (hb : b < 10) : RNM a (b + 1) c (nU nm 1 b l) (sl u 274 (84 + 7 + b) (Int64.ofNat (c8 l))) := by
  refine ⟨fun j hj => ?_, fun j hj => ?_, fun j hj => ?_⟩
  · unfold nU
    rw [gl_sl, if_neg (by omega), if_neg (by omega)]
    exact h.1 j hj
  · unfold nU
    rw [gl_sl]
    by_cases e : j = b
    · subst e
      rw [if_pos ⟨rfl, rfl⟩, if_pos ⟨rfl, by omega⟩]
      exact ⟨hl, rfl⟩
    · rw [if_neg (by omega), if_neg (by omega)]
      exact h.2.1 j (by omega)
  · unfold nU
    rw [gl_sl, if_neg (by omega), if_neg (by omega)]
    exact h.2.2 j hj
theorem RNM.put2 {l : List Nat} (h : RNM a b c nm u) (hl : isNm l) (ha : a ≤ 7) (hb : b ≤ 10) (hc : c < 4) : RNM a b (c + 1) (nU nm 2 c l) (sl u 274 (84 + 17 + c) (Int64.ofNat (c8 l))) := by
  refine ⟨fun j hj => ?_, fun j hj => ?_, fun j hj => ?_⟩
  · unfold nU
    rw [gl_sl, if_neg (by omega), if_neg (by omega)]
    exact h.1 j hj
  · unfold nU
    rw [gl_sl, if_neg (by omega), if_neg (by omega)]
    exact h.2.1 j hj
  · unfold nU
    rw [gl_sl]
    by_cases e : j = c
    · subst e
      rw [if_pos ⟨rfl, rfl⟩, if_pos ⟨rfl, by omega⟩]
      exact ⟨hl, rfl⟩
    · rw [if_neg (by omega), if_neg (by omega)]
      exact h.2.2 j (by omega)
theorem clampL {a b : Nat} : nI a + nI b = nI (a + b) := cA a b
theorem r_newOne {s most off a' b' c' : Nat} {D : DR} {Q : Bool → xM → Prop} (hs : s < 3) (hm : most ≤ 10) (hcs : D.1 s 0 ≤ most) (hoff : off + most ≤ 21) (hS : okS D.1) (hP : RW D u) (h1 : tK B n (pS B n i) = 1) (h : RC B n i u0 u) (hput : ∀ w l, D.1 s 0 < most → isNm l → RNM (D.1 0 0) (D.1 1 0) (D.1 2 0) D.2 w → RNM a' b' c' (nU D.2 s (D.1 s 0) l) (sl w 274 (84 + off + D.1 s 0) (Int64.ofNat (c8 l))))
    (hq : run (if most ≤ D.1 s 0 then er 6 i else pNew B n D (i + 1)) (RE B n u0 (Q false)) (fun j => ∀ u', D.1 s 0 < most → RC B n j u0 u' → PS D.1 (nU D.2 s (D.1 s 0) (nmT B n (i + 1))) a' b' c' u' → Q true u')) : p_X11_newOne (nI s) (nI most) (nI off) u Q := by
  have c0 := hS.r
  have c1 := hS.d
  have c2 := hS.e
  have hcell := hP.cnt hs
  unfold p_X11_newOne
  rw [l_2096, cA, cCL (by omega), hcell, cEQ (by omega) (by omega)]
  refine ⟨cIN (by omega) (by omega), fun z => ?_, fun z => ?_⟩
  · rw [if_neg (by omega)] at hq
    unfold pNew at hq
    refine r_go h (by omega) (by omega) (fun u3 h3 f3 => ?_)
    have hP3 := PS.fr hP f3
    refine r_isName h3.2.1 h3.1 ⟨fun y => ⟨cIN (by omega) (by omega), ?_⟩, fun y => ?_⟩
    · rw [if_pos y] at hq
      have hk := isN_1 y
      have g0 : gi u3 273 2096 = nI (D.1 0 0) := hP3.cnt (s := 0) (by omega)
      have g1 : gi u3 273 2097 = nI (D.1 1 0) := hP3.cnt (s := 1) (by omega)
      have g2 : gi u3 273 2098 = nI (D.1 2 0) := hP3.cnt (s := 2) (by omega)
      rw [cCL (by omega), g0]
      unfold tkn at hq
      refine r_find (b := 84) h3.2.1 h3.1 y (by omega) hP3.2.1 ?_
      cases e0 : fnd (D.2 0) (D.1 0 0) (nmT B n (i + 1)) with
      | some t =>
        rw [e0] at hq
        have := fnd_lt e0
        exact ⟨fun _ => r_errs (k := 3) h3 hq, fun x => absurd x (nI_ne_m1 (by omega))⟩
      | none =>
        rw [e0] at hq
        refine ⟨fun x => absurd rfl x, fun _ => ⟨cIN (a := 2097) (by omega) (by omega), ?_⟩⟩
        rw [show ((2097 : Int32).toNatClampNeg) = 2097 from by decide, g1]
        refine r_find (b := 91) h3.2.1 h3.1 y (by omega) hP3.2.2.1 ?_
        cases e1 : fnd (D.2 1) (D.1 1 0) (nmT B n (i + 1)) with
        | some t =>
          rw [e1] at hq
          have := fnd_lt e1
          exact ⟨fun _ => r_errs (k := 3) h3 hq, fun x => absurd x (nI_ne_m1 (by omega))⟩
        | none =>
          rw [e1] at hq
          refine ⟨fun x => absurd rfl x, fun _ => ⟨cIN (a := 2098) (by omega) (by omega), ?_⟩⟩
          rw [show ((2098 : Int32).toNatClampNeg) = 2098 from by decide, g2]
          refine r_find (b := 101) h3.2.1 h3.1 y (by omega) hP3.2.2.2 ?_
          cases e2 : fnd (D.2 2) (D.1 2 0) (nmT B n (i + 1)) with
          | some t =>
            rw [e2] at hq
            have := fnd_lt e2
            exact ⟨fun x => absurd x (nI_ne_m1 (by omega)), fun _ => r_errs (k := 3) h3 hq⟩
          | none =>
            rw [e2] at hq
            refine ⟨fun _ => ⟨cIN (by omega) (by omega), r_nameHere h3.2.1 h3.1 y ?_⟩, fun x => absurd rfl x⟩
            rw [show ((84 : Int32)) = nI 84 from rfl, cA, hP3.cnt hs, cA, cCL (by omega)]
            refine ⟨cIN (by omega) (by omega), fun u27 e27 => ?_⟩
            rw [e27]
            refine r_go (h3.sl (by omega)) (by omega) (by omega) (fun u' hu hf => hq u' (by omega) hu ⟨hP3.1.cg (fun j _ => by rw [hf.1 273 j (by omega)]; rfl), ?_⟩)
            exact (hput u3 _ (by omega) (ltr_nm y) hP3.2).cg (fun k i => hf.2 k i)
    · rw [if_neg (by rw [y]; decide)] at hq
      exact r_errs (k := 2) h3 hq
  · rw [if_pos (by omega)] at hq
    exact r_errs (k := 6) h hq
theorem rotD_put {h d j : Nat} (hh : h < 12) : rotD (sU τ 19 h (τ 19 h ||| 2 ^ d)) j = if j = d then rotD τ d ||| 2 ^ h else rotD τ j := by
  apply Nat.eq_of_testBit_eq
  intro k
  unfold rotD
  split
  · rename_i e
    subst e
    rw [Nat.testBit_or, mk_testBit, mk_testBit, Nat.testBit_two_pow, sU_at]
    by_cases y : k = h
    · subst y
      rw [if_pos ⟨rfl, rfl⟩, Nat.testBit_or, Nat.testBit_two_pow]
      simp [hh]
    · rw [if_neg (fun z => y z.2), decide_eq_false (show ¬ h = k from fun z => y z.symm)]
      simp
  · rename_i e
    rw [mk_testBit, mk_testBit, sU_at]
    by_cases y : k = h
    · subst y
      rw [if_pos ⟨rfl, rfl⟩, Nat.testBit_or, Nat.testBit_two_pow, decide_eq_false (show ¬ d = j from fun z => e z.symm)]
      simp
    · rw [if_neg (fun z => y z.2)]
theorem RFD.rota {h d : Nat} {k : Nat} (hR : RFD τ u) (hh : h < 12) (hd : d < 10) (hk : k = 2096 + rk 19 d) : RFD (sU τ 19 h (τ 19 h ||| 2 ^ d)) (si u 273 k (nI (rotD τ d ||| 2 ^ h))) := by
  subst hk
  refine ⟨?_, fun g hg j hj => ?_⟩
  · rw [gi_si, if_neg (by have := rk_4 19 (by omega) d (by simp [rkM]; omega); omega)]
    exact hR.1
  · rw [gi_si]
    by_cases e : g = 19 ∧ j = d
    · obtain ⟨rfl, rfl⟩ := e
      rw [if_pos ⟨rfl, rfl⟩]
      show _ = nI (rotD _ j)
      rw [rotD_put hh, if_pos rfl]
    · rw [if_neg, hR.2 g hg j hj]
      · by_cases y : g = 19
        · subst y
          show nI (rotD τ j) = nI (rotD _ j)
          rw [rotD_put hh, if_neg (by omega)]
        · have q : ∀ x, sU τ 19 h (τ 19 h ||| 2 ^ d) g x = τ g x := fun x => by rw [sU_at, if_neg (fun z => y z.1)]
          unfold rv
          rw [q, q, if_neg y, if_neg y]
      · rintro ⟨-, z⟩
        exact e (rk_inj0 g hg 19 (by omega) j hj d (by simp [rkM]; omega) (by omega))
end RDRAFT
