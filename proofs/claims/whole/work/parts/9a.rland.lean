/-! ===== the reference reads a LAND ===== -/
section RLAND
variable {B : Nat → Nat} {n : Nat} {u u' u0 : xM} {i : Nat} {D : DR} {Q : Bool → xM → Prop}
theorem PS.rota {nm : Nat → Nat → List Nat} {a b c h d k : Nat} {τ : aS} {x : Int32} (hP : PS τ nm a b c u) (hh : h < 12) (hd : d < 10) (hk : k = 2096 + rk 19 d) (hx : x = nI (rotD τ d ||| 2 ^ h)) (hr : rfr (si u 273 k x) u') : PS (sU τ 19 h (τ 19 h ||| 2 ^ d)) nm a b c u' := by
  subst hx
  exact ⟨(hP.1.rota hh hd hk).cg (fun j _ => hr.1 273 j (by omega)), hP.2.cg (fun k i => (hr.2 k i).trans rfl)⟩
theorem RFT.w {k : Nat} (h : RFT B n k i u) (hg : gi u' 272 18 = gi u 272 18 ∧ gi u' 272 17 = gi u 272 17) : RFT B n k i u' := ⟨hg.1.trans h.1, hg.2.trans h.2⟩
theorem addE_c {l : List Nat} {d f t c : Nat} (hc : D.1 2 0 = c) : sU (sU (sU (sU D.1 15 c d) 16 c f) 17 c t) 2 0 (c + 1) = (addE D l d f t).1 := by
  subst hc
  rfl
/-- behind each part its sign -/
theorem r_391 {a : DR × Nat} (h : RC B n a.2 u0 u) (hP : RW a.1 u) (hq : run (bnd (pStop B n a.2) fun j => ok (a.1, j)) (RE B n u0 (Q false)) (fun a => ∀ u', RC B n a.2 u0 u' → RW a.1 u' → Q true u')) : p_X11_landPart_L391 Q true u := by
  unfold p_X11_landPart_L391
  rw [run_bnd] at hq
  refine ⟨fun z => absurd z (by decide), fun _ => r_wantStop h (run_mono hq (fun k i hE u' a b => ⟨fun _ => hE u' a b, fun z => absurd z (by decide)⟩) (fun j hq u2 h2 f2 => ⟨fun z => absurd z (by decide), fun _ => hq u2 h2 (hP.fr f2)⟩))⟩
theorem r_landPart (hD : okD D) (hP : RW D u) (h : RC B n i u0 u) (hq : run (pPart B n D i) (RE B n u0 (Q false)) (fun a => ∀ u', RC B n a.2 u0 u' → RW a.1 u' → Q true u')) : p_X11_landPart u Q := by
  have c0 := hD.1.r
  have c1 := hD.1.d
  have c2 := hD.1.e
  have hc0 : gi u 273 2096 = nI (D.1 0 0) := hP.cnt (s := 0) (by omega)
  have hc1 : gi u 273 2097 = nI (D.1 1 0) := hP.cnt (s := 1) (by omega)
  have hc2 : gi u 273 2098 = nI (D.1 2 0) := hP.cnt (s := 2) (by omega)
  unfold p_X11_landPart
  rw [show ((2098 : Int32).toNatClampNeg) = 2098 from by decide, hc2]
  refine ⟨cIN (a := 2098) (by omega) (by omega), fun x2 e2 => ?_⟩
  have e2 : x2 = nI (2243 + 3 * D.1 2 0) := by rw [e2, show ((2243 : Int32)) = nI 2243 from rfl, l_3, cM, cA]
  subst e2
  refine r_inWords h.2.1 h.1 ?_
  have is : ∀ k, k < 28 → ((eO (rwd B n i) = nI k) = (wrd B n i = some (ko k))) := fun k hk => rw_is hk
  rw [show (eO (rwd B n i) = 0) = (wrd B n i = some 0) from is 0 (by omega), show (eO (rwd B n i) = 1) = (wrd B n i = some 5) from is 1 (by omega), show (eO (rwd B n i) = 2) = (wrd B n i = some 11) from is 2 (by omega), show (eO (rwd B n i) = 3) = (wrd B n i = some 12) from is 3 (by omega), show (eO (rwd B n i) = 4) = (wrd B n i = some 13) from is 4 (by omega), show (eO (rwd B n i) = 5) = (wrd B n i = some 14) from is 5 (by omega)]
  unfold pPart pOne at hq
  have f391 : ∀ w, Q false w → p_X11_landPart_L391 Q false w := fun w hw => ⟨fun _ => hw, fun z => absurd z (by decide)⟩
  refine ⟨fun z => ?_, fun z => ?_, fun z => ?_, fun z => ?_, fun z => ?_, fun z => ?_, fun z0 z1 z2 z3 z4 z5 => ?_⟩
  · rw [if_pos z, run_bnd] at hq
    exact r_aRoom hD hP (wrd_1 z) h (run_mono hq (fun k i hE u' a b => f391 u' (hE u' a b)) (fun a hq u' h' p' => r_391 h' p' hq))
  · rw [if_neg (by rw [z]; decide), if_pos z, run_bnd] at hq
    exact r_aDoor hD hP (wrd_1 z) h (run_mono hq (fun k i hE u' a b => f391 u' (hE u' a b)) (fun a hq u' h' p' => r_391 h' p' hq))
  · rw [if_neg (by rw [z]; decide), if_neg (by rw [z]; decide), if_pos z, run_bnd] at hq
    have h1 := wrd_1 z
    unfold pTide at hq
    rw [run_bnd] at hq
    refine r_go h (by omega) (by omega) (fun u2 h2 f2 => ?_)
    have p2 := PS.fr hP f2
    refine r_number (c := 2616) (a := 0) (b := 11) (by omega) (by omega) (by omega) h2 (run_mono (run_and hq g_num (fun k i x _ => x) (fun a x y => And.intro x y)) (fun k i hE u' a b => ⟨fun _ => ?_, fun z => absurd z (by decide)⟩) (fun v hq u3 h3 f3 => ⟨fun z => absurd z (by decide), fun _ => ⟨cIN (a := 2616) (by omega) (by omega), ?_⟩⟩))
    · exact f391 u' (hE u' a b)
    · obtain ⟨hq, hv⟩ := hq
      have p3 := p2.scr (by omega) f3
      have g3 : gi u3 273 2616 = nI v.1 := by rw [f3.1 273 2616 (by omega), gi_at]
      rw [show ((2616 : Int32).toNatClampNeg) = 2616 from by decide, g3, show ((2231 : Int32)) = nI 2231 from rfl, cA]
      rw [run_bnd] at hq
      refine r_number (a := 0) (b := 99) (by omega) (by omega) (by omega) h3 (run_mono hq (fun k i hE u' a b => ⟨fun _ => ?_, fun z => absurd z (by decide)⟩) (fun x hq u4 h4 f4 => ⟨fun z => absurd z (by decide), fun _ => ?_⟩))
      · exact f391 u' (hE u' a b)
      · have p4 := p3.put (f := 18) (i := v.1) (v := x.1) (by omega) (by omega) (by show _ < 12; omega) (by show _ = 2096 + (135 + _); omega) (by simp [rv, sU_at]) f4
        exact r_391 (a := ((sU D.1 18 v.1 x.1, D.2), x.2)) h4 p4 hq
  · rw [if_neg (by rw [z]; decide), if_neg (by rw [z]; decide), if_neg (by rw [z]; decide), if_pos z, run_bnd] at hq
    have h1 := wrd_1 z
    unfold pPump at hq
    rw [run_bnd] at hq
    refine r_go h (by omega) (by omega) (fun u2 h2 f2 => ⟨cIN (a := 2096) (by omega) (by omega), ?_⟩)
    have p2 := PS.fr hP f2
    rw [show ((2096 : Int32).toNatClampNeg) = 2096 from by decide, show gi u2 273 2096 = nI (D.1 0 0) from p2.cnt (s := 0) (by omega)]
    refine r_oldOne (b := 84) (c := 2616) (by omega) (by omega) p2.2.1 h2 (run_mono hq (fun k i hE u' a b => ⟨fun _ => ?_, fun z => absurd z (by decide)⟩) (fun v hq u3 h3 f3 hv => ⟨fun z => absurd z (by decide), fun _ => ⟨cIN (a := 2616) (by omega) (by omega), ?_⟩⟩))
    · exact f391 u' (hE u' a b)
    · have p3 := p2.scr (by omega) f3
      have g3 : gi u3 273 2616 = nI v.1 := by rw [f3.1 273 2616 (by omega), gi_at]
      rw [show ((2616 : Int32).toNatClampNeg) = 2616 from by decide, g3, show ((2102 : Int32)) = nI 2102 from rfl, l_7, cM, cA, pl3]
      rw [run_bnd] at hq
      refine r_number (a := 0) (b := 99) (by omega) (by omega) (by omega) h3 (run_mono hq (fun k i hE u' a b => ⟨fun _ => ?_, fun z => absurd z (by decide)⟩) (fun x hq u4 h4 f4 => ⟨fun z => absurd z (by decide), fun _ => ?_⟩))
      · exact f391 u' (hE u' a b)
      · have p4 := p3.put (f := 7) (i := v.1) (v := x.1) (by omega) (by omega) (by show _ < 7; omega) (by show _ = 2096 + (9 + 7 * _); omega) (by simp [rv, sU_at]) f4
        exact r_391 (a := ((sU D.1 7 v.1 x.1, D.2), x.2)) h4 p4 hq
  · rw [if_neg (by rw [z]; decide), if_neg (by rw [z]; decide), if_neg (by rw [z]; decide), if_neg (by rw [z]; decide), if_pos z, run_bnd] at hq
    have h1 := wrd_1 z
    unfold pRota at hq
    rw [run_bnd] at hq
    refine r_go h (by omega) (by omega) (fun u2 h2 f2 => ?_)
    have p2 := PS.fr hP f2
    refine r_number (c := 2616) (a := 0) (b := 11) (by omega) (by omega) (by omega) h2 (run_mono (run_and hq g_num (fun k i x _ => x) (fun a x y => And.intro x y)) (fun k i hE u' a b => ⟨fun _ => ?_, fun z => absurd z (by decide)⟩) (fun v hq u3 h3 f3 => ⟨fun z => absurd z (by decide), fun _ => ⟨cIN (a := 2097) (by omega) (by omega), ?_⟩⟩))
    · exact ⟨fun _ => f391 u' (hE u' a b), fun z => absurd z (by decide)⟩
    · obtain ⟨hq, hv⟩ := hq
      have p3 := p2.scr (by omega) f3
      have g3 : gi u3 273 2616 = nI v.1 := by rw [f3.1 273 2616 (by omega), gi_at]
      rw [show ((2097 : Int32).toNatClampNeg) = 2097 from by decide, show gi u3 273 2097 = nI (D.1 1 0) from p3.cnt (s := 1) (by omega), show ((2616 : Int32) + (1 : Int32)) = nI 2617 from rfl]
      rw [run_bnd] at hq
      refine r_oldOne (b := 91) (c := 2617) (by omega) (by omega) p3.2.2.1 h3 (run_mono hq (fun k i hE u' a b => ⟨fun _ => ?_, fun z => absurd z (by decide)⟩) (fun x hq u4 h4 f4 hx => ⟨fun z => absurd z (by decide), fun _ => ⟨fun z => absurd z (by decide), fun _ => ?_⟩⟩))
      · exact ⟨fun _ => f391 u' (hE u' a b), fun z => absurd z (by decide)⟩
      · have p4 := p3.scr (by omega) f4
        have g4 : gi u4 273 2617 = nI x.1 := by rw [f4.1 273 2617 (by omega), gi_at]
        have g4' : gi u4 273 2616 = nI v.1 := by rw [f4.1 273 2616 (by omega), gi_si, if_neg (by omega), g3]
        rw [show ((2616 : Int32) + (1 : Int32)) = nI 2617 from rfl, show (nI 2617).toNatClampNeg = 2617 from by decide, g4, show ((2616 : Int32).toNatClampNeg) = 2616 from by decide, g4', show ((2151 : Int32)) = nI 2151 from rfl, l_8, cM, cA, pl5, cCL (by omega)]
        have gr : gi u4 273 (2151 + 8 * x.1 + 5) = nI (rotD D.1 x.1) := by
          rw [p4.g (f := 19) (j := x.1) (by omega) (by show _ < 10; omega) (by show _ = 2096 + (60 + 8 * _); omega)]
          rfl
        refine ⟨cIN (a := 2617) (by omega) (by omega), cIN (by omega) (by omega), cIN (a := 2616) (by omega) (by omega), cIN (by omega) (by omega), fun u6 e6 => ?_⟩
        rw [gr, bPOW (by omega), bOR] at e6
        have p6 := p4.rota (u' := u6) (h := v.1) (d := x.1) (k := 2151 + 8 * x.1 + 5) (by omega) (by omega) (by show _ = 2096 + (60 + 8 * _); omega) rfl (by rw [e6]; exact rfr.rf)
        exact r_391 (a := ((sU D.1 19 v.1 (D.1 19 v.1 ||| 2 ^ x.1), D.2), x.2)) (by rw [e6]; exact h4.si (by omega)) p6 hq
  · rw [if_neg (by rw [z]; decide), if_neg (by rw [z]; decide), if_neg (by rw [z]; decide), if_neg (by rw [z]; decide), if_neg (by rw [z]; decide), if_pos z, run_bnd] at hq
    have h1 := wrd_1 z
    -- with a FAULT the row of ERRANDS is written as it was
    have bad : ∀ (k i : Nat), RE B n u0 (Q false) k i → RE B n u0 (p_X11_landPart_L361 Q false) k i := fun k i hE u' a b => by
      unfold p_X11_landPart_L361
      refine ⟨cIN (a := 2098) (by omega) (by omega), fun _ => ?_, fun z => absurd z (by decide)⟩
      unfold p_X11_landPart_L380
      refine ⟨cIN (a := 2098) (by omega) (by omega), fun u2 e2 => f391 u2 (hE u2 (a.w ⟨by rw [e2, gi_si, if_neg (by omega)], by rw [e2, gi_si, if_neg (by omega)]⟩) (b.tr ?_))⟩
      rw [e2]
      exact (rg.si (by decide)).rgf
    unfold pErr at hq
    refine r_newOne (s := 2) (most := 4) (off := 17) (by omega) (by omega) c2 (by omega) hD.1 hP h1 h (fun w l hm hl hR => hR.put2 hl c0 c1 (by omega)) (run_mono (run_ifb rfl hq) (fun k i hE u' a b => ⟨fun _ => bad k i hE u' a b, fun z => absurd z (by decide)⟩) (fun i3 hq3 u3 hlt h3 p3 => ⟨fun z => absurd z (by decide), fun _ => ?_⟩))
    rw [run_bnd] at hq3
    refine r_wantWord (k := 15) (w := 15) (by omega) rfl h3 (run_mono hq3 (fun k i hE u' a b => ⟨fun _ => bad k i hE u' a b, fun z => absurd z (by decide)⟩) (fun i4 hq4 u4 h4 f4 => ⟨fun z => absurd z (by decide), fun _ => ⟨cIN (a := 2097) (by omega) (by omega), ?_⟩⟩))
    have p4 := p3.fr f4
    rw [show ((2097 : Int32).toNatClampNeg) = 2097 from by decide, show gi u4 273 2097 = nI (D.1 1 0) from p4.cnt (s := 1) (by omega)]
    rw [run_bnd] at hq4
    have rns : RNS 91 (D.1 1 0) (D.2 1) u4 := fun j hj => by
      have := p4.2.2.1 j hj
      unfold nU at this
      rw [if_neg (by omega)] at this
      exact this
    refine r_oldOne (b := 91) (by omega) (by omega) rns h4 (run_mono hq4 (fun k i hE u' a b => ⟨fun _ => bad k i hE u' a b, fun z => absurd z (by decide)⟩) (fun d hq5 u5 h5 f5 hd => ⟨fun z => absurd z (by decide), fun _ => ?_⟩))
    have p5 := p4.put (f := 15) (i := D.1 2 0) (v := d.1) (by omega) (by omega) (by show _ < 4; omega) (by show _ = 2096 + (147 + 3 * _); omega) (by simp [rv, sU_at]) f5
    rw [run_bnd] at hq5
    refine r_wantWord (k := 10) (w := 6) (by omega) rfl h5 (run_mono hq5 (fun k i hE u' a b => ⟨fun _ => bad k i hE u' a b, fun z => absurd z (by decide)⟩) (fun i6 hq6 u6 h6 f6 => ⟨fun z => absurd z (by decide), fun _ => ?_⟩))
    have p6 := p5.fr f6
    rw [run_bnd] at hq6
    rw [pl1, pl2]
    refine r_number (a := 0) (b := 11) (by omega) (by omega) (by omega) h6 (run_mono (run_and hq6 g_num (fun k i x _ => x) (fun a x y => And.intro x y)) (fun k i hE u' a b => ⟨fun _ => bad k i hE u' a b, fun z => absurd z (by decide)⟩) (fun f hq7 u7 h7 f7 => ⟨fun z => absurd z (by decide), fun _ => ?_⟩))
    obtain ⟨hq7, hf⟩ := hq7
    have p7 := p6.put (f := 16) (i := D.1 2 0) (v := f.1) (by omega) (by omega) (by show _ < 4; omega) (by show _ = 2096 + (148 + 3 * _); omega) (by simp [rv, sU_at]) f7
    rw [run_bnd] at hq7
    refine r_wantWord (k := 11) (w := 7) (by omega) rfl h7 (run_mono hq7 (fun k i hE u' a b => ⟨fun _ => bad k i hE u' a b, fun z => absurd z (by decide)⟩) (fun i8 hq8 u8 h8 f8 => ⟨fun z => absurd z (by decide), fun _ => ⟨cIN (by omega) (by omega), ?_⟩⟩))
    have p8 := p7.fr f8
    have g8 : gi u8 273 (2243 + 3 * D.1 2 0 + 1) = nI f.1 := by
      rw [f8.1 273 _ (by omega), f7.1 273 _ (by omega), gi_at]
    rw [cCL (by omega), g8]
    rw [run_bnd] at hq8
    refine r_number (a := f.1) (b := 11) (by omega) (by omega) (by omega) h8 (run_mono hq8 (fun k i hE u' a b => ⟨fun _ => bad k i hE u' a b, fun z => absurd z (by decide)⟩) (fun t hq9 u9 h9 f9 => ⟨fun z => absurd z (by decide), fun _ => ?_⟩))
    have p9 := p8.put (f := 17) (i := D.1 2 0) (v := t.1) (by omega) (by omega) (by show _ < 4; omega) (by show _ = 2096 + (149 + 3 * _); omega) (by simp [rv, sU_at]) f9
    have g9 : gi u9 273 2098 = nI (D.1 2 0) := by
      have := p9.cnt (s := 2) (by omega)
      rw [show sU (sU (sU D.1 15 (D.1 2 0) d.1) 16 (D.1 2 0) f.1) 17 (D.1 2 0) t.1 2 0 = D.1 2 0 by simp [sU_at]] at this
      exact this
    unfold p_X11_landPart_L361 p_X11_landPart_L380
    rw [show ((2098 : Int32).toNatClampNeg) = 2098 from by decide, g9]
    refine ⟨cIN (a := 2098) (by omega) (by omega), fun z => absurd z (by decide), fun _ => ⟨cIN (a := 2098) (by omega) (by omega), fun u10 e10 => ?_⟩⟩
    rw [show xb true = (1 : Int32) from rfl, pl1] at e10
    have p10 := PS.put (u' := u10) (f := 2) (i := 0) (v := D.1 2 0 + 1) (k := 2098) (x := nI (D.1 2 0 + 1)) p9 (by omega) (by omega) (by decide) rfl rfl (by rw [e10]; exact rfr.rf)
    rw [addE_c (l := nmT B n (i + 1)) rfl] at p10
    have k0 : (addE D (nmT B n (i + 1)) d.1 f.1 t.1).1 0 0 = D.1 0 0 := by simp [addE, sU_at]
    have k1 : (addE D (nmT B n (i + 1)) d.1 f.1 t.1).1 1 0 = D.1 1 0 := by simp [addE, sU_at]
    have k2 : (addE D (nmT B n (i + 1)) d.1 f.1 t.1).1 2 0 = D.1 2 0 + 1 := by simp [addE, sU_at]
    refine r_391 (a := (addE D (nmT B n (i + 1)) d.1 f.1 t.1, t.2)) (by rw [e10]; exact h9.si (by omega)) ?_ hq9
    show RW (addE D (nmT B n (i + 1)) d.1 f.1 t.1) u10
    unfold RW
    rw [k0, k1, k2]
    exact p10
  · rw [if_neg z0, if_neg z1, if_neg z2, if_neg z3, if_neg z4, if_neg z5, run_bnd] at hq
    exact r_errs (k := 2) h hq
/-- all of it -/
theorem r_reads {Q : Int32 → xM → Prop} : ∀ (f : Nat) (D : DR) (i : Nat) (u : xM), n < i + f → okD D → RW D u → RC B n i u0 u → run (pAll B n f D i) (RE B n u0 (p_X11_land_L45 Q)) (fun D' => ∀ u', okD D' → RW D' u' → gi u' 272 18 = 0 → rg u0 u' → p_X11_land_L45 Q u') → p_X11_land_L26 Q (f + 1) true u := by
  intro f
  induction f with
  | zero =>
    intro D i u hf hD hP h hq
    have h1 := rch_ge i h.1.1
    have h2 := pS_ln (B := B) (n := n) i
    omega
  | succ f ih =>
    intro D i u hf hD hP h hq
    have hk := kr_is (a := 0) (tK_le (B := B) (n := n) (pS B n i))
    unfold p_X11_land_L26
    rw [show (gi u 272 12 = 0) = _ from h.1.k12 (a := 0) (by omega), hk.2.1]
    unfold pAll at hq
    refine ⟨fun z => absurd z (by decide), fun _ => ⟨fun z => ?_, fun z => ?_⟩⟩
    · rw [if_pos z] at hq
      exact hq u hD hP h.2.2.1 h.2.2.2
    · rw [if_neg z, run_bnd] at hq
      refine r_landPart hD hP h (run_and hq (g_part hD) (fun k i hE _ u' a b => ?_) (fun a hq ha u' h' p' => ih a.1 a.2 u' (by omega) ha.1 p' h' hq))
      unfold p_X11_land_L26
      exact ⟨fun _ => hE u' a b, fun y => absurd y (by decide)⟩
theorem sb_sb : ∀ c, c < 256 → (sb c).toInt8.toInt32 = sb c := by decide +kernel
/-- what beginning to read changes -/
def bg (u u' : xM) : Prop := (∀ k i, ¬ (k = 272 ∧ 10 ≤ i ∧ i ≤ 19 ∧ i ≠ 16) → k ≠ 279 → gi u' k i = gi u k i) ∧ ∀ k i, gl u' k i = gl u k i
theorem r_begins {mo : Nat} {Q : Bool → xM → Prop} (hm : n ≤ mo ∧ mo ≤ 900) (hT : ∀ j, j < n → gi u 278 j = sb (B j) ∧ B j < 256) {n0 : Nat} (h10 : gi u 272 10 = nI n0) (hn : n ≤ n0 ∧ n0 ≤ 900) (hq : ∀ u', RTK B n 0 u' → RTX B n u' → gi u' 272 18 = 0 → gi u' 272 17 = -1 → gi u' 272 10 = 0 → bg u u' → Q true u') : p_X11_begins (nI n) (nI mo) u Q := by
  unfold p_X11_begins
  rw [h10, cLT (by omega) (by omega), cLE (by omega) (by omega)]
  refine ⟨fun z => absurd z ?_, fun _ => ⟨fun z => absurd z (by omega), fun _ => ⟨fun _ u4 e4 => ?_, fun z => absurd hm.1 z⟩⟩⟩
  · rw [show ((nI n < 0) : Prop) = (n < 0) from cLT (b := 0) (by omega) (by omega)]
    omega
  · refine xloop (fun m j (w : xM) => p_X11_begins_L26 Q m (nI n) (nI j) w) (fun j w => (∀ k, k < j → gi w 279 k = sb (B k)) ∧ (∀ k i, k ≠ 279 → gi w k i = gi u4 k i) ∧ ∀ k i, gl w k i = gl u4 k i) n 0 u4 (by omega) ⟨fun k hk => absurd hk (Nat.not_lt_zero _), fun _ _ _ => rfl, fun _ _ => rfl⟩ ?_ ?_
    · rintro m w ⟨a1, a2, a3⟩
      unfold p_X11_begins_L26
      refine ⟨fun _ u2 q2 u3 q3 u4' q4 u5 q5 u6 q6 => ?_, fun z => absurd (by rw [cLE (by omega) (by omega)]; exact Nat.le_refl _) z⟩
      have hX : RTX B n u6 := by
        refine ⟨?_, by omega, fun j hj => ⟨?_, (hT j hj).2⟩⟩
        · rw [q6, gi_si, if_neg (by omega), q5, gi_si, if_neg (by omega), q4, gi_si, if_neg (by omega), q3, gi_si, if_neg (by omega), q2, gi_si, if_neg (by omega), a2 _ _ (by omega), e4, gi_at]
        · rw [q6, gi_si, if_neg (by omega), q5, gi_si, if_neg (by omega), q4, gi_si, if_neg (by omega), q3, gi_si, if_neg (by omega), q2, gi_si, if_neg (by omega)]
          exact a1 j hj
      refine r_ahead (i := 0) hX (by rw [q6, gi_si, if_neg (by omega), q5, gi_at]; rfl) (fun k hk => absurd hk (Nat.not_lt_zero _)) (fun u7 b1 b2 b3 => hq u7 b1 b2 ?_ ?_ ?_ ⟨fun k i c1 c2 => ?_, fun k i => ?_⟩)
      · rw [b3.1 272 18 (by omega), q6, gi_si, if_neg (by omega), q5, gi_si, if_neg (by omega), q4, gi_si, if_neg (by omega), q3, gi_at]
      · rw [b3.1 272 17 (by omega), q6, gi_si, if_neg (by omega), q5, gi_si, if_neg (by omega), q4, gi_at]
      · rw [b3.1 272 10 (by omega), q6, gi_si, if_neg (by omega), q5, gi_si, if_neg (by omega), q4, gi_si, if_neg (by omega), q3, gi_si, if_neg (by omega), q2, gi_at]
      · rw [b3.1 k i (by omega), q6, gi_si, if_neg (by omega), q5, gi_si, if_neg (by omega), q4, gi_si, if_neg (by omega), q3, gi_si, if_neg (by omega), q2, gi_si, if_neg (by omega), a2 k i c2, e4, gi_si, if_neg (by omega)]
      · rw [b3.2 k i, q6, gl_si, q5, gl_si, q4, gl_si, q3, gl_si, q2, gl_si, a3 k i, e4, gl_si]
    · rintro m j w _ hj ⟨a1, a2, a3⟩ kk
      unfold p_X11_begins_L26
      rw [cLE (by omega) (by omega), cCL (by omega)]
      refine ⟨fun z => absurd z (by omega), fun _ => ⟨cIN (by omega) (by omega), cIN (by omega) (by omega), fun u10 e10 x11 e11 => ?_⟩⟩
      rw [l_1, cA] at e11
      rw [e11]
      have ej : gi w 278 j = sb (B j) := by rw [a2 _ _ (by omega), e4, gi_si, if_neg (by omega)]; exact (hT j (by omega)).1
      rw [ej, sb_sb _ (hT j (by omega)).2] at e10
      refine kk u10 ⟨fun k hk => ?_, fun k i hk => ?_, fun k i => ?_⟩
      · rw [e10, gi_si]
        by_cases e : k = j
        · rw [if_pos ⟨rfl, e⟩, e]
        · rw [if_neg (by omega)]; exact a1 k (by omega)
      · rw [e10, gi_si, if_neg (by omega)]; exact a2 k i hk
      · rw [e10, gl_si]; exact a3 k i
theorem D0_rk : ∀ f, f < 23 → ∀ i, i < rkM f → ((135 ≤ rk f i ∧ rk f i < 147) ↔ f = 18) := by decide +kernel
theorem D0_rv : ∀ f, f < 23 → ∀ i, i < 12 → rv D0.1 f i = if f = 18 then 10 else 0 := by decide +kernel
theorem rkM_le : ∀ f, f < 23 → rkM f ≤ 12 := by decide +kernel
theorem r_plain {Q : xM → Prop} (hq : ∀ u', RW D0 u' → rg u u' → (∀ k i, ¬ (k = 273 ∧ 2096 ≤ i) → gi u' k i = gi u k i) → (∀ k i, gl u' k i = gl u k i) → Q u') : p_X11_plain 2096 u Q := by
  unfold p_X11_plain
  refine xloop (fun m j (w : xM) => p_X11_plain_L2 Q m 2096 (nI j) w) (fun j w => (∀ k, k < j → gi w 273 (2096 + k) = 0) ∧ (∀ k i, ¬ (k = 273 ∧ 2096 ≤ i) → gi w k i = gi u k i) ∧ ∀ k i, gl w k i = gl u k i) 524 0 u (by omega) ⟨fun k hk => absurd hk (Nat.not_lt_zero _), fun _ _ _ => rfl, fun _ _ => rfl⟩ ?_ ?_
  · rintro m w ⟨a1, a2, a3⟩
    unfold p_X11_plain_L2
    refine ⟨fun _ => ?_, fun z => absurd (by decide) z⟩
    refine xloop (fun m' j (v : xM) => p_X11_plain_L26 Q m' 2096 (nI j) v) (fun j v => (∀ k, k < 524 → gi v 273 (2096 + k) = if 135 ≤ k ∧ k < 135 + j then 10 else 0) ∧ (∀ k i, ¬ (k = 273 ∧ 2096 ≤ i) → gi v k i = gi u k i) ∧ ∀ k i, gl v k i = gl u k i) 12 0 w (by omega) ⟨fun k hk => by rw [if_neg (by omega)]; exact a1 k hk, a2, a3⟩ ?_ ?_
    · rintro m' v ⟨b1, b2, b3⟩
      unfold p_X11_plain_L26
      refine ⟨fun _ => ⟨cIN (a := 2100) (by omega) (by omega), fun u3 e3 => ?_⟩, fun z => absurd (by decide) z⟩
      rw [show (((2096 : Int32) + (4 : Int32)).toNatClampNeg) = 2100 from by decide] at e3
      have f1 : ∀ k i, ¬ (k = 273 ∧ 2096 ≤ i) → gi u3 k i = gi u k i := fun k i hk => by rw [e3, gi_si, if_neg (by omega)]; exact b2 k i hk
      have f2 : ∀ k i, gl u3 k i = gl u k i := fun k i => by rw [e3, gl_si]; exact b3 k i
      refine hq u3 ⟨⟨by rw [e3, gi_at], fun f hf i hi => ?_⟩, fun j hj => absurd hj (Nat.not_lt_zero _), fun j hj => absurd hj (Nat.not_lt_zero _), fun j hj => absurd hj (Nat.not_lt_zero _)⟩ ⟨fun k i _ h => f1 k i h, fun k i _ => f2 k i⟩ f1 f2
      have h4 := rk_4 f hf i hi
      have hl := rk_lt f hf i hi
      have hm := rkM_le f hf
      have hk := D0_rk f hf i hi
      rw [e3, gi_si, if_neg (by omega), b1 _ (by omega), D0_rv f hf i (by omega)]
      by_cases e : f = 18
      · rw [if_pos e, if_pos (by have := hk.mpr e; omega)]
      · rw [if_neg e, if_neg (fun z => e (hk.mp z))]
    · rintro m' j v _ hj ⟨b1, b2, b3⟩ kk
      unfold p_X11_plain_L26
      rw [show ((12 : Int32) ≤ nI j) = (12 ≤ j) from cLE (a := 12) (by omega) (by omega), show ((2096 : Int32) + (135 : Int32)) = nI 2231 from rfl, cA, cCL (by omega)]
      refine ⟨fun z => absurd z (by omega), fun _ => ⟨cIN (by omega) (by omega), fun u5 e5 x6 e6 => ?_⟩⟩
      rw [l_1, cA] at e6
      rw [e6]
      refine kk u5 ⟨fun k hk => ?_, fun k i hk => ?_, fun k i => ?_⟩
      · rw [e5, gi_si]
        by_cases e : k = 135 + j
        · rw [if_pos ⟨rfl, by omega⟩, if_pos (by omega)]
        · rw [if_neg (by omega), b1 k hk]
          by_cases y : 135 ≤ k ∧ k < 135 + j
          · rw [if_pos y, if_pos (by omega)]
          · rw [if_neg y, if_neg (by omega)]
      · rw [e5, gi_si, if_neg (by omega)]; exact b2 k i hk
      · rw [e5, gl_si]; exact b3 k i
  · rintro m j w _ hj ⟨a1, a2, a3⟩ kk
    unfold p_X11_plain_L2
    rw [show ((524 : Int32) ≤ nI j) = (524 ≤ j) from cLE (a := 524) (by omega) (by omega), l_2096, cA, cCL (by omega)]
    refine ⟨fun z => absurd z (by omega), fun _ => ⟨cIN (by omega) (by omega), fun u3 e3 x4 e4 => ?_⟩⟩
    rw [l_1, cA] at e4
    rw [e4]
    refine kk u3 ⟨fun k hk => ?_, fun k i hk => ?_, fun k i => ?_⟩
    · rw [e3, gi_si]
      by_cases e : k = j
      · rw [if_pos ⟨rfl, by omega⟩]
      · rw [if_neg (by omega)]; exact a1 k (by omega)
    · rw [e3, gi_si, if_neg (by omega)]; exact a2 k i hk
    · rw [e3, gl_si]; exact a3 k i
/-- what is kept of the draft -/
def rcp (u u' : xM) : Prop := (∀ i, i < 524 → gi u' 273 i = gi u 273 (2096 + i)) ∧ (∀ i, i < 21 → gl u' 274 i = gl u 274 (84 + i)) ∧ (∀ k i, ¬ (k = 273 ∧ i < 524) → gi u' k i = gi u k i) ∧ ∀ k i, ¬ (k = 274 ∧ i < 21) → gl u' k i = gl u k i
theorem r_keepNew {Q : Int32 → xM → Prop} (hq : ∀ u', rcp u u' → p_X11_land_L112 Q u') : ∃ n9, p_X11_land_L54 Q n9 0 u := by
  refine xloop (fun m j (w : xM) => p_X11_land_L54 Q m (nI j) w) (fun j w => (∀ i, i < j → gi w 273 i = gi u 273 (2096 + i)) ∧ (∀ k i, ¬ (k = 273 ∧ i < 524) → gi w k i = gi u k i) ∧ ∀ k i, gl w k i = gl u k i) 524 0 u (by omega) ⟨fun k hk => absurd hk (Nat.not_lt_zero _), fun _ _ _ => rfl, fun _ _ => rfl⟩ ?_ ?_
  · rintro m w ⟨a1, a2, a3⟩
    unfold p_X11_land_L54
    refine ⟨fun _ => ?_, fun z => absurd (by decide) z⟩
    refine xloop (fun m' j (v : xM) => p_X11_land_L85 Q m' (nI j) v) (fun j v => (∀ k i, gi v k i = gi w k i) ∧ (∀ i, i < j → gl v 274 i = gl u 274 (84 + i)) ∧ ∀ k i, ¬ (k = 274 ∧ i < 21) → gl v k i = gl u k i) 21 0 w (by omega) ⟨fun _ _ => rfl, fun k hk => absurd hk (Nat.not_lt_zero _), fun k i _ => a3 k i⟩ ?_ ?_
    · rintro m' v ⟨b1, b2, b3⟩
      unfold p_X11_land_L85
      exact ⟨fun _ => hq v ⟨fun i hi => by rw [b1]; exact a1 i hi, b2, fun k i hk => by rw [b1]; exact a2 k i hk, b3⟩, fun z => absurd (by decide) z⟩
    · rintro m' j v _ hj ⟨b1, b2, b3⟩ kk
      unfold p_X11_land_L85
      rw [show ((21 : Int32) ≤ nI j) = (21 ≤ j) from cLE (a := 21) (by omega) (by omega), show (84 : Int32) = nI 84 from rfl, cA, cCL (by omega), cCL (by omega)]
      refine ⟨fun z => absurd z (by omega), fun _ => ⟨cIN (by omega) (by omega), cIN (by omega) (by omega), fun u4 e4 x5 e5 => ?_⟩⟩
      rw [l_1, cA] at e5
      rw [e5]
      refine kk u4 ⟨fun k i => by rw [e4, gi_sl]; exact b1 k i, fun i hi => ?_, fun k i hk => ?_⟩
      · rw [e4, gl_sl]
        by_cases e : i = j
        · rw [if_pos ⟨rfl, e⟩, e, b3 274 (84 + j) (by omega)]
        · rw [if_neg (by omega)]; exact b2 i (by omega)
      · rw [e4, gl_sl, if_neg (by omega)]; exact b3 k i hk
  · rintro m j w _ hj ⟨a1, a2, a3⟩ kk
    unfold p_X11_land_L54
    rw [show ((524 : Int32) ≤ nI j) = (524 ≤ j) from cLE (a := 524) (by omega) (by omega), l_2096, cA, cCL (by omega), cCL (by omega)]
    refine ⟨fun z => absurd z (by omega), fun _ => ⟨cIN (by omega) (by omega), cIN (by omega) (by omega), fun u4 e4 x5 e5 => ?_⟩⟩
    rw [l_1, cA] at e5
    rw [e5]
    refine kk u4 ⟨fun i hi => ?_, fun k i hk => ?_, fun k i => ?_⟩
    · rw [e4, gi_si]
      by_cases e : i = j
      · rw [if_pos ⟨rfl, e⟩, e, a2 273 (2096 + j) (by omega)]
      · rw [if_neg (by omega)]; exact a1 i (by omega)
    · rw [e4, gi_si, if_neg (by omega)]; exact a2 k i hk
    · rw [e4, gl_si]; exact a3 k i
end RLAND
