/-! ===== trays, feed ===== -/
section TRAYS
variable {σ τ ρ : aS} {u u' u0 u1 : xM} {o o1 : Nat}
theorem TAP.cg (h : TAP u) (h1 : gi u' 0 13 = gi u 0 13) (h2 : gi u' 272 10 = gi u 272 10) (h3 : ∀ i, gi u' 4 i = gi u 4 i) (h4 : ∀ i, gi u' 278 i = gi u 278 i) : TAP u' := by
  obtain ⟨n, a, b, c, d⟩ := h
  exact ⟨n, a, h1.trans b, h2.trans c, fun i hi => by rw [h3, h4]; exact d i hi⟩
theorem TRY4.cg {t : Nat} (h : TRY4 t u) (h1 : ∀ i, gi u' (50 + 2 * t) i = gi u (50 + 2 * t) i) (h2 : gi u' 275 t = gi u 275 t) (h3 : gi u' 276 t = gi u 276 t) (h4 : ∀ i, gl u' (51 + 2 * t) i = gl u (51 + 2 * t) i) (h5 : ∀ i, i < 60 → gl u' 277 (60 * t + i) = gl u 277 (60 * t + i)) : TRY4 t u' := by
  obtain ⟨s, a, b, c, d⟩ := h
  refine ⟨s, a, (h1 1).trans b, h2.trans c, ?_⟩
  rcases d with d | ⟨m, m1, m2, m3, m4⟩
  · exact Or.inl ⟨(h1 2).trans d.1, h3.trans d.2⟩
  · exact Or.inr ⟨m, m1, (h1 2).trans m2, h3.trans m3, fun i hi => by rw [h4, h5 i (by omega)]; exact m4 i hi⟩
theorem LVD.cg (h : LVD u) (h1 : ∀ i, gi u' 46 i = gi u 46 i) (h2 : gi u' 272 42 = gi u 272 42) (h3 : ∀ i, gi u' 289 i = gi u 289 i) : LVD u' := by
  rcases h with ⟨a, b⟩ | ⟨a, b, c⟩
  · exact Or.inl ⟨(h1 0).trans a, h2.trans b⟩
  · exact Or.inr ⟨(h1 0).trans a, h2.trans b, fun i hi => by rw [h1, h3]; exact c i hi⟩
theorem WRD.cg (h : WRD u) (h1 : gi u' 34 1 = gi u 34 1) (h2 : gi u' 40 1 = gi u 40 1) (h3 : ∀ i, gl u' 35 i = gl u 35 i) (h4 : ∀ i, gl u' 41 i = gl u 41 i) : WRD u' := ⟨h1.trans h.1, h2.trans h.2.1, fun i hi => by rw [h3, h4]; exact h.2.2 i hi⟩
theorem MKS.cg (h : MKS u) (h1 : gi u' 0 10 = gi u 0 10) (h2 : gi u' 272 43 = gi u 272 43) (h3 : ∀ k i, (68 ≤ k ∧ k < 83) ∨ (191 ≤ k ∧ k < 272) → gi u' k i = gi u k i) (h4 : ∀ i, 524 ≤ i → i < 2096 → gi u' 273 i = gi u 273 i) (h5 : ∀ k i, 191 ≤ k → k < 272 → gl u' k i = gl u k i) (h6 : ∀ i, 21 ≤ i → i < 84 → gl u' 274 i = gl u 274 i) : MKS u' := by
  obtain ⟨n, a, b, c, d⟩ := h
  refine ⟨n, a, h1.trans b, h2.trans c, fun j hj => ?_⟩
  obtain ⟨σ, hσ⟩ := d j hj
  exact ⟨σ, hσ.cg (fun k i a1 a2 => h3 k i (by omega)) (fun k i a1 a2 => h3 k i (by omega)) (fun i a1 a2 => h4 i (by omega) (by omega)) (fun k i a1 => h5 k i (by omega) (by omega)) (fun i a1 a2 => h6 i (by omega) (by omega))⟩
/-- what a deed on a tray changes -/
def ct (t : Nat) (u u' : xM) : Prop := (∀ k i, (k < 5 ∧ ¬ (k = 0 ∧ i = 14)) ∨ (31 ≤ k ∧ k < 48) ∨ (50 ≤ k ∧ k < 105 ∧ k ≠ 50 + 2 * t) ∨ 164 ≤ k → gi u' k i = gi u k i) ∧ ∀ k i, k < 5 ∨ (31 ≤ k ∧ k < 48) ∨ (50 ≤ k ∧ k < 105 ∧ k ≠ 51 + 2 * t) ∨ 164 ≤ k → gl u' k i = gl u k i
def rt (t : Nat) (u u' : xM) : Prop := (∀ k i, k < 272 ∨ (k = 272 ∧ (i < 2 ∨ (2 < i ∧ i < 28) ∨ 39 ≤ i)) ∨ (k = 273 ∧ i < 2096) ∨ k = 274 ∨ ((k = 275 ∨ k = 276) ∧ i ≠ t) ∨ (277 ≤ k ∧ k < 280) ∨ k = 289 → gi u' k i = gi u k i) ∧ ∀ k i, k < 273 ∨ (274 ≤ k ∧ k < 277) ∨ (k = 277 ∧ (i < 60 * t ∨ 60 * t + 60 ≤ i)) ∨ (277 < k ∧ k < 280) ∨ k = 289 → gl u' k i = gl u k i
theorem ct.of (c : cq u u') {t : Nat} : ct t u u' := ⟨fun k i a => c.1 k i (by omega), fun k i a => c.2 k i (by omega)⟩
theorem rt.of (c : rq u u') {t : Nat} : rt t u u' := ⟨fun k i a => c.1 k i (by omega), fun k i a => c.2 k i (by omega)⟩
theorem ct.tr {w : xM} {t : Nat} (h : ct t u u') (h' : ct t u' w) : ct t u w := ⟨fun k i a => (h'.1 k i a).trans (h.1 k i a), fun k i a => (h'.2 k i a).trans (h.2 k i a)⟩
theorem rt.tr {w : xM} {t : Nat} (h : rt t u u') (h' : rt t u' w) : rt t u w := ⟨fun k i a => (h'.1 k i a).trans (h.1 k i a), fun k i a => (h'.2 k i a).trans (h.2 k i a)⟩
theorem ct.rf {t : Nat} : ct t u u := ct.of cq.rf
theorem rt.rf {t : Nat} : rt t u u := rt.of rq.rf
theorem ct.si {t k i : Nat} {x : Int32} (h : ct t u0 u) (hk : k = 50 + 2 * t ∨ (k = 0 ∧ i = 14)) (ht : t < 4) : ct t u0 (si u k i x) := ⟨fun a b hab => by rw [gi_si, if_neg (by omega)]; exact h.1 a b hab, fun a b hab => h.2 a b hab⟩
theorem ct.sl {t k i : Nat} {x : Int64} (h : ct t u0 u) (hk : k = 51 + 2 * t) (ht : t < 4) : ct t u0 (sl u k i x) := ⟨fun a b hab => h.1 a b hab, fun a b hab => by rw [gl_sl, if_neg (by omega)]; exact h.2 a b hab⟩
theorem rt.si {t k i : Nat} {x : Int32} (h : rt t u0 u) (hk : ((k = 275 ∨ k = 276) ∧ i = t) ∨ (k = 272 ∧ i = 2)) : rt t u0 (si u k i x) := ⟨fun a b hab => by rw [gi_si, if_neg (by omega)]; exact h.1 a b hab, fun a b hab => h.2 a b hab⟩
theorem rt.sl {t k i : Nat} {x : Int64} (h : rt t u0 u) (hk : k = 277 ∧ 60 * t ≤ i ∧ i < 60 * t + 60) : rt t u0 (sl u k i x) := ⟨fun a b hab => h.1 a b hab, fun a b hab => by rw [gl_sl, if_neg (by omega)]; exact h.2 a b hab⟩
def CTR (t s m : Nat) (f : Nat → Int64) (u : xM) : Prop := gi u (50 + 2 * t) 1 = nI s ∧ gi u (50 + 2 * t) 2 = nI m ∧ ∀ i, i < m → gl u (51 + 2 * t) i = f i
def RTR (t s m : Nat) (f : Nat → Int64) (u : xM) : Prop := gi u 275 t = nI s ∧ gi u 276 t = nI m ∧ ∀ i, i < m → gl u 277 (60 * t + i) = f i
/-- a deed on a tray, to both -/
theorem ptr {α : Type} {pc : (α → xM → Prop) → Prop} {pr : xM → (α → xM → Prop) → Prop} (I : INV u) {t s m : Nat} {f : Nat → Int64} (ht : t < 4) (hs : s ≤ 3) (hm : m ≤ 60) (v : α) (w : Int32) (hc : ∀ Q, (∀ u', ct t u u' → CTR t s m f u' → gi u' 0 14 = w → Q v u') → pc Q) (hr : ∀ u1, ct t u u1 → ∀ Q, (∀ u', rt t u1 u' → RTR t s m f u' → gi u' 272 2 = w → Q v u') → pr u1 Q) : pc (fun r u1 => pr u1 (fun r' u2 => r = r' ∧ INV u2)) := by
  refine hc _ (fun u1 c1 f1 w1 => hr u1 c1 _ (fun u2 c2 f2 w2 => ⟨rfl, ?_⟩))
  have ei : ∀ k i, (cellI k i ∧ k ≠ 275 ∧ k ≠ 276 ∧ k ≠ 50 + 2 * t) → gi u2 k i = gi u k i := fun k i hk => by
    unfold cellI at hk
    rw [c2.1 k i (by omega), c1.1 k i (by omega)]
  have el : ∀ k i, (cellL k i ∧ k ≠ 277 ∧ k ≠ 51 + 2 * t) → gl u2 k i = gl u k i := fun k i hk => by
    unfold cellL at hk
    rw [c2.2 k i (by omega), c1.2 k i (by omega)]
  refine ⟨?_, ?_, ?_, ?_, ?_, ?_, fun t' ht' => ?_, ?_, ?_, ?_, ?_, ?_⟩
  · rw [w2, c2.1 0 14 (by omega), w1]
  · rw [el 0 15 (by unfold cellL; omega), el 272 3 (by unfold cellL; omega)]; exact I.tp
  · rw [el 0 16 (by unfold cellL; omega), el 272 4 (by unfold cellL; omega)]; exact I.bt
  · rw [ei 0 17 (by unfold cellI; omega), ei 272 16 (by unfold cellI; omega)]; exact I.fk
  · rw [ei 0 18 (by unfold cellI; omega), ei 272 17 (by unfold cellI; omega)]; exact I.fp
  · exact I.tap.cg (ei _ _ (by unfold cellI; omega)) (ei _ _ (by unfold cellI; omega)) (fun i => ei _ _ (by unfold cellI; omega)) (fun i => ei _ _ (by unfold cellI; omega))
  · by_cases e : t' = t
    · subst e
      refine ⟨s, hs, ?_, f2.1, Or.inr ⟨m, hm, ?_, f2.2.1, fun i hi => ?_⟩⟩
      · rw [c2.1 _ _ (by omega)]; exact f1.1
      · rw [c2.1 _ _ (by omega)]; exact f1.2.1
      · rw [c2.2 _ _ (by omega), f1.2.2 i hi, f2.2.2 i hi]
    · refine (I.tra t' ht').cg (fun i => ei _ _ (by unfold cellI; omega)) ?_ ?_ (fun i => el _ _ (by unfold cellL; omega)) (fun i hi => ?_)
      · rw [c2.1 _ _ (by omega), c1.1 _ _ (by omega)]
      · rw [c2.1 _ _ (by omega), c1.1 _ _ (by omega)]
      · rw [c2.2 _ _ (by omega), c1.2 _ _ (by omega)]
  · exact I.lvd.cg (fun i => ei _ _ (by unfold cellI; omega)) (ei _ _ (by unfold cellI; omega)) (fun i => ei _ _ (by unfold cellI; omega))
  · exact I.wrd.cg (ei _ _ (by unfold cellI; omega)) (ei _ _ (by unfold cellI; omega)) (fun i => el _ _ (by unfold cellL; omega)) (fun i => el _ _ (by unfold cellL; omega))
  · rw [ei 272 23 (by unfold cellI; omega), ei 272 24 (by unfold cellI; omega), ei 272 25 (by unfold cellI; omega)]; exact I.md
  · exact I.mks.cg (ei _ _ (by unfold cellI; omega)) (ei _ _ (by unfold cellI; omega)) (fun k i a => ei _ _ (by unfold cellI; omega)) (fun i a b => ei _ _ (by unfold cellI; omega)) (fun k i a b => el _ _ (by unfold cellL; omega)) (fun i a b => el _ _ (by unfold cellL; omega))
  · obtain ⟨σ, hσ⟩ := I.sl
    exact ⟨σ, hσ.cg (fun k i a1 a2 => ei k i (by unfold cellI; omega)) (fun k i a1 a2 => ei k i (by unfold cellI; omega)) (fun i a1 a2 => ei 273 i (by unfold cellI; omega)) (fun k i a1 => el k i (by unfold cellL; omega)) (fun i a1 a2 => el 274 i (by unfold cellL; omega))⟩
theorem k_trayT {t : Nat} {Q : Option Nat → xM → Prop} (ht : t < 4) (hq : Q (some (50 + 2 * t)) u) : p_X10_trayAt (nI t) u Q := by
  unfold p_X10_trayAt
  rw [l_4, cN0 (by omega), cLE (by omega) (by omega), cCL (by omega)]
  exact ⟨fun c => c.elim, fun _ => ⟨fun c => absurd c (by omega), fun _ => ⟨cIN (by omega) (by decide), hq⟩⟩⟩
theorem k_trayF {a : Int32} {Q : Option Nat → xM → Prop} (ht : ∀ t, t < 4 → a ≠ nI t) (hq : Q none u) : p_X10_trayAt a u Q := by
  unfold p_X10_trayAt
  exact ⟨fun _ => hq, fun c => ⟨fun _ => hq, fun d => absurd (rngF ht (by omega) c) d⟩⟩
theorem r_trayT {t : Nat} {Q : Bool → xM → Prop} (ht : t < 4) (hq : Q true u) : p_X11_isTray (nI t) u Q := by
  unfold p_X11_isTray
  rw [l_4, cN0 (by omega), cLE (by omega) (by omega)]
  exact ⟨fun c => c.elim, fun _ => ⟨fun c => absurd c (by omega), fun _ => hq⟩⟩
theorem r_trayF {a : Int32} {Q : Bool → xM → Prop} (ht : ∀ t, t < 4 → a ≠ nI t) (hq : Q false u) : p_X11_isTray a u Q := by
  unfold p_X11_isTray
  exact ⟨fun _ => hq, fun c => ⟨fun _ => hq, fun d => absurd (rngF ht (by omega) c) d⟩⟩
theorem k_lay {t s m : Nat} {Q : xM → Prop} (ht : t < 4) (hm : m ≤ 60) (hq : ∀ u', ct t u u' → CTR t s m (fun _ => 0) u' → Q u') : p_X9_lay (50 + 2 * t) (nI s) (nI m) u Q := by
  unfold p_X9_lay
  intro u1 h1 u2 h2
  refine xloop (fun k i (w : xM) => p_X9_lay_L12 (50 + 2 * t) Q k (nI i) w) (fun i w => ct t u w ∧ gi w (50 + 2 * t) 1 = nI s ∧ gi w (50 + 2 * t) 2 = nI m ∧ ∀ j, j < i → gl w (51 + 2 * t) j = 0) 60 0 u2 (Nat.zero_le _) ⟨?_, ?_, ?_, fun j hj => by omega⟩ ?_ ?_
  · rw [h2, h1]; exact (ct.rf.si (Or.inl rfl) ht).si (Or.inl rfl) ht
  · rw [h2, gi_si, if_neg (by omega), h1, gi_at]
  · rw [h2, gi_at]
  · intro k w hw
    unfold p_X9_lay_L12
    exact ⟨fun _ => hq w hw.1 ⟨hw.2.1, hw.2.2.1, fun i hi => hw.2.2.2 i (by omega)⟩, fun c => absurd (by decide) c⟩
  · intro k i w _ hi hw kk
    unfold p_X9_lay_L12
    refine ⟨fun c => absurd c (by rw [l_60, cLE (by omega) (by omega)]; omega), fun _ => ⟨cIN (by omega) (by decide), fun u3 h3 x4 h4 => ?_⟩⟩
    rw [l_1, cA] at h4
    subst h4
    rw [cCL (by omega), show 50 + 2 * t + 1 = 51 + 2 * t by omega] at h3
    refine kk u3 ⟨?_, ?_, ?_, fun j hj => ?_⟩
    · rw [h3]; exact hw.1.sl rfl ht
    · rw [h3]; exact hw.2.1
    · rw [h3]; exact hw.2.2.1
    · rw [h3, gl_sl]
      by_cases e : j = i
      · rw [if_pos ⟨rfl, e⟩]
      · rw [if_neg (by omega)]; exact hw.2.2.2 j (by omega)
theorem r_done {t s m : Nat} {f : Nat → Int64} {w : Int32} {u1 : xM} {Q : Bool → xM → Prop} (hw : w = 0) (hq : ∀ u', rt t u1 u' → RTR t s m f u' → gi u' 272 2 = w → Q true u') (c : rt t u1 u) (r : RTR t s m f u) : p_X11_is w u Q := fun u2 h2 => ⟨fun z => absurd hw z, fun _ => hq u2 (by rw [h2]; exact c.si (Or.inr ⟨rfl, rfl⟩)) ⟨by rw [h2, gi_si, if_neg (by omega)]; exact r.1, by rw [h2, gi_si, if_neg (by omega)]; exact r.2.1, fun i hi => by rw [h2]; exact r.2.2 i hi⟩ (by rw [h2]; exact gi_at _ _ _ _)⟩
theorem k_doneT {t s m : Nat} {f : Nat → Int64} {Q : Bool → xM → Prop} (ht : t < 4) (hq : ∀ u', ct t u0 u' → CTR t s m f u' → gi u' 0 14 = 0 → Q true u') (c : ct t u0 u) (r : CTR t s m f u) : p_X10_done u Q := fun u2 h2 => hq u2 (by rw [h2]; exact c.si (Or.inr ⟨rfl, rfl⟩) ht) ⟨by rw [h2, gi_si, if_neg (by omega)]; exact r.1, by rw [h2, gi_si, if_neg (by omega)]; exact r.2.1, fun i hi => by rw [h2]; exact r.2.2 i hi⟩ (by rw [h2]; exact gi_at _ _ _ _)
theorem K_tray (I : INV u) (a b c : Int32) : p_X10_tray a b c u (fun r u1 => p_X11_tray a b c u1 (fun r' u2 => r = r' ∧ INV u2)) := by
  obtain ⟨σ, S, L, ok, R⟩ := I.sp
  rcases below (a := a) 4 with ⟨t, ht, rfl⟩ | ha
  · rcases fromTo (a := b) 0 3 (by decide) with ⟨s, _, hs, rfl⟩ | hb
    · rcases fromTo (a := c) 0 60 (by decide) with ⟨m, _, hm, rfl⟩ | hc
      · refine ptr (pc := p_X10_tray (nI t) (nI s) (nI m) u) (pr := p_X11_tray (nI t) (nI s) (nI m)) I (s := s) (m := m) (f := fun _ => 0) ht hs hm true 0 (fun Q hq => ?_) (fun u1 c1 Q hq => ?_)
        · unfold p_X10_tray
          refine k_trayT ht ⟨fun z => (nomatch z), fun t2 e2 => ?_⟩
          rw [← (Option.some.inj e2)]
          exact k_withinT (lo := 0) (hi := 3) rfl rfl (by omega) hs (by decide) ⟨fun z => absurd z (by decide), fun _ => k_withinT (lo := 0) (hi := 60) rfl rfl (by omega) hm (by decide) ⟨fun _ => k_lay ht hm (fun u2 c2 f2 => k_doneT ht hq c2 f2), fun z => absurd z (by decide)⟩⟩
        · unfold p_X11_tray
          refine r_trayT ht ⟨fun z => absurd z (by decide), fun _ => ?_⟩
          rw [l_3, l_60, cN0 (by omega), cN0 (by omega), cLT (by omega) (by omega), cLE (by omega) (by omega), cCL (by omega)]
          refine ⟨fun z => z.elim, fun _ => ⟨fun z => absurd z (by omega), fun _ => ⟨fun z => z.elim, fun _ => ⟨fun _ => ⟨cIN (by omega) (by decide), fun u2 h2 => ⟨cIN (by omega) (by decide), fun u3 h3 => ?_⟩⟩, fun z => absurd hm z⟩⟩⟩⟩
          refine xloop (fun k i (w : xM) => p_X11_tray_L49 Q k (nI t) (nI m) (nI i) w) (fun i w => rt t u1 w ∧ gi w 275 t = nI s ∧ gi w 276 t = nI m ∧ ∀ j, j < i → gl w 277 (60 * t + j) = 0) m 0 u3 (Nat.zero_le _) ⟨?_, ?_, ?_, fun j hj => by omega⟩ ?_ ?_
          · rw [h3, h2]; exact (rt.rf.si (Or.inl ⟨Or.inl rfl, rfl⟩)).si (Or.inl ⟨Or.inr rfl, rfl⟩)
          · rw [h3, gi_si, if_neg (by omega), h2, gi_at]
          · rw [h3, gi_at]
          · intro k w hw
            unfold p_X11_tray_L49
            exact ⟨fun _ => r_done rfl hq hw.1 ⟨hw.2.1, hw.2.2.1, hw.2.2.2⟩, fun z => absurd (by rw [cLE (by omega) (by omega)]; exact Nat.le_refl _) z⟩
          · intro k i w _ hi hw kk
            unfold p_X11_tray_L49
            rw [l_60, cM, cA]
            refine ⟨fun z => absurd z (by rw [cLE (by omega) (by omega)]; omega), fun _ => ⟨cIN (by omega) (by decide), fun u5 h5 x6 h6 => ?_⟩⟩
            rw [l_1, cA] at h6
            subst h6
            rw [cCL (by omega)] at h5
            refine kk u5 ⟨?_, ?_, ?_, fun j hj => ?_⟩
            · rw [h5]; exact hw.1.sl ⟨rfl, by omega, by omega⟩
            · rw [h5]; exact hw.2.1
            · rw [h5]; exact hw.2.2.1
            · rw [h5, gl_sl]
              by_cases e : j = i
              · rw [if_pos ⟨rfl, by omega⟩]
              · rw [if_neg (by omega)]; exact hw.2.2.2 j (by omega)
      · refine pj (pc := p_X10_tray (nI t) (nI s) c u) (pr := p_X11_tray (nI t) (nI s) c) I ok R false 1 (fun Q hq => ?_) (fun u1 c1 R Q hq => ?_)
        · unfold p_X10_tray
          refine k_trayT ht ⟨fun z => (nomatch z), fun t2 _ => ?_⟩
          exact k_withinT (lo := 0) (hi := 3) rfl rfl (by omega) hs (by decide) ⟨fun z => absurd z (by decide), fun _ => k_withinF (lo := 0) (hi := 60) rfl rfl hc (by decide) (by decide) ⟨fun z => absurd z (by decide), fun _ => k_refused hq cq.rf⟩⟩
        · unfold p_X11_tray
          refine r_trayT ht ⟨fun z => absurd z (by decide), fun _ => ?_⟩
          refine ⟨fun _ => r_isF (by decide) hq rq.rf, fun _ => ⟨fun _ => r_isF (by decide) hq rq.rf, fun _ => ⟨fun _ => r_isF (by decide) hq rq.rf, fun c0 => ⟨fun z => ?_, fun _ => r_isF (by decide) hq rq.rf⟩⟩⟩⟩
          have h := rngG (n := 60) (fun r hr => hc r (by omega) hr) (by decide) c0
          rw [← l_60, Int32.lt_iff_toInt_lt] at h
          rw [Int32.le_iff_toInt_le] at z
          omega
    · refine pj (pc := p_X10_tray (nI t) b c u) (pr := p_X11_tray (nI t) b c) I ok R false 1 (fun Q hq => ?_) (fun u1 c1 R Q hq => ?_)
      · unfold p_X10_tray
        refine k_trayT ht ⟨fun z => (nomatch z), fun t2 _ => ?_⟩
        exact k_withinF (lo := 0) (hi := 3) rfl rfl hb (by decide) (by decide) ⟨fun _ => k_refused hq cq.rf, fun z => absurd z (by decide)⟩
      · unfold p_X11_tray
        refine r_trayT ht ⟨fun z => absurd z (by decide), fun _ => ?_⟩
        refine ⟨fun _ => r_isF (by decide) hq rq.rf, fun c0 => ⟨fun _ => r_isF (by decide) hq rq.rf, fun z => absurd ?_ z⟩⟩
        exact rngG (n := 3) (fun r hr => hb r (by omega) hr) (by decide) c0
  · refine pj (pc := p_X10_tray a b c u) (pr := p_X11_tray a b c) I ok R false 1 (fun Q hq => ?_) (fun u1 c1 R Q hq => ?_)
    · unfold p_X10_tray
      exact k_trayF ha ⟨fun _ => k_refused hq cq.rf, fun t2 e2 => (nomatch e2)⟩
    · unfold p_X11_tray
      exact r_trayF ha ⟨fun _ => r_isF (by decide) hq rq.rf, fun z => absurd z (by decide)⟩
/-! write, read -/
theorem k_isMissingT {p : Nat} {Q : Bool → xM → Prop} (h : gi u p 2 = -1) (hq : Q true u) : p_X9_isMissing p u Q := by
  unfold p_X9_isMissing
  rw [h]
  exact ⟨fun c => absurd c (by decide), fun _ => hq⟩
theorem k_isMissingF {p m : Nat} {Q : Bool → xM → Prop} (h : gi u p 2 = nI m) (hm : m < 2147483648) (hq : Q false u) : p_X9_isMissing p u Q := by
  unfold p_X9_isMissing
  rw [h, c0L hm]
  exact ⟨fun _ => hq, fun c => absurd trivial c⟩
theorem k_hasT {p m i : Nat} {Q : Bool → xM → Prop} (h : gi u p 2 = nI m) (hm : m < 2147483648) (hi : i < m) (hq : Q true u) : p_X9_has p (nI i) u Q := by
  unfold p_X9_has
  rw [h, cN0 (by omega), cLE (by omega) (by omega)]
  exact ⟨fun c => c.elim, fun _ => ⟨fun c => absurd c (by omega), fun _ => hq⟩⟩
theorem k_hasF {p m : Nat} {a : Int32} {Q : Bool → xM → Prop} (h : gi u p 2 = nI m) (hm : m < 2147483648) (hi : ∀ i, i < m → a ≠ nI i) (hq : Q false u) : p_X9_has p a u Q := by
  unfold p_X9_has
  rw [h]
  exact ⟨fun _ => hq, fun c => ⟨fun _ => hq, fun d => absurd (rngF hi hm c) d⟩⟩
def cutL (s : Nat) (v : Int64) : Int64 := if s = 0 then ((v.toInt32).toInt8.toInt32).toInt64 else if s = 1 then ((v.toInt32).toInt16.toInt32).toInt64 else if s = 2 then (v.toInt32).toInt64 else v
theorem k_cut {p s : Nat} {v : Int64} {Q : Int64 → xM → Prop} (h : gi u p 1 = nI s) (hs : s ≤ 3) (hq : Q (cutL s v) u) : p_X9_cut p v u Q := by
  unfold p_X9_cut
  intro x1 e1
  unfold cutL at hq
  rw [e1, h, cE0 (by omega), show (nI s = 1) = (s = 1) from cEQ (b := 1) (by omega) (by omega), show (nI s = 2) = (s = 2) from cEQ (b := 2) (by omega) (by omega)]
  refine ⟨fun c => ?_, fun c => ?_, fun c => ?_, fun c1 c2 c3 => ?_⟩
  · rw [if_pos c] at hq; exact hq
  · rw [if_neg (by omega), if_pos c] at hq; exact hq
  · rw [if_neg (by omega), if_neg (by omega), if_pos c] at hq; exact hq
  · rw [if_neg c1, if_neg c2, if_neg c3] at hq; exact hq
theorem r_cut {s : Nat} {v : Int64} {Q : Int64 → xM → Prop} (hs : s ≤ 3) (hq : Q (cutL s v) u) : p_X11_cut v (nI s) u Q := by
  unfold p_X11_cut
  unfold cutL at hq
  rw [cE0 (by omega), show (nI s = 1) = (s = 1) from cEQ (b := 1) (by omega) (by omega), show (nI s = 2) = (s = 2) from cEQ (b := 2) (by omega) (by omega)]
  refine ⟨fun c1 => ⟨fun c2 => ⟨fun c3 => ?_, fun c => ?_⟩, fun c => ?_⟩, fun c => ?_⟩
  · rw [if_neg c1, if_neg c2, if_neg c3] at hq; exact hq
  · rw [if_neg (by omega), if_neg (by omega), if_pos c] at hq; exact hq
  · rw [if_neg (by omega), if_pos c] at hq; exact hq
  · rw [if_pos c] at hq; exact hq
theorem r_wrong0 {t m i : Nat} {Q : Int32 → xM → Prop} (ht : t < 4) (h : gi u 276 t = nI m) (hm : m ≤ 60) (hi : i < m) (hq : Q 0 u) : p_X11_wrongPlace (nI t) (nI i) u Q := by
  unfold p_X11_wrongPlace
  refine r_trayT ht ⟨fun _ => ⟨cIN (by omega) (by decide), ?_⟩, fun z => absurd z (by decide)⟩
  rw [cCL (by omega), h, cN0 (by omega), cLT (by omega) (by omega)]
  exact ⟨fun _ => ⟨fun z => z.elim, fun _ => ⟨cIN (by omega) (by decide), fun _ => hq, fun z => absurd hi z⟩⟩, fun z => absurd z (nI_ne_m1 (by omega))⟩
theorem r_wrong3 {t m : Nat} {a : Int32} {Q : Int32 → xM → Prop} (ht : t < 4) (h : gi u 276 t = nI m) (hm : m ≤ 60) (hi : ∀ i, i < m → a ≠ nI i) (hq : Q 3 u) : p_X11_wrongPlace (nI t) a u Q := by
  unfold p_X11_wrongPlace
  refine r_trayT ht ⟨fun _ => ⟨cIN (by omega) (by decide), ?_⟩, fun z => absurd z (by decide)⟩
  rw [cCL (by omega), h]
  refine ⟨fun _ => ⟨fun _ => hq, fun c => ⟨cIN (by omega) (by decide), fun z => ?_, fun _ => hq⟩⟩, fun z => absurd z (nI_ne_m1 (by omega))⟩
  have d := rngF hi (by omega) c
  rw [Int32.lt_iff_toInt_lt] at z
  rw [Int32.le_iff_toInt_le] at d
  omega
theorem r_wrong2 {t : Nat} {a : Int32} {Q : Int32 → xM → Prop} (ht : t < 4) (h : gi u 276 t = -1) (hq : Q 2 u) : p_X11_wrongPlace (nI t) a u Q := by
  unfold p_X11_wrongPlace
  refine r_trayT ht ⟨fun _ => ⟨cIN (by omega) (by decide), ?_⟩, fun z => absurd z (by decide)⟩
  rw [cCL (by omega), h]
  exact ⟨fun z => absurd rfl z, fun _ => hq⟩
theorem r_wrong1 {a b : Int32} {Q : Int32 → xM → Prop} (ht : ∀ t, t < 4 → a ≠ nI t) (hq : Q 1 u) : p_X11_wrongPlace a b u Q := by
  unfold p_X11_wrongPlace
  exact r_trayF ht ⟨fun z => absurd z (by decide), fun _ => hq⟩
theorem K_write (I : INV u) (a b : Int32) (c : Int64) : p_X10_write a b c u (fun r u1 => p_X11_write a b c u1 (fun r' u2 => r = r' ∧ INV u2)) := by
  obtain ⟨σ, S, L, ok, R⟩ := I.sp
  rcases below (a := a) 4 with ⟨t, ht, rfl⟩ | ha
  · obtain ⟨s, hs, s1, s2, hm⟩ := I.tra t ht
    rcases hm with ⟨m1, m2⟩ | ⟨m, hm, m1, m2, m3⟩
    · refine pj (pc := p_X10_write (nI t) b c u) (pr := p_X11_write (nI t) b c) I ok R false 2 (fun Q hq => ?_) (fun u1 c1 R Q hq => ?_)
      · unfold p_X10_write
        refine k_trayT ht ⟨fun z => (nomatch z), fun t2 e2 => ?_⟩
        rw [← (Option.some.inj e2)]
        exact k_isMissingT m1 ⟨fun z => absurd z (by decide), fun _ => k_refused hq cq.rf⟩
      · unfold p_X11_write
        exact r_wrong2 ht ((c1.1 _ _ (by omega)).trans m2) ⟨fun _ => r_isF (by decide) hq rq.rf, fun z => absurd z (by decide)⟩
    · rcases below (a := b) m with ⟨i, hi, rfl⟩ | hb
      · refine ptr (pc := p_X10_write (nI t) (nI i) c u) (pr := p_X11_write (nI t) (nI i) c) I (s := s) (m := m) (f := fun j => if j = i then cutL s c else gl u (51 + 2 * t) j) ht hs hm true 0 (fun Q hq => ?_) (fun u1 c1 Q hq => ?_)
        · unfold p_X10_write
          refine k_trayT ht ⟨fun z => (nomatch z), fun t2 e2 => ?_⟩
          rw [← (Option.some.inj e2)]
          refine k_isMissingF m1 (by omega) ⟨fun _ => k_hasT m1 (by omega) hi ⟨fun _ => ?_, fun z => absurd z (by decide)⟩, fun z => absurd z (by decide)⟩
          unfold p_X9_put
          refine k_hasT m1 (by omega) hi ⟨fun z => absurd z (by decide), fun _ => k_cut s1 hs ⟨cIN (by omega) (by decide), fun u7 h7 => ?_⟩⟩
          rw [cCL (by omega), show 50 + 2 * t + 1 = 51 + 2 * t by omega] at h7
          refine k_doneT ht hq (by rw [h7]; exact ct.rf.sl rfl ht) ⟨by rw [h7]; exact s1, by rw [h7]; exact m1, fun j hj => ?_⟩
          dsimp only
          rw [h7, gl_sl]
          by_cases e : j = i
          · rw [if_pos ⟨rfl, e⟩, if_pos e]
          · rw [if_neg (by omega), if_neg e]
        · have m2' := (c1.1 276 t (by omega)).trans m2
          have s2' := (c1.1 275 t (by omega)).trans s2
          unfold p_X11_write
          refine r_wrong0 ht m2' hm hi ⟨fun z => absurd rfl z, fun _ => ⟨cIN (by omega) (by decide), ?_⟩⟩
          rw [cCL (by omega), s2']
          refine r_cut hs ?_
          rw [l_60, cM, cA]
          refine ⟨cIN (by omega) (by decide), fun u10 h10 => ?_⟩
          rw [cCL (by omega)] at h10
          refine r_done rfl hq (by rw [h10]; exact rt.rf.sl ⟨rfl, by omega, by omega⟩) ⟨by rw [h10]; exact s2', by rw [h10]; exact m2', fun j hj => ?_⟩
          dsimp only
          rw [h10, gl_sl]
          by_cases e : j = i
          · rw [if_pos ⟨rfl, by omega⟩, if_pos e]
          · rw [if_neg (by omega), if_neg e, m3 j hj, c1.2 277 _ (by omega)]
      · refine pj (pc := p_X10_write (nI t) b c u) (pr := p_X11_write (nI t) b c) I ok R false 3 (fun Q hq => ?_) (fun u1 c1 R Q hq => ?_)
        · unfold p_X10_write
          refine k_trayT ht ⟨fun z => (nomatch z), fun t2 e2 => ?_⟩
          rw [← (Option.some.inj e2)]
          exact k_isMissingF m1 (by omega) ⟨fun _ => k_hasF m1 (by omega) hb ⟨fun z => absurd z (by decide), fun _ => k_refused hq cq.rf⟩, fun z => absurd z (by decide)⟩
        · unfold p_X11_write
          exact r_wrong3 ht ((c1.1 _ _ (by omega)).trans m2) hm hb ⟨fun _ => r_isF (by decide) hq rq.rf, fun z => absurd z (by decide)⟩
  · refine pj (pc := p_X10_write a b c u) (pr := p_X11_write a b c) I ok R false 1 (fun Q hq => ?_) (fun u1 c1 R Q hq => ?_)
    · unfold p_X10_write
      exact k_trayF ha ⟨fun _ => k_refused hq cq.rf, fun t2 e2 => (nomatch e2)⟩
    · unfold p_X11_write
      exact r_wrong1 ha ⟨fun _ => r_isF (by decide) hq rq.rf, fun z => absurd z (by decide)⟩
theorem r_readF {s : Int32} {Q : Int64 → xM → Prop} (hs : ¬ s ≤ 0) (hq : ∀ u', rq u u' → gi u' 272 2 = s → Q (-1) u') {a b : Int32} : ∀ u3 : xM, u3 = si u 272 2 s → (((gi u3 272 2) ≤ 0 → vp_in (((60 : Int32) * a) + b) 240 ∧ Q (gl u3 277 (((60 : Int32) * a) + b).toNatClampNeg) u3) ∧ (¬ ((gi u3 272 2) ≤ 0) → Q ((-1) : Int64) u3)) := fun u3 h3 => by
  have e : gi u3 272 2 = s := by rw [h3, gi_at]
  rw [e]
  exact ⟨fun z => absurd z hs, fun _ => hq u3 (by rw [h3]; exact rq.rf.st) e⟩
theorem K_read (I : INV u) (a b : Int32) : p_X10_read a b u (fun r u1 => p_X11_read a b u1 (fun r' u2 => r = r' ∧ INV u2)) := by
  obtain ⟨σ, S, L, ok, R⟩ := I.sp
  have em : ((-1 : Int32)).toInt64 = (-1 : Int64) := by decide +kernel
  rcases below (a := a) 4 with ⟨t, ht, rfl⟩ | ha
  · obtain ⟨s, hs, s1, s2, hm⟩ := I.tra t ht
    rcases hm with ⟨m1, m2⟩ | ⟨m, hm, m1, m2, m3⟩
    · refine pj (pc := p_X10_read (nI t) b u) (pr := p_X11_read (nI t) b) I ok R (-1) 2 (fun Q hq => ?_) (fun u1 c1 R Q hq => ?_)
      · unfold p_X10_read
        refine k_trayT ht ⟨fun z => (nomatch z), fun t2 e2 => ?_⟩
        rw [← (Option.some.inj e2)]
        exact k_isMissingT m1 ⟨fun z => absurd z (by decide), fun _ => k_none (u0 := u) (fun u' c s => by rw [em]; exact hq u' c s) cq.rf⟩
      · unfold p_X11_read
        exact r_wrong2 ht ((c1.1 _ _ (by omega)).trans m2) (r_readF (by decide) hq)
    · rcases below (a := b) m with ⟨i, hi, rfl⟩ | hb
      · refine pj (pc := p_X10_read (nI t) (nI i) u) (pr := p_X11_read (nI t) (nI i)) I ok R (gl u (51 + 2 * t) i) 0 (fun Q hq => ?_) (fun u1 c1 R Q hq => ?_)
        · unfold p_X10_read
          refine k_trayT ht ⟨fun z => (nomatch z), fun t2 e2 => ?_⟩
          rw [← (Option.some.inj e2)]
          refine k_isMissingF m1 (by omega) ⟨fun _ => k_hasT m1 (by omega) hi ⟨fun _ u11 h11 => ?_, fun z => absurd z (by decide)⟩, fun z => absurd z (by decide)⟩
          unfold p_X9_at
          refine k_hasT (by rw [h11, gi_si, if_neg (by omega)]; exact m1) (by omega) hi ⟨fun z => absurd z (by decide), fun _ => ⟨cIN (by omega) (by decide), ?_⟩⟩
          rw [cCL (by omega), show 50 + 2 * t + 1 = 51 + 2 * t by omega, h11, gl_si]
          exact hq _ cq.rf.st (gi_at _ _ _ _)
        · have m2' := (c1.1 276 t (by omega)).trans m2
          unfold p_X11_read
          refine r_wrong0 ht m2' hm hi (fun u3 h3 => ?_)
          have e : gi u3 272 2 = 0 := by rw [h3, gi_at]
          rw [e, l_60, cM, cA, cCL (by omega)]
          refine ⟨fun _ => ⟨cIN (by omega) (by decide), ?_⟩, fun z => absurd (by decide) z⟩
          have e2 : gl u3 277 (60 * t + i) = gl u (51 + 2 * t) i := by rw [h3, gl_si, c1.2 277 _ (by omega), m3 i hi]
          rw [e2]
          exact hq u3 (by rw [h3]; exact rq.rf.st) e
      · refine pj (pc := p_X10_read (nI t) b u) (pr := p_X11_read (nI t) b) I ok R (-1) 3 (fun Q hq => ?_) (fun u1 c1 R Q hq => ?_)
        · unfold p_X10_read
          refine k_trayT ht ⟨fun z => (nomatch z), fun t2 e2 => ?_⟩
          rw [← (Option.some.inj e2)]
          exact k_isMissingF m1 (by omega) ⟨fun _ => k_hasF m1 (by omega) hb ⟨fun z => absurd z (by decide), fun _ => k_none (u0 := u) (fun u' c s => by rw [em]; exact hq u' c s) cq.rf⟩, fun z => absurd z (by decide)⟩
        · unfold p_X11_read
          exact r_wrong3 ht ((c1.1 _ _ (by omega)).trans m2) hm hb (r_readF (by decide) hq)
  · refine pj (pc := p_X10_read a b u) (pr := p_X11_read a b) I ok R (-1) 1 (fun Q hq => ?_) (fun u1 c1 R Q hq => ?_)
    · unfold p_X10_read
      exact k_trayF ha ⟨fun _ => k_none (u0 := u) (fun u' c s => by rw [em]; exact hq u' c s) cq.rf, fun t2 e2 => (nomatch e2)⟩
    · unfold p_X11_read
      exact r_wrong1 ha (r_readF (by decide) hq)
end TRAYS
