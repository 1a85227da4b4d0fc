/-! ===== an hour of the reference ===== -/
section GOES
variable {σ : aS} {u : xM}
theorem RR.w {w : Nat → Nat} {r v k : Nat} {x : Int32} (h : RR 0 (sF σ 8 w) u) (ok : okS σ) (hr : r < σ 0 0) (hx : x = nI v) (hk : k = 10 + 7 * r) : RR 0 (sF σ 8 (fun a => if a = r then v else w a)) (si u 273 k x) := by
  have h7 := ok.r
  refine h.st (f := 8) (i := r) ok.r ok.d ok.e rfl rfl rfl (by decide) (by show r < 7; omega) (by rw [hk]; simp [rk]) (by rw [hx]; simp [rv, sF_at]) (fun g hg j hj hne => ?_)
  unfold rv
  by_cases e : g = 8
  · subst e
    have : j ≠ r := fun z => hne ⟨rfl, z⟩
    simp [sF_at, this]
  · simp [sF_at, e, rotD]
theorem RR.w0 (h : RR 0 σ u) : RR 0 (sF σ 8 (σ 8)) u := by rw [sF_id]; exact h
theorem RR.wc {b : Nat} {w v : Nat → Nat} (h : RR b (sF σ 8 w) u) (hv : ∀ r, r < σ 0 0 → v r = w r) : RR b (sF σ 8 v) u := by
  refine h.eq rfl rfl rfl (fun f hf i hi => ?_)
  unfold rv
  by_cases e : f = 8
  · subst e
    have hi : i < σ 0 0 := by simpa [rrN, sF_at] using hi
    simp [sF_at, hv i hi]
  · simp [sF_at, e, rotD]
theorem okS_w (ok : okS σ) {w : Nat → Nat} (hw : ∀ r, r < σ 0 0 → w r ≤ 9999) : okS (sF σ 8 w) := by
  refine ⟨ok.r, ok.d, ok.e, ok.h, fun r hr => ?_, fun d hd => ok.dr hd, fun e he => ok.er he, fun k hk => ok.hr hk, ok.held, ok.walled, ok.drowned, ok.ph⟩
  have hr : r < σ 0 0 := hr
  have a := ok.rm hr
  exact ⟨a.1, a.2.1, a.2.2.1, a.2.2.2.1, a.2.2.2.2.1, a.2.2.2.2.2.1, hw r hr, a.2.2.2.2.2.2.2⟩
/-- what an hour of the reference changes: its row's first 160 places, flows, moved -/
def gP (k : Nat) : Prop := k ≠ 273 ∧ k ≠ 281 ∧ k ≠ 282
def gsame (u u' : xM) : Prop := xsame gP u u' ∧ ∀ i, i = 4 ∨ 160 ≤ i → gi u' 273 i = gi u 273 i
theorem gsame.rf {u : xM} : gsame u u := ⟨xsame.rf, fun _ _ => rfl⟩
theorem gsame.tr {u v w : xM} (h1 : gsame u v) (h2 : gsame v w) : gsame u w := ⟨h1.1.tr h2.1, fun i hi => (h2.2 i hi).trans (h1.2 i hi)⟩
theorem gsame.at {u : xM} {k : Nat} {x : Int32} (hk : k < 160 ∧ k ≠ 4) : gsame u (si u 273 k x) := ⟨xsame.si (by simp [gP]), fun i hi => by rw [gi_si, if_neg]; rintro ⟨-, z⟩; omega⟩
theorem gsame.fl {u : xM} {k : Nat} {x : Int32} : gsame u (si u 281 k x) := ⟨xsame.si (by simp [gP]), fun i hi => by rw [gi_si, if_neg]; rintro ⟨z, -⟩; omega⟩
theorem gsame.mv {u : xM} {k : Nat} {x : Int32} : gsame u (si u 282 k x) := ⟨xsame.si (by simp [gP]), fun i hi => by rw [gi_si, if_neg]; rintro ⟨z, -⟩; omega⟩
theorem MO.same {op : Nat} {u' : xM} {τ : aS} (h : MO σ op u) (hs : xsame gP u u') (h1 : opn τ = opn σ) (h2 : τ 21 0 = σ 21 0) (h3 : τ 20 0 = σ 20 0) : MO τ op u' := by
  have a := hs.1 272 23 (by simp [gP])
  have b := hs.1 272 24 (by simp [gP])
  unfold MO
  rw [a, b, h1, h2, h3]
  exact h
theorem zero_or (m : Nat) : nI m ||| (0 : Int32) = nI m := by rw [l_0, bOR, Nat.or_zero]
theorem mk_s {p : Nat → Bool} {n : Nat} (h : p n = true) : mk p (n + 1) = mk p n ||| 2 ^ n := by simp [mk, h]
theorem mk_n {p : Nat → Bool} {n : Nat} (h : p n = false) : mk p (n + 1) = mk p n := by simp [mk, h]
theorem r_set62r {w : Nat} {v : Int32} {Q : Int32 → xM → Prop} (h : RR 0 σ u) (ok : okS σ) (hw : w < 2) (hq : Q v u) : ∃ n, p_X11_setOf_L62 Q n (nI w) v (0 : Int32) u := by
  refine ⟨1, ?_⟩
  unfold p_X11_setOf_L62
  refine ⟨by rw [l_1]; exact cIN (by omega) (by decide), fun _ => hq, fun _ => ⟨fun _ => hq, fun c => absurd ?_ c⟩⟩
  rw [l_1, cLE (by omega) (by omega)]
  omega
theorem r_setR {w : Nat} {p : Nat → Bool} {Q : Int32 → xM → Prop} (h : RR 0 σ u) (ok : okS σ) (hw : w < 2) (hp : ∀ r, r < σ 0 0 → p r = if w = 0 then decide (0 < dep σ r) else (σ 22 0).testBit r) (hq : Q (nI (mk p (σ 0 0))) u) : p_X11_setOf (nI w) u Q := by
  have h7 := ok.r
  unfold p_X11_setOf
  refine xloop (fun n i (s : Int32) => p_X11_setOf_L4 Q n (nI w) s (nI i) u) (fun i s => s = nI (mk p i)) (σ 0 0) 0 0 (Nat.zero_le _) rfl ?_ ?_
  · intro n s hs
    subst hs
    unfold p_X11_setOf_L4
    rw [(r_at l_0 (by decide)).2, h.r0, cLE (by omega) (by omega)]
    exact ⟨(r_at l_0 (by decide)).1, fun _ => r_set62r h ok hw hq, fun c => absurd (Nat.le_refl _) c⟩
  · intro n i s _ hi hs k
    subst hs
    have hpi := hp i hi
    have hdl := dep_le ok hi
    unfold p_X11_setOf_L4
    rw [(r_at l_0 (by decide)).2, h.r0, cLE (by omega) (by omega)]
    refine ⟨(r_at l_0 (by decide)).1, fun c => by omega, fun _ => ⟨fun c => ?_, fun _ => ⟨fun c => ?_, fun c => ?_⟩⟩⟩
    · rw [l_2, cLE (by omega) (by omega)] at c
      omega
    · rw [cE0 (by omega)] at c
      rw [if_neg c] at hpi
      refine r_roomV (w := 5) (f := 22) h ok hi rfl (by decide) (by decide) rfl (by simp [rk]; omega) rfl ?_
      have e22 : rv σ 22 i = nI (bitN (σ 22 0) i) := rfl
      show (_ → _) ∧ _
      rw [e22, bitN_1]
      refine ⟨fun z => ?_, fun z => ?_⟩
      · intro x hx y hy
        rw [zero_or] at hx
        rw [l_1, cA] at hy
        subst hx; subst hy
        refine k _ ?_
        rw [mk_n (by rw [hpi]; simpa using z)]
      · unfold p_X11_setOf_L45
        intro x hx y hy
        rw [bPOW (by omega), bOR] at hx
        rw [l_1, cA] at hy
        subst hx; subst hy
        refine k _ ?_
        rw [mk_s (by rw [hpi]; exact z)]
    · rw [cE0 (by omega)] at c
      rw [if_pos c] at hpi
      refine r_depthOf h ok hi ?_
      show (_ → _) ∧ _
      rw [l_0, cLE (by omega) (by omega), ← l_0]
      refine ⟨fun z => ?_, fun z => ?_⟩
      · intro x hx y hy
        rw [zero_or] at hx
        rw [l_1, cA] at hy
        subst hx; subst hy
        refine k _ ?_
        rw [mk_n (by rw [hpi]; simp; omega)]
      · unfold p_X11_setOf_L45
        intro x hx y hy
        rw [bPOW (by omega), bOR] at hx
        rw [l_1, cA] at hy
        subst hx; subst hy
        refine k _ ?_
        rw [mk_s (by rw [hpi]; simp; omega)]
theorem r_setD {w op : Nat} {p : Nat → Bool} {Q : Int32 → xM → Prop} (h : RR 0 σ u) (ok : okS σ) (hw : 2 ≤ w) (hw4 : w ≤ 4) (hM : w = 2 → MO σ op u) (hp : ∀ d, d < σ 1 0 → p d = if w = 2 then op.testBit d else if w = 3 then (σ 20 0).testBit d else (σ 21 0).testBit d) (hq : Q (nI (mk p (σ 1 0))) u) : p_X11_setOf (nI w) u Q := by
  have h7 := ok.r
  have h10 := ok.d
  have key : ∃ n, p_X11_setOf_L62 Q n (nI w) (0 : Int32) (0 : Int32) u := by
    refine xloop (fun n i (s : Int32) => p_X11_setOf_L62 Q n (nI w) s (nI i) u) (fun i s => s = nI (mk p i)) (σ 1 0) 0 0 (Nat.zero_le _) rfl ?_ ?_
    · intro n s hs
      subst hs
      unfold p_X11_setOf_L62
      rw [(r_at l_1 (by decide)).2, h.r1, cLE (by omega) (by omega)]
      exact ⟨(r_at l_1 (by decide)).1, fun _ => hq, fun c => absurd (Nat.le_refl _) c⟩
    · intro n i s _ hi hs k
      subst hs
      have hpi := hp i hi
      have no : p i = false → ∀ x : Int32, x = (nI (mk p i) ||| (0 : Int32)) → ∀ y : Int32, y = nI i + 1 → p_X11_setOf_L62 Q n (nI w) x y u := by
        intro z x hx y hy
        rw [zero_or] at hx
        rw [l_1, cA] at hy
        subst hx; subst hy
        refine k _ ?_
        rw [mk_n z]
      have yes : p i = true → p_X11_setOf_L115 Q (p_X11_setOf_L62 Q n) (nI w) (nI i) (nI (mk p i)) u := by
        intro z
        unfold p_X11_setOf_L115
        intro x hx y hy
        rw [bPOW (by omega), bOR] at hx
        rw [l_1, cA] at hy
        subst hx; subst hy
        refine k _ ?_
        rw [mk_s z]
      have flag : ∀ f a2 w2, a2 = nI w2 → w2 < 8 → f < 23 → rrN σ f = σ 1 0 → 55 + 8 * i + w2 = rk f i → (∃ m, rv σ f i = nI (bitN m i) ∧ p i = m.testBit i) → p_X11_setOf_L108 Q (p_X11_setOf_L62 Q n) (nI w) (nI i) (nI (mk p i)) (nI i) a2 u := by
        intro f a2 w2 e1 e2 e3 e4 e5 e6
        obtain ⟨m, e6, e7⟩ := e6
        unfold p_X11_setOf_L108
        refine r_doorV (w := w2) (f := f) h ok hi e1 e2 e3 e4 e5 e6 ?_
        show (_ → _) ∧ _
        rw [bitN_1]
        exact ⟨fun z => no (by rw [e7]; simpa using z), fun z => yes (by rw [e7]; exact z)⟩
      unfold p_X11_setOf_L62
      rw [(r_at l_1 (by decide)).2, h.r1, cLE (by omega) (by omega)]
      refine ⟨(r_at l_1 (by decide)).1, fun c => by omega, fun _ => ⟨fun c => ?_, fun _ => ⟨fun c => ⟨fun c3 => ?_, fun c3 => ?_⟩, fun c => ?_⟩⟩⟩
      · rw [l_1, cLE (by omega) (by omega)] at c
        omega
      · rw [l_2, cEQ (by omega) (by omega)] at c
        rw [l_3, cEQ (by omega) (by omega)] at c3
        exact flag 21 _ 7 rfl (by decide) (by decide) rfl (by simp [rk]; omega) ⟨σ 21 0, rfl, by rw [hpi, if_neg c, if_neg c3]⟩
      · rw [l_3, cEQ (by omega) (by omega)] at c3
        exact flag 20 _ 6 rfl (by decide) (by decide) rfl (by simp [rk]; omega) ⟨σ 20 0, rfl, by rw [hpi, if_neg (by omega), if_pos c3]⟩
      · rw [l_2, cEQ (by omega) (by omega)] at c
        refine r_isOpen h ok hi (hM c) ⟨fun z => no ?_, fun z => yes ?_⟩
        · rw [hpi, if_pos c, z]
        · rw [hpi, if_pos c, z]
  unfold p_X11_setOf
  refine ⟨1, ?_⟩
  unfold p_X11_setOf_L4
  rw [(r_at l_0 (by decide)).2, h.r0]
  refine ⟨(r_at l_0 (by decide)).1, fun _ => key, fun _ => ⟨fun _ => key, fun c => absurd ?_ c⟩⟩
  rw [l_2, cLE (by omega) (by omega)]
  omega
theorem r_set1 {Q : Int32 → xM → Prop} (h : RR 0 σ u) (ok : okS σ) (hq : Q (nI (σ 22 0)) u) : p_X11_setOf (1 : Int32) u Q := by
  refine r_setR (w := 1) (p := (σ 22 0).testBit) h ok (by decide) (fun r _ => by rw [if_neg (by decide)]) ?_
  rw [mk_of ok.drowned]
  exact hq
theorem r_set3 {Q : Int32 → xM → Prop} (h : RR 0 σ u) (ok : okS σ) (hq : Q (nI (σ 20 0)) u) : p_X11_setOf (3 : Int32) u Q := by
  refine r_setD (w := 3) (op := 0) (p := (σ 20 0).testBit) h ok (by decide) (by decide) (fun z => by omega) (fun r _ => by rw [if_neg (by decide), if_pos rfl]) ?_
  rw [mk_of ok.held]
  exact hq
theorem r_set4 {Q : Int32 → xM → Prop} (h : RR 0 σ u) (ok : okS σ) (hq : Q (nI (σ 21 0)) u) : p_X11_setOf (4 : Int32) u Q := by
  refine r_setD (w := 4) (op := 0) (p := (σ 21 0).testBit) h ok (by decide) (by decide) (fun z => by omega) (fun r _ => by rw [if_neg (by decide), if_neg (by decide)]) ?_
  rw [mk_of ok.walled]
  exact hq
theorem r_set2 {op : Nat} {Q : Int32 → xM → Prop} (h : RR 0 σ u) (ok : okS σ) (hM : MO σ op u) (ho : op < 2 ^ σ 1 0) (hq : Q (nI op) u) : p_X11_setOf (2 : Int32) u Q := by
  refine r_setD (w := 2) (op := op) (p := op.testBit) h ok (by decide) (by decide) (fun _ => hM) (fun r _ => by rw [if_pos rfl]) ?_
  rw [mk_of ho]
  exact hq
theorem r_set0 {Q : Int32 → xM → Prop} (h : RR 0 σ u) (ok : okS σ) (hq : Q (nI (mk (fun r => decide (0 < dep σ r)) (σ 0 0))) u) : p_X11_setOf (0 : Int32) u Q :=
  r_setR (w := 0) h ok (by decide) (fun r _ => by rw [if_pos rfl]) hq
theorem min9 {a : Nat} {z : Int} (h0 : 0 ≤ (a : Int) + z) (h1 : (a : Int) + z ≤ 2000000) : (if (nI a + iI z) < (9999 : Int32) then (nI a + iI z) else (9999 : Int32)) = nI (min 9999 ((a : Int) + z).toNat) := by
  have e : nI a + iI z = nI ((a : Int) + z).toNat := by
    rw [nI_iI, iI_add, nI_iI, Int.toNat_of_nonneg h0]
  have hb : ((a : Int) + z).toNat < 2147483648 := by omega
  rw [e, l_9999, Nat.min_comm]
  exact (iteMin (a := 9999) (b := ((a : Int) + z).toNat) (by omega) hb).trans (by rw [Nat.min_comm])
theorem r_roomRow {r : Nat} {Q : Int32 → xM → Prop} (hq : Q (nI (6 + 7 * r)) u) : p_X11_roomRow (nI r) u Q := by
  unfold p_X11_roomRow
  rw [l_6, l_7, cM, cA]
  exact hq
theorem r_doorRow {r : Nat} {Q : Int32 → xM → Prop} (hq : Q (nI (55 + 8 * r)) u) : p_X11_doorRow (nI r) u Q := by
  unfold p_X11_doorRow
  rw [l_55, l_8, cM, cA]
  exact hq
/-- water into a room's end, or out of it -/
theorem r_pours {e : Nat} {z : Int} {w : Nat → Nat} {Q : xM → Prop} (h : RR 0 (sF σ 8 w) u) (ok : okS σ) (he : e < σ 0 0 ∨ e = 7) (hw : ∀ r, r < σ 0 0 → w r ≤ 9999) (hz : e < σ 0 0 → 0 ≤ (w e : Int) + z ∧ z ≤ 100000)
    (hq : ∀ u', RR 0 (sF σ 8 (fun r => if r = e then min 9999 ((w r : Int) + z).toNat else w r)) u' → gsame u u' → xsame (fun k => k ≠ 273) u u' → Q u') : p_X11_pours (eR e) (iI z) u Q := by
  have h7 := ok.r
  unfold p_X11_pours
  rw [eR_m1 (by omega)]
  refine ⟨fun c => hq u (h.wc (fun r hr => by rw [if_neg (by omega)])) gsame.rf xsame.rf, fun c => ?_⟩
  have hr : e < σ 0 0 := by omega
  have hwe := hw e hr
  have hze := hz hr
  have : eR e = nI e := if_neg c
  rw [this]
  have e8 : gi u 273 (10 + 7 * e) = nI (w e) := by
    have := h.r8 (i := e) hr
    rw [this]; simp [sF_at]
  have okw := okS_w ok hw
  refine r_roomRow ?_
  refine r_roomV (w := 4) (f := 8) (v := nI (w e)) h okw hr rfl (by decide) (by decide) rfl (by simp [rk]; omega) (by simp [rv, sF_at]) ?_
  intro x hx
  have hx : x = nI (min 9999 ((w e : Int) + z).toNat) := by
    rw [hx]
    exact min9 (by omega) (by omega)
  subst hx
  rw [l_4, cA]
  refine ⟨cIN (by omega) (by decide), ?_⟩
  intro u1 hu1
  rw [cCL (by omega)] at hu1
  subst hu1
  refine hq _ ((h.w (v := min 9999 ((w e : Int) + z).toNat) ok hr rfl (by omega)).wc (fun r _ => ?_)) (gsame.at (by omega)) (xsame.si (by simp))
  by_cases c : r = e
  · rw [if_pos c, if_pos c, c]
  · rw [if_neg c, if_neg c]
end GOES
