/-! ===== nights ===== -/
def rx0 (u u' : xM) : Prop := (∀ k i, ¬ (k = 272 ∧ (i = 2 ∨ (10 ≤ i ∧ i ≤ 19) ∨ i = 21 ∨ i = 22)) → ¬ (k = 273 ∧ 2096 ≤ i) → k ≠ 279 → k ≠ 280 → gi u' k i = gi u k i) ∧ ∀ k i, ¬ (k = 274 ∧ 84 ≤ i) → gl u' k i = gl u k i
def rx1 (u u' : xM) : Prop := (∀ k i, ¬ (k = 272 ∧ (i = 2 ∨ (10 ≤ i ∧ i ≤ 19) ∨ i = 21 ∨ i = 22)) → ¬ (k = 273 ∧ (i = 4 ∨ (160 ≤ i ∧ i < 520) ∨ 2096 ≤ i)) → k ≠ 279 → k ≠ 280 → gi u' k i = gi u k i) ∧ ∀ k i, ¬ (k = 274 ∧ 84 ≤ i) → gl u' k i = gl u k i
section NIGHTSK
variable {B : Nat → Nat} {n : Nat} {u u' u0 : xM} {i : Nat} {D : DR} {s : NS} {σ : aS}
theorem rx0.tr {w : xM} (h : rx0 u u') (h' : rx0 u' w) : rx0 u w := ⟨fun k i a b c d => (h'.1 k i a b c d).trans (h.1 k i a b c d), fun k i a => (h'.2 k i a).trans (h.2 k i a)⟩
theorem rx1.tr {w : xM} (h : rx1 u u') (h' : rx1 u' w) : rx1 u w := ⟨fun k i a b c d => (h'.1 k i a b c d).trans (h.1 k i a b c d), fun k i a => (h'.2 k i a).trans (h.2 k i a)⟩
theorem rx0.rx1 (h : rx0 u u') : rx1 u u' := ⟨fun k i a b c d => h.1 k i a (by omega) c d, h.2⟩
theorem bg.rx0 (h : bg u u') : rx0 u u' := ⟨fun k i a b c _ => h.1 k i (by omega) c, fun k i _ => h.2 k i⟩
theorem rn.rx0 (h : rn u u') : rx0 u u' := ⟨fun k i a b c d => h.1 k i (by omega) b d, h.2⟩
theorem rnf.rx0 (h : rnf u u') : rx0 u u' := ⟨fun k i a b c d => h.1 k i (by omega) b d, h.2⟩
theorem r_nreads {Q : Int32 → xM → Prop} (hS : okS D.1) : ∀ (f : Nat) (s : NS) (i : Nat) (u : xM), n < i + f → okN D.1 s → NML D u → RND s u → RC B n i u u → run (pNAll B n D f s i) (fun k i => FK7 k i ∧ RNE B n u (p_X11_nights_L77 Q) k i) (fun s' => ∀ u', okN D.1 s' → s'.2.2.1 = [] → RND s' u' → gi u' 272 18 = 0 → rn u u' → p_X11_nights_L77 Q u') → p_X11_nights_L38 Q (f + 1) true u := by
  intro f
  induction f with
  | zero =>
    intro s i u hf hD hN hP h hq
    have h1 := rch_ge i h.1.1
    have h2 := pS_ln (B := B) (n := n) i
    omega
  | succ f ih =>
    intro s i u hf hok hN hP h hq
    have hlen := hok.1
    have hk := kr_is (a := 0) (tK_le (B := B) (n := n) (pS B n i))
    unfold p_X11_nights_L38
    rw [show (gi u 272 12 = 0) = _ from h.1.k12 (a := 0) (by omega), hk.2.1]
    unfold pNAll at hq
    refine ⟨fun z => absurd z (by decide), fun _ => ⟨fun z => ?_, fun z => ?_⟩⟩
    · rw [if_pos z] at hq
      unfold p_X11_nights_L57
      rw [hP.2.2.1.1, show ((nI s.2.2.1.length ≤ 0) : Prop) = (s.2.2.1.length ≤ 0) from cLE (b := 0) (by omega) (by omega)]
      refine ⟨fun y => absurd h.2.2.1 y, fun _ => ⟨fun y => ?_, fun y => ?_⟩⟩
      · have hs : s.2.2.1 = [] := List.length_eq_zero_iff.mp (by omega)
        rw [if_pos hs] at hq
        exact hq u hok hs hP h.2.2.1 rn.rf
      · rw [if_neg (fun y2 => y (by rw [y2]; exact Nat.le_refl _))] at hq
        have hq : FK7 2 i ∧ RNE B n u (p_X11_nights_L77 Q) 2 i := hq
        exact r_errs (k := 2) (Q := fun _ u3 => p_X11_nights_L77 Q u3) h (hq.2.re rn.rf)
    · rw [if_neg z, run_bnd] at hq
      refine r_nightStep hok hS hN hP h (run_and hq (g_npart hok) (fun k i hE _ u' a b => ?_) (fun a hq ha u' h' p' r' => ?_))
      · unfold p_X11_nights_L38
        have hf := fk_pos (B := B) (n := n) (i := i) hE.1
        refine ⟨fun _ => ?_, fun y => absurd y (by decide)⟩
        unfold p_X11_nights_L57
        refine ⟨fun _ => hE.2 u' a b, fun y => ?_⟩
        have e18 : gi u' 272 18 = nI (fk B n k i) := a.1
        rw [e18, show ((nI (fk B n k i) = 0) : Prop) = (fk B n k i = 0) from cEQ (b := 0) (by omega) (by omega)] at y
        omega
      · exact ih a.1 a.2 u' (by omega) ha.1 (hN.rn hS r') p' h' (run_mono hq (fun k i hE => ⟨hE.1, hE.2.mv r'⟩) (fun s' hq u'' a b c d e => hq u'' a b c d (r'.tr e)))
theorem r_ncopy {a : Int32} {Q : Int32 → xM → Prop} (hq : ∀ u', (∀ j, 160 ≤ j → j < 520 → gi u' 273 j = gi u 273 (2096 + j)) → (∀ k j, ¬ (k = 273 ∧ 160 ≤ j ∧ j < 520) → gi u' k j = gi u k j) → (∀ k j, gl u' k j = gl u k j) → p_X11_taken (gi u' 272 22) u' Q) : ∃ n9, p_X11_nights_L102 Q n9 160 u := by
  refine xloop (fun m j (w : xM) => p_X11_nights_L102 Q m (nI j) w) (fun j w => (∀ k, 160 ≤ k → k < j → gi w 273 k = gi u 273 (2096 + k)) ∧ (∀ k i, ¬ (k = 273 ∧ 160 ≤ i ∧ i < 520) → gi w k i = gi u k i) ∧ ∀ k i, gl w k i = gl u k i) 520 160 u (by omega) ⟨fun k h1 h2 => absurd h2 (by omega), fun _ _ _ => rfl, fun _ _ => rfl⟩ ?_ ?_
  · rintro m w ⟨a1, a2, a3⟩
    unfold p_X11_nights_L102
    exact ⟨fun _ => hq w a1 a2 a3, fun z => absurd (by decide) z⟩
  · rintro m j w h1 h2 ⟨a1, a2, a3⟩ kk
    unfold p_X11_nights_L102
    rw [show ((520 : Int32) ≤ nI j) = (520 ≤ j) from cLE (a := 520) (by omega) (by omega), l_2096, cA, cCL (by omega), cCL (by omega)]
    refine ⟨fun z => absurd z (by omega), fun _ => ⟨cIN (by omega) (by omega), cIN (by omega) (by omega), fun u6 e6 x7 e7 => ?_⟩⟩
    rw [l_1, cA] at e7
    rw [e7]
    refine kk u6 ⟨fun k h3 h4 => ?_, fun k i hk => ?_, fun k i => ?_⟩
    · rw [e6, gi_si]
      by_cases e : k = j
      · rw [if_pos ⟨rfl, e⟩, e, a2 273 _ (by omega)]
      · rw [if_neg (by omega)]; exact a1 k h3 (by omega)
    · rw [e6, gi_si, if_neg (by omega)]; exact a2 k i hk
    · rw [e6, gl_si]; exact a3 k i
theorem RLX.mv {b b' k : Nat} {F : aS} {z : Prop} (hz : z) (h : RLX b F z k u) (hg : ∀ c, c < 6 → gi u' 273 (b' + 6 * k + c) = gi u 273 (b + 6 * k + c)) : RLX b' F True k u' := by
  obtain ⟨a1, a2, a3, a4, a5, a6⟩ := h
  refine ⟨(hg 0 (by omega)).trans a1, fun y => (hg 1 (by omega)).trans (a2 y), fun y => (hg 1 (by omega)).trans (a3 y), fun y => (hg 2 (by omega)).trans (a4 y), fun y => (hg 5 (by omega)).trans (a5 y), fun y => (hg 4 (by omega)).trans (a6 ?_)⟩
  rcases y with y | y
  · exact Or.inl ⟨y.1, hz⟩
  · exact Or.inr y
theorem r_nights {n0 : Nat} {Q : Int32 → xM → Prop} (hS : okS D.1) (hN : NML D u) (h10 : gi u 272 10 = nI n0) (hn : n ≤ 300 ∧ n ≤ n0 ∧ n0 ≤ 900) (hB : ∀ i, i < n → gi u 278 i = sb (B i) ∧ B i < 256) (hq : run (pNAll B n D 301 N0 0) (fun k i => FK7 k i ∧ ∀ u', gi u' 272 16 = nI (fk B n k i) → gi u' 272 17 = nI (tS B n (pS B n i)) → gi u' 272 10 = 0 → gi u' 272 2 = 9 → rx0 u u' → Q (-1) u') (fun s => ∀ u', okN D.1 s → s.2.2.1 = [] → gi u' 273 4 = nI s.1 → (∀ k, k < s.1 → RLX 160 s.2.2.2 True k u') → gi u' 272 16 = 0 → gi u' 272 17 = -1 → gi u' 272 10 = 0 → gi u' 272 2 = 0 → rx1 u u' → Q (nI s.2.1) u')) : p_X11_nights (nI n) u Q := by
  unfold p_X11_nights
  refine r_begins (mo := 300) (by omega) hB h10 (by omega) (fun u1 a1 a2 a3 a4 a5 a6 => ⟨fun _ => ⟨cIN (a := 2100) (by omega) (by omega), fun u5 q5 u6 q6 u7 q7 => ⟨302, ?_⟩⟩, fun z => absurd z (by decide)⟩)
  rw [show ((2100 : Int32).toNatClampNeg) = 2100 from by decide] at q5
  have g7 : ∀ k i, ¬ (k = 273 ∧ i = 2100) → ¬ (k = 272 ∧ (i = 21 ∨ i = 22)) → gi u7 k i = gi u1 k i := fun k i a b => by rw [q7, gi_si, if_neg (by omega), q6, gi_si, if_neg (by omega), q5, gi_si, if_neg a]
  have l7 : ∀ k i, gl u7 k i = gl u1 k i := fun k i => by rw [q7, gl_si, q6, gl_si, q5, gl_si]
  have h1 : RC B n 0 u1 u1 := ⟨a1, a2, a3, rg.rf⟩
  have h7 : RC B n 0 u7 u7 := h1.nb (fun j p q => g7 272 j (by omega) (by omega)) (fun j => g7 279 j (by omega) (by omega))
  have r7 : rx0 u u7 := a6.rx0.tr ⟨fun k i a b c d => g7 k i (by omega) (by omega), fun k i _ => l7 k i⟩
  have hN7 : NML D u7 := hN.cg (r7.1 273 0 (by omega) (by omega) (by omega) (by omega)) (r7.1 273 1 (by omega) (by omega) (by omega) (by omega)) hS (fun j hj => r7.2 274 j (by omega))
  have hP7 : RND N0 u7 := by
    refine ⟨?_, ?_, ⟨?_, fun j hj => absurd hj (Nat.not_lt_zero _)⟩, fun k hk => absurd hk (Nat.not_lt_zero _)⟩
    · rw [q7, gi_si, if_neg (by omega), q6, gi_si, if_neg (by omega), q5, gi_at]; rfl
    · rw [q7, gi_at]; rfl
    · rw [q7, gi_si, if_neg (by omega), q6, gi_at]; rfl
  have e10 : gi u7 272 10 = 0 := (g7 272 10 (by omega) (by omega)).trans a5
  have e17 : gi u7 272 17 = -1 := (g7 272 17 (by omega) (by omega)).trans a4
  refine r_nreads hS 301 N0 0 u7 (by omega) N0_ok hN7 hP7 h7 (run_mono hq (fun k i hE => ⟨hE.1, fun u3 r3 f3 => ?_⟩) (fun s hE u3 hok hs p3 e18 f3 => ?_))
  · have hf := fk_pos (B := B) (n := n) (i := i) hE.1
    have e18 : gi u3 272 18 = nI (fk B n k i) := r3.1
    unfold p_X11_nights_L77
    refine ⟨fun _ u4 q4 => ?_, fun z => ?_⟩
    · have g4 : gi u4 272 18 = nI (fk B n k i) := by rw [q4, gi_si, if_neg (by omega), e18]
      rw [g4, show ((nI (fk B n k i) ≤ 0) : Prop) = (fk B n k i ≤ 0) from cLE (b := 0) (by omega) (by omega)]
      refine ⟨fun z => absurd z (by omega), fun _ u5' q5' => hE.2 u5' ?_ ?_ ?_ ?_ (r7.tr (f3.rx0.tr ⟨fun k i x _ _ _ => ?_, fun k i _ => ?_⟩))⟩
      · rw [q5', gi_si, if_neg (by omega), q4, gi_at, e18]
      · rw [q5', gi_si, if_neg (by omega), q4, gi_si, if_neg (by omega), r3.2]
      · rw [q5', gi_si, if_neg (by omega), q4, gi_si, if_neg (by omega), f3.1 272 10 (by omega) (by omega) (by omega), e10]
      · rw [q5', gi_at]
      · rw [q5', gi_si, if_neg (by omega), q4, gi_si, if_neg (by omega)]
      · rw [q5', gl_si, q4, gl_si]
    · rw [e18, show ((nI (fk B n k i) = 0) : Prop) = (fk B n k i = 0) from cEQ (b := 0) (by omega) (by omega)] at z
      omega
  · have hlen := hok.1
    unfold p_X11_nights_L77
    refine ⟨fun z => absurd e18 z, fun _ => ⟨cIN (a := 2100) (by omega) (by omega), cIN (a := 4) (by omega) (by omega), fun u6' q6' => r_ncopy (a := 0) (fun u8 c1 c2 c3 => ?_)⟩⟩
    rw [show ((2100 : Int32).toNatClampNeg) = 2100 from by decide, show ((4 : Int32).toNatClampNeg) = 4 from by decide, p3.1] at q6'
    have g6 : ∀ k i, ¬ (k = 273 ∧ i = 4) → gi u6' k i = gi u3 k i := fun k i a => by rw [q6', gi_si, if_neg a]
    have g8 : ∀ k i, ¬ (k = 273 ∧ (i = 4 ∨ (160 ≤ i ∧ i < 520))) → gi u8 k i = gi u3 k i := fun k i a => by rw [c2 k i (by omega), g6 k i (by omega)]
    have e22 : gi u8 272 22 = nI s.2.1 := (g8 272 22 (by omega)).trans p3.2.1
    have e18' : gi u8 272 18 = 0 := (g8 272 18 (by omega)).trans e18
    rw [e22]
    intro u9 q9
    have e9 : gi u9 272 18 = 0 := by rw [q9, gi_si, if_neg (by omega), e18']
    rw [e9]
    refine ⟨fun _ u10 q10 => ?_, fun z => absurd (by decide) z⟩
    have g10 : ∀ k i, ¬ (k = 272 ∧ (i = 2 ∨ i = 16)) → gi u10 k i = gi u8 k i := fun k i a => by rw [q10, gi_si, if_neg (by omega), q9, gi_si, if_neg (by omega)]
    have l10 : ∀ k i, gl u10 k i = gl u3 k i := fun k i => by rw [q10, gl_si, q9, gl_si, c3, q6', gl_si]
    refine hE u10 hok hs ?_ (fun k hk => ?_) ?_ ?_ ?_ ?_ (r7.rx1.tr (f3.rx0.rx1.tr ⟨fun k i x y _ _ => ?_, fun k i _ => l10 k i⟩))
    · rw [g10 273 4 (by omega), c2 273 4 (by omega), q6', gi_at]
    · refine RLX.mv (by rw [hs]; exact List.not_mem_nil) (p3.2.2.2 k hk) (fun c hc => ?_)
      rw [g10 273 _ (by omega), c1 _ (by omega) (by omega), g6 273 _ (by omega), show 2096 + (160 + 6 * k + c) = 2256 + 6 * k + c by omega]
    · rw [q10, gi_si, if_neg (by omega), q9, gi_at, e18']
    · rw [g10 272 17 (by omega), g8 272 17 (by omega), f3.1 272 17 (by omega) (by omega) (by omega), e17]
    · rw [g10 272 10 (by omega), g8 272 10 (by omega), f3.1 272 10 (by omega) (by omega) (by omega), e10]
    · rw [q10, gi_at]
    · rw [g10 k i (by omega), g8 k i (by omega)]
/-- the names of a land that is kept -/
theorem nmD (S : SLT σ 83 58 0 0 u) : ∃ D : DR, D.1 = σ ∧ CN 83 D u ∧ NML D u := by
  obtain ⟨hl, hr, ok, -, -, hn, -⟩ := S
  have h0 : ∀ i, ∃ l : List Nat, i < σ 0 0 → isNm l ∧ gl u (83 + 2) i = Int64.ofNat (c5 l) ∧ gl u 274 (0 + i) = Int64.ofNat (c8 l) := fun i => by
    by_cases hi : i < σ 0 0
    · obtain ⟨l, a, b, c⟩ := hn.1 i hi
      exact ⟨l, fun _ => ⟨a, b, c⟩⟩
    · exact ⟨[], fun z => absurd z hi⟩
  have h1 : ∀ i, ∃ l : List Nat, i < σ 1 0 → isNm l ∧ gl u (83 + 10) i = Int64.ofNat (c5 l) ∧ gl u 274 (0 + 7 + i) = Int64.ofNat (c8 l) := fun i => by
    by_cases hi : i < σ 1 0
    · obtain ⟨l, a, b, c⟩ := hn.2.1 i hi
      exact ⟨l, fun _ => ⟨a, b, c⟩⟩
    · exact ⟨[], fun z => absurd z hi⟩
  have h2 : ∀ i, ∃ l : List Nat, i < σ 2 0 → isNm l ∧ gl u (83 + 17) i = Int64.ofNat (c5 l) ∧ gl u 274 (0 + 17 + i) = Int64.ofNat (c8 l) := fun i => by
    by_cases hi : i < σ 2 0
    · obtain ⟨l, a, b, c⟩ := hn.2.2 i hi
      exact ⟨l, fun _ => ⟨a, b, c⟩⟩
    · exact ⟨[], fun z => absurd z hi⟩
  refine ⟨(σ, fun s i => if s = 0 then (h0 i).choose else if s = 1 then (h1 i).choose else (h2 i).choose), rfl, ⟨hl, ok, fun i hi => ?_, fun i hi => ?_, fun i hi => ?_⟩, hr.r0, hr.r1, fun j hj => ?_, fun j hj => ?_⟩
  · have := (h0 i).choose_spec hi
    exact ⟨this.1, this.2.1⟩
  · have := (h1 i).choose_spec hi
    exact ⟨this.1, this.2.1⟩
  · have := (h2 i).choose_spec hi
    exact ⟨this.1, this.2.1⟩
  · have := (h0 j).choose_spec hj
    exact ⟨this.1, this.2.2⟩
  · have := (h1 j).choose_spec hj
    exact ⟨this.1, this.2.2⟩
theorem ngt_ok (hok : okN σ s) (hs : s.2.2.1 = []) (e1 : gi u 58 0 = 1) (e2 : gi u 58 2 = nI s.1) (e3 : gi u 273 4 = nI s.1) (hc : ∀ k, k < s.1 → CLP s.2.2.2 k u) (hr : ∀ k, k < s.1 → RLX 160 s.2.2.2 True k u) : NGT 58 0 σ u := by
  obtain ⟨L, c, stk, F⟩ := s
  obtain ⟨⟨a1, a2, a3⟩, hb, cc, d, e, f, g⟩ := hok
  dsimp only at a1 a2 a3 hb cc d e f g hs e2 e3 hc hr
  subst hs
  refine Or.inr ⟨L, F 0, F 1, F 2, F 3, e1, by omega, e2, e3, fun k hk => ?_, ?_, ?_, ?_⟩
  · obtain ⟨p1, p2, p3, p4⟩ := hc k hk
    obtain ⟨r1, r2, r3, r4, r5, r6⟩ := hr k hk
    have E : ∀ c, 0 + 160 + c + 6 * k = 160 + 6 * k + c := fun c => by omega
    have E0 : 0 + 160 + 6 * k = 160 + 6 * k := by omega
    have E1 : 0 + 161 + 6 * k = 160 + 6 * k + 1 := by omega
    have E2 : 0 + 162 + 6 * k = 160 + 6 * k + 2 := by omega
    have E4 : 0 + 164 + 6 * k = 160 + 6 * k + 4 := by omega
    have E5 : 0 + 165 + 6 * k = 160 + 6 * k + 5 := by omega
    rw [E0, E1, E2, E4, E5]
    have h12 : F 0 k ≤ 12 := by
      rcases hb k hk with z | z
      · have := z.1; omega
      · omega
    have okl : ∀ q, F 0 k = q → q < 12 → okL σ (F 0 k) (F 1 k) (F 2 k) := fun q hq hq2 => (hb k hk).resolve_right (by omega)
    refine ⟨h12, p1, r1, fun z => ?_, fun z => ?_, fun z => ?_, fun z => ?_, fun z => ?_, fun z => ?_, fun z => ?_⟩
    · have o := okl 0 z (by omega)
      exact ⟨p3 (Or.inl z), r2 (Or.inl z), o.2.1 z⟩
    · have o := okl _ rfl (by omega)
      have ht : thK (F 0 k) := by unfold thK; omega
      exact ⟨p2 ht, r3 ht, o.2.2.1 z⟩
    · have o := okl _ rfl (by omega)
      have ht : thK (F 0 k) := by unfold thK; omega
      exact ⟨p2 ht, r3 ht, o.2.2.2.1 z⟩
    · have o := okl _ rfl (by omega)
      have ht : nuK (F 0 k) := by unfold nuK; omega
      exact ⟨p3 ht, r4 (by omega), o.2.2.2.2.1 z⟩
    · exact r5 (by omega)
    · have o := okl _ rfl (by omega)
      have ht : nuK (F 0 k) := by unfold nuK; omega
      exact ⟨p3 ht, r2 (by omega), o.2.2.2.2.2 z⟩
    · have hz : opK (F 0 k) ∨ F 0 k = 12 := z
      refine ⟨p4 hz, r6 ?_⟩
      rcases hz with hz | hz
      · exact Or.inl ⟨hz, trivial⟩
      · exact Or.inr hz
  · exact fun k hk h5 h10 => e k hk ⟨h5, h10⟩ List.not_mem_nil
  · intro k hk h12
    obtain ⟨f1, f2, f3, -⟩ := f k hk h12
    exact ⟨f1, f2.1, f2.2, f3⟩
  · exact fun k j hk h1 h2 h3 h4 h5 h6 => (g k j hk ⟨h1, h2⟩ List.not_mem_nil ⟨h3, h4⟩ h5 h6).2
theorem K_nights (I : INV u) (a : Int32) : p_X10_nights a u (fun r u1 => p_X11_nights a u1 (fun r' u2 => r = r' ∧ INV u2)) := by
  obtain ⟨n0, B, hn0, h13, h10, hB⟩ := tapB I.tap
  obtain ⟨σ, S⟩ := I.sl
  have bad : (a < 0 ∨ ¬ a ≤ gi u 0 13 ∨ ¬ a ≤ (300 : Int32)) → p_X10_nights a u (fun r u1 => p_X11_nights a u1 (fun r' u2 => r = r' ∧ INV u2)) := fun hc => by
    have q : ∀ u1, u1 = si u 0 14 (1 : Int32) → p_X11_nights a u1 (fun r' u2 => (-1 : Int32) = r' ∧ INV u2) := fun u1 q1 => by
      have fin : ∀ u2 : xM, u2 = si u1 272 2 (1 : Int32) → (-1 : Int32) = -1 ∧ INV u2 := fun u2 q2 => by
        refine ⟨rfl, I.cg (fun k i c => ?_) (fun k i _ => by rw [q2, gl_si, q1, gl_si]) (by rw [q2, gi_si, if_neg (by omega), q1, gi_at, gi_at])⟩
        unfold cellI at c
        rw [q2, gi_si, if_neg (by omega), q1, gi_si, if_neg (by omega)]
      unfold p_X11_nights p_X11_begins
      have e10 : gi u1 272 10 = gi u 0 13 := by rw [q1, gi_si, if_neg (by omega), h10, h13]
      rw [e10]
      refine ⟨fun _ => ⟨fun z => absurd z (by decide), fun _ => fin⟩, fun z => ⟨fun _ => ⟨fun z => absurd z (by decide), fun _ => fin⟩, fun z2 => ⟨fun z3 => ?_, fun _ => ⟨fun z => absurd z (by decide), fun _ => fin⟩⟩⟩⟩
      exfalso
      rcases hc with hc | hc | hc
      · exact z hc
      · rw [Int32.lt_iff_toInt_lt] at z2
        rw [Int32.le_iff_toInt_le] at hc
        omega
      · exact hc z3
    unfold p_X10_nights
    exact ⟨fun _ => q, fun z => ⟨fun _ => q, fun z2 => ⟨fun z3 => (hc.elim (fun y => absurd y z) (fun y => y.elim (fun y => absurd (by rw [Int32.lt_iff_toInt_lt] at z2; rw [Int32.le_iff_toInt_le]; omega) y) (fun y => absurd z3 y))), fun _ => q⟩⟩⟩
  by_cases c1 : a < 0
  · exact bad (Or.inl c1)
  · by_cases c2 : a ≤ gi u 0 13
    · by_cases c3 : a ≤ (300 : Int32)
      · obtain ⟨n, hn, rfl⟩ := nn_of c1
        rw [h13, cLE (by omega) (by omega)] at c2
        rw [show ((nI n) ≤ (300 : Int32)) = (n ≤ 300) from cLE (b := 300) (by omega) (by omega)] at c3
        obtain ⟨D, rfl, hC, hM⟩ := nmD S
        have hE := e_nall (B := B) (n := n) (D := D) 301 N0 0
        have r21 : ∀ f, f < 24 → rlO f ≤ 26 := by decide
        refine k_nights h13 ⟨c3, c2, hn0⟩ (fun i hi => ⟨(hB i (by omega)).1, (hB i (by omega)).2.2⟩) I.wrd hC ?_
        cases hx : pNAll B n D 301 N0 0 with
        | error e =>
          rw [hx] at hE
          intro u1 a1 a2 a3 a4 a5
          have hM1 : NML D u1 := hM.cg (a5.1 273 0 (by omega) (by omega) (by omega) (by omega) (by omega)) (a5.1 273 1 (by omega) (by omega) (by omega) (by omega) (by omega)) hC.2.1 (fun j _ => a5.2 274 j (by omega))
          refine r_nights (n0 := n0) (B := B) hC.2.1 hM1 (by rw [a5.1 272 10 (by omega) (by omega) (by omega) (by omega) (by omega)]; exact h10) ⟨c3, c2, hn0⟩ (fun i hi => ⟨by rw [a5.1 278 i (by omega) (by omega) (by omega) (by omega) (by omega)]; exact (hB i (by omega)).2.1, (hB i (by omega)).2.2⟩) ?_
          rw [hx]
          refine ⟨hE, fun u2 b1 b2 b3 b4 b5 => ⟨rfl, I.txt (fun k i c => ?_) (fun k i c => ?_) ?_ ?_ ?_ ?_ b3 ⟨D.1, S.cg (fun k i c d => ?_) (fun k i c d => ?_) (fun i c d => ?_) (fun k i c => ?_) (fun i c d => ?_)⟩⟩⟩
          · rw [b5.1 k i (by omega) (by omega) (by omega) (by omega), a5.1 k i (by omega) (by omega) (by omega) (by omega) (by omega)]
          · rw [b5.2 k i (by omega), a5.2 k i (by omega)]
          · rw [b5.1 0 14 (by omega) (by omega) (by omega) (by omega), a4, b4]
          · rw [b5.1 0 17 (by omega) (by omega) (by omega) (by omega), a1, b1]
          · rw [b5.1 0 18 (by omega) (by omega) (by omega) (by omega), a2, b2]
          · rw [b5.1 0 13 (by omega) (by omega) (by omega) (by omega), a3]
          · rw [b5.1 k i (by omega) (by omega) (by omega) (by omega), a5.1 k i (by omega) (by omega) (by omega) (by omega) (by omega)]
          · rw [b5.1 k i (by omega) (by omega) (by omega) (by omega), a5.1 k i (by omega) (by omega) (by omega) (by omega) (by omega)]
          · rw [b5.1 273 i (by omega) (by omega) (by omega) (by omega), a5.1 273 i (by omega) (by omega) (by omega) (by omega) (by omega)]
          · rw [b5.2 k i (by omega), a5.2 k i (by omega)]
          · rw [b5.2 274 i (by omega), a5.2 274 i (by omega)]
        | ok s =>
          intro u1 hok hs d0 d2 dl a1 a2 a3 a4 a7
          have hM1 : NML D u1 := hM.cg (a7.1 273 0 (by omega) (by omega) (by omega) (by omega) (by omega)) (a7.1 273 1 (by omega) (by omega) (by omega) (by omega) (by omega)) hC.2.1 (fun j _ => a7.2 274 j (by omega) (by omega))
          refine r_nights (n0 := n0) (B := B) hC.2.1 hM1 (by rw [a7.1 272 10 (by omega) (by omega) (by omega) (by omega) (by omega)]; exact h10) ⟨c3, c2, hn0⟩ (fun i hi => ⟨by rw [a7.1 278 i (by omega) (by omega) (by omega) (by omega) (by omega)]; exact (hB i (by omega)).2.1, (hB i (by omega)).2.2⟩) ?_
          rw [hx]
          intro u2 _ _ h4 hl b1 b2 b3 b4 b5
          have hlen := hok.1
          have ok1 := hC.2.1
          refine ⟨rfl, I.txt (fun k i c => ?_) (fun k i c => ?_) ?_ ?_ ?_ ?_ b3 ⟨D.1, S.1.cg (fun f hf i => ?_), fun f hf i hi => ?_, ok1, S.2.2.2.1, S.2.2.2.2.1, ⟨fun j hj => ?_, fun j hj => ?_, fun j hj => ?_⟩, ngt_ok hok hs ?_ ?_ h4 (fun k hk => ?_) hl⟩⟩
          · rw [b5.1 k i (by omega) (by omega) (by omega) (by omega), a7.1 k i (by omega) (by omega) (by omega) (by omega) (by omega)]
          · rw [b5.2 k i (by omega), a7.2 k i (by omega) (by omega)]
          · rw [b5.1 0 14 (by omega) (by omega) (by omega) (by omega), a4, b4]
          · rw [b5.1 0 17 (by omega) (by omega) (by omega) (by omega), a1, b1]
          · rw [b5.1 0 18 (by omega) (by omega) (by omega) (by omega), a2, b2]
          · rw [b5.1 0 13 (by omega) (by omega) (by omega) (by omega), a3]
          · have := r21 f hf
            rw [b5.1 _ _ (by omega) (by omega) (by omega) (by omega), a7.1 _ _ (by omega) (by omega) (by omega) (by omega) (by omega)]
          · have hi' := Nat.lt_of_lt_of_le hi (rrN_le ok1.r ok1.d ok1.e f)
            have h1 := rk_lt f hf i hi'
            have h2 := rk_4 f hf i hi'
            rw [b5.1 _ _ (by omega) (by omega) (by omega) (by omega), a7.1 _ _ (by omega) (by omega) (by omega) (by omega) (by omega)]
            exact S.2.1 f hf i hi
          · rw [b5.2 (83 + 2) j (by omega), a7.2 (83 + 2) j (by omega) (by omega), b5.2 274 _ (by have := ok1.r; omega), a7.2 274 _ (by omega) (by omega)]
            exact S.2.2.2.2.2.1.1 j hj
          · rw [b5.2 (83 + 10) j (by omega), a7.2 (83 + 10) j (by omega) (by omega), b5.2 274 _ (by have := ok1.d; omega), a7.2 274 _ (by omega) (by omega)]
            exact S.2.2.2.2.2.1.2.1 j hj
          · rw [b5.2 (83 + 17) j (by omega), a7.2 (83 + 17) j (by omega) (by omega), b5.2 274 _ (by have := ok1.e; omega), a7.2 274 _ (by omega) (by omega)]
            exact S.2.2.2.2.2.1.2.2 j hj
          · rw [b5.1 58 0 (by omega) (by omega) (by omega) (by omega), d0]
          · rw [b5.1 58 2 (by omega) (by omega) (by omega) (by omega), d2]
          · obtain ⟨p1, p2, p3, p4⟩ := dl k hk
            have e : ∀ j, 59 ≤ j → j ≤ 62 → gi u2 j k = gi u1 j k := fun j p q => b5.1 j k (by omega) (by omega) (by omega) (by omega)
            exact ⟨(e 59 (by omega) (by omega)).trans p1, fun y => (e 60 (by omega) (by omega)).trans (p2 y), fun y => (e 61 (by omega) (by omega)).trans (p3 y), fun y => (e 62 (by omega) (by omega)).trans (p4 y)⟩
      · exact bad (Or.inr (Or.inr c3))
    · exact bad (Or.inr (Or.inl c2))
end NIGHTSK
