/-! ===== nights lived by the reference ===== -/
def NR (K T N P : Nat → Nat) (L : Nat) (u : xM) : Prop := gi u 273 4 = nI L ∧ ∀ k, k < L → gi u 273 (160 + 6 * k) = nI (kc (K k)) ∧ (K k = 0 ∨ K k = 10 → gi u 273 (161 + 6 * k) = nI (N k)) ∧ (K k = 1 ∨ K k = 2 ∨ K k = 6 ∨ K k = 3 ∨ K k = 5 ∨ K k = 7 ∨ K k = 8 ∨ K k = 9 → gi u 273 (161 + 6 * k) = nI (T k)) ∧ (K k = 3 ∨ K k = 7 ∨ K k = 8 ∨ K k = 9 → gi u 273 (162 + 6 * k) = nI (N k)) ∧ (K k = 7 ∨ K k = 8 ∨ K k = 9 → gi u 273 (165 + 6 * k) = nI (sgc (K k))) ∧ (5 ≤ K k ∧ K k ≤ 10 ∨ K k = 12 → gi u 273 (164 + 6 * k) = nI (P k))
def RQ (q : Nat → Nat) (u : xM) : Prop := gi u 272 37 = nI (q 7) ∧ gi u 272 38 = nI (q 1) ∧ ∀ i, i < 5 → gi u 288 i = nI (q (i + 2))
def RRL (K P : Nat → Nat) (L : Nat) (c : cfg) (u : xM) : Prop := RR 0 c.1 u ∧ RQ c.2.1 u ∧ ∀ o, act K P L (c.2.1 0) o → gi u 287 o = nI (c.2.2 o - 1)
def rlf (u u' : xM) : Prop := (∀ k i, ¬ (k = 273 ∧ i < 160 ∧ i ≠ 4) → k ≠ 281 → k ≠ 282 → k ≠ 287 → k ≠ 288 → ¬ (k = 272 ∧ (i = 37 ∨ i = 38)) → gi u' k i = gi u k i) ∧ ∀ k i, k ≠ 273 → k ≠ 281 → k ≠ 282 → gl u' k i = gl u k i
section LIVER
variable {K T N P : Nat → Nat} {L : Nat} {σ τ : aS} {c : cfg} {u u' u0 : xM} {q : Nat → Nat}
theorem r_turnsG {d : Nat} {b : Bool} {Q : Bool → xM → Prop} (R : RR 0 σ u) (ok : okS σ) (hd : d < σ 1 0) (hf : (σ 20 0).testBit d = b → Q false u) (ht : (σ 20 0).testBit d = (!b) → ∀ u', RR 0 (sU σ 20 0 (σ 20 0 ^^^ 2 ^ d)) u' → gsame u u' → Q true u') : p_X11_turns (nI d) (6 : Int32) b u Q := by
  have h10 := ok.d
  unfold p_X11_turns
  refine r_doorV (w := 6) (f := 20) (v := nI (bitN (σ 20 0) d)) R ok hd rfl (by decide) (by decide) rfl (by simp [rk]; omega) rfl ?_
  rw [bitN_1]
  have st : ∀ x : Int32, x = nI (bitN (σ 20 0 ^^^ 2 ^ d) d) → RR 0 (sU σ 20 0 (σ 20 0 ^^^ 2 ^ d)) (si u 273 (61 + 8 * d) x) := fun x hx => by
    refine RR.st (f := 20) (i := d) R ok.r ok.d ok.e rfl rfl rfl (by decide) (by unfold rkM; simp; omega) (by simp [rk]; try omega) hx (fun g hg j hj hne => ?_)
    by_cases e : g = 20
    · subst e
      show nI (bitN (σ 20 0 ^^^ 2 ^ d) j) = nI (bitN (σ 20 0) j)
      rw [bitN_x, if_neg (fun z => hne ⟨rfl, z⟩)]
    · have e1 : ∀ j, sU σ 20 0 (σ 20 0 ^^^ 2 ^ d) g j = σ g j := fun j => by rw [sU_at, if_neg (by rintro ⟨z, -⟩; exact e z)]
      have e2 : rotD (sU σ 20 0 (σ 20 0 ^^^ 2 ^ d)) j = rotD σ j := rfl
      unfold rv
      rw [e1, e1, e2]
  have go : ∀ w0 : Bool, (σ 20 0).testBit d = w0 → p_X11_turns_L15 Q (nI d) (6 : Int32) b w0 u := fun w0 hw0 => by
    unfold p_X11_turns_L15
    rw [xb_ne, xb_eq]
    refine ⟨fun c => r_doorRow ?_, fun c => hf (hw0.trans c)⟩
    rw [l_6, cA]
    have ht' := ht (hw0.trans c)
    refine ⟨fun z => ⟨cIN (by omega) (by decide), fun u6 h6 => ht' u6 ?_ ?_⟩, fun z => ⟨cIN (by omega) (by decide), fun u6 h6 => ht' u6 ?_ ?_⟩⟩
    · rw [h6, cCL (by omega), show 55 + 8 * d + 6 = 61 + 8 * d by omega]
      refine st _ ?_
      rw [bitN_x, if_pos rfl]; unfold bitN; rw [hw0, c, z]; rfl
    · rw [h6, cCL (by omega)]
      exact gsame.at (by omega)
    · rw [h6, cCL (by omega), show 55 + 8 * d + 6 = 61 + 8 * d by omega]
      refine st _ ?_
      rw [bitN_x, if_pos rfl]; unfold bitN; rw [hw0, c, z]; rfl
    · rw [h6, cCL (by omega)]
      exact gsame.at (by omega)
  exact ⟨fun c => go false (by simpa using c), fun c => go true c⟩

theorem rlf.rf : rlf u u := ⟨fun _ _ _ _ _ _ _ _ => rfl, fun _ _ _ _ _ => rfl⟩
theorem rlf.tr {w : xM} (h : rlf u u') (h' : rlf u' w) : rlf u w := ⟨fun k i a b d e f g => (h'.1 k i a b d e f g).trans (h.1 k i a b d e f g), fun k i a b d => (h'.2 k i a b d).trans (h.2 k i a b d)⟩
theorem rlf.g (g : gsame u u') : rlf u u' := ⟨fun k i a b d _ _ _ => by
  by_cases e : k = 273
  · subst e; exact g.2 i (by omega)
  · exact g.1.1 k i ⟨e, b, d⟩, fun k i a b d => g.1.2 k i ⟨a, b, d⟩⟩
theorem rlf.si {k i : Nat} {x : Int32} (h : k = 287 ∨ k = 288 ∨ (k = 272 ∧ (i = 37 ∨ i = 38)) ∨ (k = 273 ∧ i < 160 ∧ i ≠ 4)) : rlf u (si u k i x) := ⟨fun a j h1 h2 h3 h4 h5 h6 => by rw [gi_si, if_neg (by omega)], fun _ _ _ _ _ => rfl⟩
theorem NR.cg (h : NR K T N P L u) (f : rlf u u') : NR K T N P L u' := by
  have e : ∀ i, 160 ≤ i → gi u' 273 i = gi u 273 i := fun i hi => f.1 273 i (by omega) (by omega) (by omega) (by omega) (by omega) (by omega)
  refine ⟨(f.1 273 4 (by omega) (by omega) (by omega) (by omega) (by omega) (by omega)).trans h.1, fun k hk => ?_⟩
  rw [e (160 + 6 * k) (by omega), e (161 + 6 * k) (by omega), e (162 + 6 * k) (by omega), e (164 + 6 * k) (by omega), e (165 + 6 * k) (by omega)]
  exact h.2 k hk
theorem RQ.cg (h : RQ q u) (e1 : ∀ i, gi u' 272 i = gi u 272 i) (e2 : ∀ i, gi u' 288 i = gi u 288 i) : RQ q u' := ⟨(e1 37).trans h.1, (e1 38).trans h.2.1, fun i hi => (e2 i).trans (h.2.2 i hi)⟩
theorem RQ.g (h : RQ q u) (g : gsame u u') : RQ q u' := h.cg (fun i => g.1.1 272 i ⟨by omega, by omega, by omega⟩) (fun i => g.1.1 288 i ⟨by omega, by omega, by omega⟩)
theorem RQ.set {i v : Nat} {x : Int32} (h : RQ q u) (hi : i < 5) (hx : x = nI v) : RQ (qU q (i + 2) v) (si u 288 i x) := ⟨by rw [gi_si, if_neg (by omega), qU_n (by omega)]; exact h.1, by rw [gi_si, if_neg (by omega), qU_n (by omega)]; exact h.2.1, fun j hj => by
  rw [gi_si, qU_at]
  by_cases e : j = i
  · rw [if_pos ⟨rfl, e⟩, if_pos (by omega), hx]
  · rw [if_neg (fun z => e z.2), if_neg (by omega)]; exact h.2.2 j hj⟩
/-- what does leaves: the misses not counted yet -/
def DO (k t n : Nat) (τ : aS) (q : Nat → Nat) (b : Bool) (u u' : xM) : Prop := RR 0 (eff k t n τ q).1 u' ∧ RQ (qU (eff k t n τ q).2 2 (q 2)) u' ∧ (eff k t n τ q).2 2 = q 2 + (if b then 0 else 1) ∧ rlf u u' ∧ ∀ i, gi u' 287 i = gi u 287 i
theorem DO.miss {k t n : Nat} (he : eff k t n τ q = (τ, qU q 2 (q 2 + 1))) (R : RR 0 τ u) (C : RQ q u) : DO k t n τ q false u u := by
  have e : ∀ v, qU (qU q 2 v) 2 (q 2) = q := fun v => by
    funext i
    rw [qU_at, qU_at]
    by_cases z : i = 2
    · rw [if_pos z, z]
    · rw [if_neg z, if_neg z]
  refine ⟨by rw [he]; exact R, by rw [he, e]; exact C, by rw [he]; dsimp only; rw [qU_s]; rfl, rlf.rf, fun _ => rfl⟩
theorem pop_3 {a b d : Nat} (h1 : ∀ i, a.testBit i = true → b.testBit i = true) (h2 : ∀ i, b.testBit i = true → d.testBit i = true) : pop (ndf d a) = pop (ndf b a) + pop (ndf d b) := by
  have e : ndf (ndf d a) (ndf b a) = ndf d b := by
    apply Nat.eq_of_testBit_eq
    intro i
    rw [ndf_testBit, ndf_testBit, ndf_testBit, ndf_testBit]
    have g1 := h1 i
    have g2 := h2 i
    cases ha : a.testBit i <;> cases hb : b.testBit i <;> cases hd : d.testBit i <;> simp_all
  rw [← e]
  refine pop_split ?_
  rw [ndf_iff]
  intro i hi
  rw [ndf_testBit] at hi ⊢
  have g2 := h2 i
  cases ha : a.testBit i <;> cases hb : b.testBit i <;> simp_all
theorem hrsB_up1 (n i : Nat) (h : (hrsB none n τ 22 0).testBit i = true) : (hrsB none (n + 1) τ 22 0).testBit i = true := drown_up _ _ _ i h
theorem r_lhours {n t : Nat} {Q : Bool → xM → Prop} (R : RR 0 τ u) (hM : MD none u) (h25 : gi u 272 25 = xb false) (ok : okS τ) (hp : τ 23 0 = 4095) (h3 : τ 3 0 ≤ 9999) (hn : n ≤ 12) (C : RQ q u) (hq : ∀ b u', DO 0 t n τ q b u u' → Q b u') : p_X11_hoursGo (nI n) u Q := by
  unfold p_X11_hoursGo
  rw [(r_at l_3 (by decide)).2, R.r3, cA, l_9999, cLE (by omega) (by omega)]
  refine ⟨(r_at l_3 (by decide)).1, fun z => ?_, fun z => ?_⟩
  · have he : eff 0 t n τ q = (hrs n τ, qU (qU q 3 (q 3 + n)) 5 (q 5 + pop (ndf (hrs n τ 22 0) (τ 22 0)))) := by
      unfold eff
      rw [if_pos rfl, if_pos z]
    refine xloop (fun m i (w : xM) => p_X11_hoursGo_L18 Q m (nI n) (nI i) w) (fun i w => RR 0 (hrsB none i τ) w ∧ RQ (qU q 5 (q 5 + pop (ndf (hrsB none i τ 22 0) (τ 22 0)))) w ∧ rlf u w ∧ ∀ j, gi w 287 j = gi u 287 j) n 0 u (Nat.zero_le _) ⟨R, ?_, rlf.rf, fun _ => rfl⟩ ?_ ?_
    · have e5 : qU q 5 (q 5 + pop (ndf (hrsB none 0 τ 22 0) (τ 22 0))) = q := by
        funext i
        rw [qU_at]
        by_cases y : i = 5
        · rw [if_pos y, y]
          show q 5 + pop (ndf (τ 22 0) (τ 22 0)) = q 5
          rw [ndf_self, pop_0, Nat.add_zero]
        · rw [if_neg y]
      rw [e5]
      exact C
    · intro m w hw
      unfold p_X11_hoursGo_L18
      refine ⟨fun _ => ⟨(show vp_in (1 : Int32) 5 from cIN (a := 1) (by omega) (by decide)), (show vp_in (1 : Int32) 5 from cIN (a := 1) (by omega) (by decide)), fun u4 h4 => ?_⟩, fun y => absurd (by rw [cLE (by omega) (by omega)]; exact Nat.le_refl _) y⟩
      rw [l_1, cCL (by omega), hw.2.1.2.2 1 (by omega), qU_n (by decide), cA] at h4
      refine hq true u4 ⟨?_, ?_, ?_, ?_, fun j => ?_⟩
      · rw [he, hrs_B hp, h4]
        exact hw.1.cg (hrsB_ok ok n (by omega)).r (hrsB_ok ok n (by omega)).d (hrsB_ok ok n (by omega)).e (fun i _ _ => by rw [gi_si, if_neg (by omega)])
      · rw [he, hrs_B hp, h4]
        have := hw.2.1.set (i := 1) (v := q 3 + n) (x := nI (q (1 + 2) + n)) (by omega) rfl
        have ee : qU (qU (qU q 3 (q 3 + n)) 5 (q 5 + pop (ndf (hrsB none n τ 22 0) (τ 22 0)))) 2 (q 2) = qU (qU q 5 (q 5 + pop (ndf (hrsB none n τ 22 0) (τ 22 0)))) (1 + 2) (q 3 + n) := by
          funext i
          rw [qU_at, qU_at, qU_at, qU_at, qU_at]
          by_cases y2 : i = 2
          · rw [if_pos y2, if_neg (by omega), if_neg (by omega), y2]
          · rw [if_neg y2]
            by_cases y5 : i = 5
            · rw [if_pos y5, if_neg (by omega), if_pos y5]
            · rw [if_neg y5]
              by_cases y3 : i = 3
              · rw [if_pos y3, if_pos (by omega)]
              · rw [if_neg y3, if_neg (by omega), if_neg y5]
        dsimp only
        rw [ee]
        exact this
      · rw [he]
        dsimp only
        rw [qU_n (by decide), qU_n (by decide)]; rfl
      · rw [h4]; exact hw.2.2.1.tr (rlf.si (by omega))
      · rw [h4, gi_si, if_neg (by omega)]; exact hw.2.2.2 j
    · intro m i w _ hi hw kk
      have okn := hrsB_ok (md := none) ok i (by omega)
      have okn1 := hrsB_ok (md := none) ok (i + 1) (by omega)
      have hd := okn1.drowned
      have h7 := okn1.p7
      have Rw : RS (hrsB none i τ) w := ⟨hw.1, hM.cg (hw.2.2.1.1 272 23 (by omega) (by omega) (by omega) (by omega) (by omega) (by omega)) (hw.2.2.1.1 272 24 (by omega) (by omega) (by omega) (by omega) (by omega) (by omega)), (hw.2.2.1.1 272 25 (by omega) (by omega) (by omega) (by omega) (by omega) (by omega)).trans h25⟩
      unfold p_X11_hoursGo_L18
      refine ⟨fun y => absurd y (by rw [cLE (by omega) (by omega)]; omega), fun _ => ⟨(show vp_in (3 : Int32) 5 from cIN (a := 3) (by omega) (by decide)), ?_⟩⟩
      refine r_goesByS Rw okn (by rw [hrsB_hour]; omega) (fun u6 R6 g6 _ => ?_)
      have hs1 : stp (opn (hrsB none i τ)) true (hrsB none i τ) = hrsB none (i + 1) τ := rfl
      have hdr : drw (opn (hrsB none i τ)) true (hrsB none i τ) = hrsB none (i + 1) τ 22 0 := rfl
      rw [hdr]
      have hle := ndf_le (hrsB none (i + 1) τ 22 0) (hrsB none i τ 22 0)
      refine r_bits (by omega) ⟨(show vp_in (3 : Int32) 5 from cIN (a := 3) (by omega) (by decide)), fun u11 h11 x12 h12 => ?_⟩
      rw [l_1, cA] at h12
      subst h12
      rw [l_3, cCL (by omega), hw.2.1.2.2 3 (by omega), show 3 + 2 = 5 from rfl, qU_s, cA] at h11
      refine kk u11 ⟨?_, ?_, ?_, fun j => ?_⟩
      · rw [h11, ← hs1]
        exact R6.cg okn1.r okn1.d okn1.e (fun e _ _ => by rw [gi_si, if_neg (by omega)])
      · have C6 := hw.2.1.g g6
        have := C6.set (i := 3) (v := q 5 + pop (ndf (hrsB none (i + 1) τ 22 0) (τ 22 0))) (x := nI (q 5 + pop (ndf (hrsB none i τ 22 0) (τ 22 0)) + pop (ndf (hrsB none (i + 1) τ 22 0) (hrsB none i τ 22 0)))) (by omega) (by
          rw [pop_3 (a := τ 22 0) (b := hrsB none i τ 22 0) (fun j hj => hrsB_up none i j hj) (fun j hj => hrsB_up1 i j hj)]
          congr 1
          omega)
        have ee : ∀ v w2, qU (qU q 5 v) (3 + 2) w2 = qU q 5 w2 := fun v w2 => by
          funext j
          rw [qU_at, qU_at, qU_at]
          by_cases y : j = 5
          · rw [if_pos y, if_pos y]
          · rw [if_neg y, if_neg y, if_neg y]
        rw [ee] at this
        rw [h11]
        exact this
      · rw [h11]; exact (hw.2.2.1.tr (rlf.g g6)).tr (rlf.si (by omega))
      · rw [h11, gi_si, if_neg (by omega), g6.1.1 287 j ⟨by omega, by omega, by omega⟩]; exact hw.2.2.2 j
  · refine hq false u (DO.miss ?_ R C)
    unfold eff
    rw [if_pos rfl, if_neg z]
theorem DO.turn {k t n d : Nat} {w : xM} (he : eff k t n τ q = (sU τ 20 0 (τ 20 0 ^^^ 2 ^ d), q)) (C : RQ q u) (R : RR 0 (sU τ 20 0 (τ 20 0 ^^^ 2 ^ d)) w) (g : gsame u w) : DO k t n τ q true u w := by
  have e : qU q 2 (q 2) = q := by
    funext i
    rw [qU_at]
    by_cases z : i = 2
    · rw [if_pos z, z]
    · rw [if_neg z]
  exact ⟨by rw [he]; exact R, by rw [he]; dsimp only; rw [e]; exact C.g g, by rw [he]; rfl, rlf.g g, fun i => g.1.1 287 i ⟨by omega, by omega, by omega⟩⟩
theorem r_lturn {k t n : Nat} {b : Bool} {Q : Bool → xM → Prop} (hk : k = 1 ∨ k = 2) (R : RR 0 τ u) (ok : okS τ) (ht : t < τ 1 0) (C : RQ q u) (hb : b = decide (k = 1)) (hq : ∀ b u', DO k t n τ q b u u' → Q b u') : p_X11_turns (nI t) (6 : Int32) b u Q := by
  refine r_turnsG R ok ht (fun z => hq false u (DO.miss ?_ R C)) (fun z u2 R2 g2 => hq true u2 (DO.turn (d := t) ?_ C R2 g2))
  · unfold eff
    rw [if_neg (by omega), if_pos hk, if_pos (by rw [z, hb])]
  · unfold eff
    rw [if_neg (by omega), if_pos hk, if_neg (by rw [z, hb]; cases decide (k = 1) <;> decide)]
theorem r_lbail {t n : Nat} {Q : Bool → xM → Prop} (R : RR 0 τ u) (ok : okS τ) (ht : t < τ 0 0) (hn : n ≤ 9999) (C : RQ q u) (hq : ∀ b u', DO 3 t n τ q b u u' → Q b u') : p_X11_bailsBy (nI t) (nI n) u Q := by
  have h7 := ok.r
  have hm := ok.rm ht
  unfold p_X11_bailsBy p_X11_bails
  refine r_roomV (w := 4) (f := 8) (v := nI (τ 8 t)) R ok ht rfl (by decide) (by decide) rfl (by simp [rk]; omega) rfl ?_
  rw [cLE (by omega) (by omega)]
  refine ⟨fun z => r_roomRow ?_, fun z => ⟨fun y => absurd y (by decide), fun _ => hq false u (DO.miss ?_ R C)⟩⟩
  · have he : eff 3 t n τ q = (sU τ 8 t (τ 8 t - n), qU q 4 (q 4 + n)) := by
      unfold eff
      rw [if_neg (by omega), if_neg (by omega), if_pos rfl, if_pos z]
    rw [l_4, cA]
    refine ⟨cIN (by omega) (by decide), cIN (by omega) (by decide), fun u8 h8 => ⟨fun _ => ⟨(show vp_in (2 : Int32) 5 from cIN (a := 2) (by omega) (by decide)), (show vp_in (2 : Int32) 5 from cIN (a := 2) (by omega) (by decide)), fun u6 h6 => ?_⟩, fun y => absurd y (by decide)⟩⟩
    rw [cCL (by omega), show 6 + 7 * t + 4 = 10 + 7 * t by omega, R.r8 ht, cS z] at h8
    have R8 : RR 0 (sU τ 8 t (τ 8 t - n)) u8 := by
      rw [h8]
      exact RR.one R ok (by decide) (by decide) (by decide) (by simpa [rrN] using ht) (by decide) (by simp [rk]) (by simp [rv, sU_at])
    have C8 : RQ q u8 := C.cg (fun i => by rw [h8, gi_si, if_neg (by omega)]) (fun i => by rw [h8, gi_si, if_neg (by omega)])
    have ok8 := okS_water (r := t) (v := τ 8 t - n) ok (by omega)
    rw [l_2, cCL (by omega), C8.2.2 2 (by omega), cA] at h6
    refine hq true u6 ⟨?_, ?_, ?_, ?_, fun j => ?_⟩
    · rw [he, h6]
      exact R8.cg ok8.r ok8.d ok8.e (fun e _ _ => by rw [gi_si, if_neg (by omega)])
    · have := C8.set (i := 2) (v := q 4 + n) (x := nI (q (2 + 2) + n)) (by omega) rfl
      rw [he, h6]
      have ee : qU (qU q 4 (q 4 + n)) 2 (q 2) = qU q (2 + 2) (q 4 + n) := by
        funext i
        rw [qU_at, qU_at]
        by_cases y2 : i = 2
        · rw [if_pos y2, if_neg (by omega), y2]
        · rw [if_neg y2]
      dsimp only
      rw [ee]
      exact this
    · rw [he]
      dsimp only
      rw [qU_n (by decide)]; rfl
    · rw [h6, h8]; exact (rlf.si (by omega)).tr (rlf.si (by omega))
    · rw [h6, gi_si, if_neg (by omega), h8, gi_si, if_neg (by omega)]
  · unfold eff
    rw [if_neg (by omega), if_neg (by omega), if_pos rfl, if_neg z]
theorem r_lany {t n : Nat} {Q : Bool → xM → Prop} (R : RR 0 τ u) (ok : okS τ) (h7 : q 7 < 65536) (C : RQ q u) (hq : ∀ b u', DO 4 t n τ q b u u' → Q b u') : p_X11_turnsAny u Q := by
  have h10 := ok.d
  unfold p_X11_turnsAny
  rw [(r_at l_1 (by decide)).2, R.r1, cE0 (by omega)]
  refine ⟨(r_at l_1 (by decide)).1, fun z => ⟨(r_at l_1 (by decide)).1, ?_⟩, fun z => hq false u (DO.miss ?_ R C)⟩
  · have hr := Nat.mod_lt (q 7 * 3011 + 11213) (show 0 < 65536 by omega)
    have hm := Nat.mod_lt ((q 7 * 3011 + 11213) % 65536 / 8) (show 0 < τ 1 0 by omega)
    have he : eff 4 t n τ q = (sU τ 20 0 (τ 20 0 ^^^ 2 ^ ((q 7 * 3011 + 11213) % 65536 / 8 % τ 1 0)), qU q 7 ((q 7 * 3011 + 11213) % 65536)) := by
      unfold eff
      rw [if_neg (by omega), if_neg (by omega), if_neg (by omega), if_pos rfl, if_neg z]
    unfold p_X11_draw
    intro x1 h1 u2 h2
    rw [C.1, l_3011, cM, l_11213, cA, l_65536, cR (by omega) (by omega) (by omega)] at h1
    subst h1
    have R2 : RR 0 τ u2 := R.k ok (fun i _ => by rw [h2, gi_si, if_neg (by omega)])
    have C2 : RQ (qU q 7 ((q 7 * 3011 + 11213) % 65536)) u2 := ⟨by rw [h2, gi_at, qU_s], by rw [h2, gi_si, if_neg (by omega), qU_n (by decide)]; exact C.2.1, fun i hi => by rw [h2, gi_si, if_neg (by omega), qU_n (by omega)]; exact C.2.2 i hi⟩
    rw [cE0 (by omega), show gi u2 272 37 = nI ((q 7 * 3011 + 11213) % 65536) by rw [h2, gi_at], l_8, cD (by omega) (by omega) (by omega), cR (by omega) (by omega) (by omega)]
    refine ⟨z, fun x4 h4 => ?_⟩
    subst h4
    have f2 : rlf u u2 := by rw [h2]; exact rlf.si (by omega)
    have s2 : ∀ i, gi u2 287 i = gi u 287 i := fun i => by rw [h2, gi_si, if_neg (by omega)]
    have fin : ∀ w, RR 0 (sU τ 20 0 (τ 20 0 ^^^ 2 ^ ((q 7 * 3011 + 11213) % 65536 / 8 % τ 1 0))) w → gsame u2 w → Q true w := fun w Rw gw => hq true w ⟨by rw [he]; exact Rw, by
      have ee : qU (qU q 7 ((q 7 * 3011 + 11213) % 65536)) 2 (q 2) = qU q 7 ((q 7 * 3011 + 11213) % 65536) := by
        funext i
        rw [qU_at, qU_at]
        by_cases y2 : i = 2
        · rw [if_pos y2, if_neg (by omega), y2]
        · rw [if_neg y2]
      rw [he]
      dsimp only
      rw [ee]
      exact C2.g gw, by rw [he]; dsimp only; rw [qU_n (by decide)]; rfl, f2.tr (rlf.g gw), fun i => (gw.1.1 287 i ⟨by omega, by omega, by omega⟩).trans (s2 i)⟩
    refine r_doorV (w := 6) (f := 20) (v := nI (bitN (τ 20 0) ((q 7 * 3011 + 11213) % 65536 / 8 % τ 1 0))) R2 ok hm rfl (by decide) (by decide) rfl (by simp [rk]; omega) rfl ?_
    have hb := bitN_le (τ 20 0) ((q 7 * 3011 + 11213) % 65536 / 8 % τ 1 0)
    rw [cE0 (by omega)]
    refine ⟨fun y => r_turnsG R2 ok hm (fun y2 => ?_) (fun _ w Rw gw => fin w Rw gw), fun y => r_turnsG R2 ok hm (fun y2 => ?_) (fun _ w Rw gw => fin w Rw gw)⟩
    · exfalso
      unfold bitN at y
      rw [y2] at y
      exact y rfl
    · exfalso
      unfold bitN at y
      rw [y2] at y
      exact absurd y (by decide)
  · unfold eff
    rw [if_neg (by omega), if_neg (by omega), if_neg (by omega), if_pos rfl, if_pos z]
end LIVER
