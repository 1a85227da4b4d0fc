/-! ===== what is tried: on the class's other land; on the reference's own, kept ahead ===== -/
section TRY
variable {σ τ : aS} {u u' u0 : xM} {o : Nat} {md : Option Nat}
theorem k_asItIs {Q : xM → Prop} (L : LR 83 σ u) (ok : okS σ) (hq : ∀ u', LR 110 σ u' → LR 83 σ u' → cq u u' → Q u') : p_X10_asItIs u Q := by
  unfold p_X10_asItIs
  exact k_copyFrom (by omega) (fun u' c => hq u' (L.cp ok c) (L.same (oLand 110) c.2.2.2.2 (fun n hn => by unfold oLand; omega)) (cq.xs c.2.2.2.2 (fun k hk => by unfold oLand; omega)))
theorem cq.hr (c : cq u0 u) (x : xsame (hrP 110) u u') : cq u0 u' := c.tr (cq.xs x (fun k hk => by unfold hrP; omega))
theorem cq.w {k i : Nat} {x : Int32} (c : cq u0 u) (h : 110 ≤ k ∧ k < 164) : cq u0 (si u k i x) := c.tr ⟨fun a b hab => by rw [gi_si, if_neg (by omega)], fun _ _ _ => rfl⟩
theorem LR.hr {p : Nat} (L : LR o σ u) (x : xsame (hrP p) u u') (h : o + 27 ≤ p ∨ p + 27 ≤ o) : LR o σ u' := L.same (hrP p) x (fun n hn => by unfold hrP; omega)
theorem LR.w2 {k i : Nat} {x : Int32} (L : LR o σ u) (h : k < o ∨ o + 22 ≤ k) : LR o σ (si u k i x) := L.cg (fun f hf b => by rw [gi_si, if_neg (by have := rl_o f hf; omega)])
/-- u is u0 with its first numbers at 3144 and others there -/
def KT (u0 u : xM) : Prop := (∀ i, i < 160 → gi u 273 (3144 + i) = gi u0 273 i) ∧ (∀ k i, k < 272 ∨ (k = 272 ∧ (i < 2 ∨ (2 < i ∧ i < 23) ∨ 39 ≤ i)) ∨ (k = 273 ∧ 160 ≤ i ∧ i < 2096) ∨ (274 ≤ k ∧ k < 280) ∨ k = 289 → gi u k i = gi u0 k i) ∧ ∀ k i, k < 273 ∨ (274 ≤ k ∧ k < 280) ∨ k = 289 → gl u k i = gl u0 k i
theorem KT.g (h : KT u0 u) (g : gsame u u') : KT u0 u' := ⟨fun i hi => (g.2 _ (by omega)).trans (h.1 i hi), fun k i a => by
  refine Eq.trans ?_ (h.2.1 k i a)
  by_cases e : k = 273
  · subst e; exact g.2 i (by omega)
  · exact g.1.1 k i ⟨e, by omega, by omega⟩, fun k i a => (g.1.2 k i ⟨by omega, by omega, by omega⟩).trans (h.2.2 k i a)⟩
theorem KT.w {k i : Nat} {x : Int32} (h : KT u0 u) (hk : (k = 273 ∧ i < 160) ∨ (k = 272 ∧ 23 ≤ i ∧ i < 39) ∨ (280 ≤ k ∧ k < 289)) : KT u0 (si u k i x) := ⟨fun j hj => by rw [gi_si, if_neg (by omega)]; exact h.1 j hj, fun a b hab => by rw [gi_si, if_neg (by omega)]; exact h.2.1 a b hab, fun a b hab => h.2.2 a b hab⟩
theorem KT.x (h : KT u0 u) (x : xsame (fun k => k ≠ 273) u u') (h1 : ∀ i, 160 ≤ i → gi u' 273 i = gi u 273 i) : KT u0 u' := ⟨fun i hi => (h1 _ (by omega)).trans (h.1 i hi), fun k i a => by
  refine Eq.trans ?_ (h.2.1 k i a)
  by_cases e : k = 273
  · subst e; exact h1 i (by omega)
  · exact x.1 k i e, fun k i a => (x.2 k i (by omega)).trans (h.2.2 k i a)⟩
theorem KT.rq (h : KT u0 u) (h1 : ∀ i, i < 160 → gi u 273 i = gi u0 273 i) (h2 : gi u 272 23 = gi u0 272 23 ∧ gi u 272 24 = gi u0 272 24 ∧ gi u 272 25 = gi u0 272 25) (h26 : gi u 272 26 = gi u0 272 26 ∧ gi u 272 27 = gi u0 272 27) : rq u0 u := ⟨fun k i a => by
  by_cases e : k = 273
  · subst e
    by_cases e2 : i < 160
    · exact h1 i e2
    · exact h.2.1 273 i (by omega)
  · by_cases e3 : k = 272 ∧ 23 ≤ i ∧ i < 28
    · rcases (by omega : i = 23 ∨ i = 24 ∨ i = 25 ∨ i = 26 ∨ i = 27) with z | z | z | z | z
      · rw [e3.1, z]; exact h2.1
      · rw [e3.1, z]; exact h2.2.1
      · rw [e3.1, z]; exact h2.2.2
      · rw [e3.1, z]; exact h26.1
      · rw [e3.1, z]; exact h26.2
    · exact h.2.1 k i (by omega), fun k i a => h.2.2 k i a⟩
theorem r_keepsT {a : Int32} {Q : xM → Prop} (ha : a = 3144) (hq : ∀ u', KT u u' → xsame (fun k => k ≠ 273) u u' → (∀ i, i < 160 → gi u' 273 i = gi u 273 i) → Q u') : p_X11_keeps a u Q :=
  r_keeps (t := 3144) (by rw [ha]; decide) (by decide) (by decide) (fun u' x k1 k2 => hq u' ⟨k1, fun k i h => by
    by_cases e : k = 273
    · subst e; exact k2 i (by omega)
    · exact x.1 k i e, fun k i h => x.2 k i (by omega)⟩ x (fun i hi => k2 i (by omega)))
theorem r_restT {a : Int32} {Q : xM → Prop} (ha : a = 3144) (h : KT u0 u) (hq : ∀ u', KT u0 u' → (∀ i, i < 160 → gi u' 273 i = gi u0 273 i) → xsame (fun k => k ≠ 273) u u' → Q u') : p_X11_restores a u Q :=
  r_restores (t := 3144) (by rw [ha]; decide) (by decide) (by decide) (fun u' x k1 k2 => hq u' (h.x x k2) (fun i hi => (k1 i hi).trans (h.1 i hi)) x)
theorem RR.k (R : RR 0 σ u0) (ok : okS σ) (h : ∀ i, i < 160 → gi u 273 i = gi u0 273 i) : RR 0 σ u := R.cg ok.r ok.d ok.e (fun i _ hi => h i (by omega))
/-- moved by some hours -/
def mvd (md : Option Nat) (σ : aS) (n d : Nat) : Nat := sumN (fun k => pas (omd md (hrsB md k σ)) (hrsB md k σ) d) n
theorem r_waterIn {n : Nat} {a : Int32} {v : Nat} {Q : Int32 → xM → Prop} (R : RR 0 σ u) (ok : okS σ) (hn : σ 3 0 + n ≤ 20000) (hM : MD md u) (hst : gi u 272 25 = xb false) (ha : (a = -1 ∧ v = allW (hrsB md n σ)) ∨ ∃ r, r < σ 0 0 ∧ a = nI r ∧ v = hrsB md n σ 8 r)
    (hq : ∀ u', rq u u' → (∀ d, d < σ 1 0 → gi u' 282 d = gi u 282 d + nI (mvd md σ n d)) → Q (nI v) u') : p_X11_waterIn a (nI n) u Q := by
  have h7 := ok.r
  unfold p_X11_waterIn
  refine r_keepsT rfl (fun u1 k1 x1 s1 => ?_)
  have R1 := R.k ok s1
  have m23 := x1.1 272 23 (by omega)
  have m24 := x1.1 272 24 (by omega)
  have m25 := x1.1 272 25 (by omega)
  refine r_goes R1 ok hn (hM.cg m23 m24) (m25.trans hst) (fun u2 R2 g2 mv => ?_)
  have okn := hrsB_ok (md := md) ok n hn
  have fin : ∀ v, p_X11_restores (3144 : Int32) u2 (fun u7 => (∀ u', rq u u' → (∀ d, d < σ 1 0 → gi u' 282 d = gi u 282 d + nI (mvd md σ n d)) → Q v u') → Q v u7) := fun v => by
    refine r_restT rfl (k1.g g2) (fun u3 k3 s3 x3 h => h u3 (k3.rq s3 ⟨?_, ?_, ?_⟩ ⟨?_, ?_⟩) (fun d hd => ?_))
    · rw [x3.1 272 23 (by omega), g2.1.1 272 23 (by simp [gP]), m23]
    · rw [x3.1 272 24 (by omega), g2.1.1 272 24 (by simp [gP]), m24]
    · rw [x3.1 272 25 (by omega), g2.1.1 272 25 (by simp [gP]), m25]
    · rw [x3.1 272 26 (by omega), g2.1.1 272 26 (by simp [gP]), x1.1 272 26 (by omega)]
    · rw [x3.1 272 27 (by omega), g2.1.1 272 27 (by simp [gP]), x1.1 272 27 (by omega)]
    · rw [x3.1 282 d (by omega), mv d hd, x1.1 282 d (by omega)]; rfl
  have mono : ∀ v, (∀ u', rq u u' → (∀ d, d < σ 1 0 → gi u' 282 d = gi u 282 d + nI (mvd md σ n d)) → Q v u') → p_X11_restores (3144 : Int32) u2 (fun u7 => Q v u7) := fun v hv => by
    refine r_restT rfl (k1.g g2) (fun u3 k3 s3 x3 => hv u3 (k3.rq s3 ⟨?_, ?_, ?_⟩ ⟨?_, ?_⟩) (fun d hd => ?_))
    · rw [x3.1 272 23 (by omega), g2.1.1 272 23 (by simp [gP]), m23]
    · rw [x3.1 272 24 (by omega), g2.1.1 272 24 (by simp [gP]), m24]
    · rw [x3.1 272 25 (by omega), g2.1.1 272 25 (by simp [gP]), m25]
    · rw [x3.1 272 26 (by omega), g2.1.1 272 26 (by simp [gP]), x1.1 272 26 (by omega)]
    · rw [x3.1 272 27 (by omega), g2.1.1 272 27 (by simp [gP]), x1.1 272 27 (by omega)]
    · rw [x3.1 282 d (by omega), mv d hd, x1.1 282 d (by omega)]; rfl
  rcases ha with ⟨rfl, rfl⟩ | ⟨r, hr, rfl, rfl⟩
  · exact ⟨fun z => absurd rfl z, fun _ => r_allWater R2 okn (mono _ hq)⟩
  · refine ⟨fun _ => ?_, fun z => absurd z (nI_ne_m1 (by omega))⟩
    have hr2 : r < hrsB md n σ 0 0 := by rw [hrsB_kept md n σ (by decide : kept 0)]; exact hr
    exact r_roomV (w := 4) (f := 8) (v := nI (hrsB md n σ 8 r)) R2 okn hr2 rfl (by decide) (by decide) rfl (by simp [rk]; omega) rfl (mono _ hq)
theorem K_later (I : INV u) (a b : Int32) : p_X10_later a b u (fun r u1 => p_X11_later a b u1 (fun r' u2 => r = r' ∧ INV u2)) := by
  obtain ⟨σ, S, L, ok, R⟩ := I.sp
  have h3 := okS.hour S
  have hp : σ 23 0 = 4095 := S.2.2.2.2.1
  have h7 := ok.r
  rcases below (a := a) (σ 0 0) with ⟨r, hr, rfl⟩ | hr
  · rcases fromTo (a := b) 0 99 (by decide) with ⟨n, n1, n2, rfl⟩ | hn
    · refine pj (pc := p_X10_later (nI r) (nI n) u) (pr := p_X11_later (nI r) (nI n)) I ok R (nI (hrs n σ 8 r)) 0 (fun Q hq => ?_) (fun u1 c1 R Q hq => ?_)
      · unfold p_X10_later
        refine k_isRoomT L ok hr ⟨fun z => absurd z (by decide), fun _ => k_withinT (lo := 0) (hi := 99) rfl rfl n1 n2 (by decide) ⟨fun _ => k_asItIs L ok (fun u1 L1 _ c1 => k_goOn L1 ok (by omega) (fun u2 L2 x2 => ⟨cIN (by omega) (by decide), ?_⟩)), fun z => absurd z (by decide)⟩⟩
        have hr2 : r < hrs n σ 0 0 := by rw [hrs_kept n σ (by decide : kept 0)]; exact hr
        rw [cCL (by omega), show gi u2 117 r = nI (hrs n σ 8 r) from L2.f8 hr2]
        exact k_fine hq (c1.hr x2)
      · unfold p_X11_later p_X11_isSpan
        refine r_isRoomT R ok hr ⟨fun z => absurd z (by decide), fun _ => r_fromT (lo := 0) (hi := 99) (by decide) (by decide) n1 n2 (by decide) ⟨fun z => absurd z (by decide), fun _ => ?_⟩⟩
        rw [hrs_B hp] at hq
        exact r_waterIn R.1 ok (by omega) R.2.1 R.2.2 (Or.inr ⟨r, hr, rfl, rfl⟩) (fun u2 q2 _ => r_gives hq q2)
    · refine pj (pc := p_X10_later (nI r) b u) (pr := p_X11_later (nI r) b) I ok R (-1) 1 (fun Q hq => ?_) (fun u1 c1 R Q hq => ?_)
      · unfold p_X10_later
        exact k_isRoomT L ok hr ⟨fun z => absurd z (by decide), fun _ => k_withinF (lo := 0) (hi := 99) rfl rfl hn (by decide) (by decide) ⟨fun z => absurd z (by decide), fun _ => k_none hq cq.rf⟩⟩
      · unfold p_X11_later p_X11_isSpan
        exact r_isRoomT R ok hr ⟨fun z => absurd z (by decide), fun _ => r_fromF (lo := 0) (hi := 99) (by decide) (by decide) hn (by decide) ⟨fun _ => r_refuse hq rq.rf, fun z => absurd z (by decide)⟩⟩
  · refine pj (pc := p_X10_later a b u) (pr := p_X11_later a b) I ok R (-1) 1 (fun Q hq => ?_) (fun u1 c1 R Q hq => ?_)
    · unfold p_X10_later
      exact k_isRoomF L ok hr ⟨fun _ => k_none hq cq.rf, fun z => absurd z (by decide)⟩
    · unfold p_X11_later
      exact r_isRoomF R ok hr ⟨fun _ => r_refuse hq rq.rf, fun z => absurd z (by decide)⟩
theorem K_allLater (I : INV u) (b : Int32) : p_X10_allLater b u (fun r u1 => p_X11_allLater b u1 (fun r' u2 => r = r' ∧ INV u2)) := by
  obtain ⟨σ, S, L, ok, R⟩ := I.sp
  have h3 := okS.hour S
  have hp : σ 23 0 = 4095 := S.2.2.2.2.1
  rcases fromTo (a := b) 0 99 (by decide) with ⟨n, n1, n2, rfl⟩ | hn
  · refine pj (pc := p_X10_allLater (nI n) u) (pr := p_X11_allLater (nI n)) I ok R (nI (allW (hrs n σ))) 0 (fun Q hq => ?_) (fun u1 c1 R Q hq => ?_)
    · unfold p_X10_allLater
      exact k_withinT (lo := 0) (hi := 99) rfl rfl n1 n2 (by decide) ⟨fun _ => k_asItIs L ok (fun u1 L1 _ c1 => k_waterIn L1 ok (by omega) (fun u2 L2 x2 => k_fine hq (c1.hr x2))), fun z => absurd z (by decide)⟩
    · unfold p_X11_allLater p_X11_isSpan
      refine r_fromT (lo := 0) (hi := 99) (by decide) (by decide) n1 n2 (by decide) ⟨fun z => absurd z (by decide), fun _ => ?_⟩
      rw [hrs_B hp] at hq
      exact r_waterIn R.1 ok (by omega) R.2.1 R.2.2 (Or.inl ⟨rfl, rfl⟩) (fun u2 q2 _ => r_gives hq q2)
  · refine pj (pc := p_X10_allLater b u) (pr := p_X11_allLater b) I ok R (-1) 1 (fun Q hq => ?_) (fun u1 c1 R Q hq => ?_)
    · unfold p_X10_allLater
      exact k_withinF (lo := 0) (hi := 99) rfl rfl hn (by decide) (by decide) ⟨fun z => absurd z (by decide), fun _ => k_none hq cq.rf⟩
    · unfold p_X11_allLater p_X11_isSpan
      exact r_fromF (lo := 0) (hi := 99) (by decide) (by decide) hn (by decide) ⟨fun _ => r_refuse hq rq.rf, fun z => absurd z (by decide)⟩
end TRY
