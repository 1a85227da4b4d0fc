/-! ===== plan, planned: both ===== -/
theorem pop7_all : ((List.range 128).all fun m => decide (pop m < 8)) = true := by decide +kernel
theorem pop7 {m : Nat} (h : m < 128) : pop m < 8 := of_decide_eq_true (List.all_eq_true.mp pop7_all m (List.mem_range.mpr h))
section PLANK
variable {σ τ ρ θ : aS} {u u' u0 u1 : xM} {D W : Nat → Nat}
def vR (σ : aS) (D W : Nat → Nat) (acc : Option Nat) (u : xM) : Prop := (acc = none → gi u 272 32 = nI 1000000) ∧ ∀ b, acc = some b → gi u 272 32 = nI (D b) ∧ gi u 272 33 = nI (W b) ∧ ∀ e, e < σ 2 0 → gi u 284 e = nI (nb b e)
theorem gA_eq (σ : aS) (c h : Nat) : gA σ c h = σ 20 0 ||| dN (fun e => decide (nb c e = h)) (σ 15) (σ 2 0) := rfl
theorem r_plans (R : RS σ u) (ok : okS σ) (h3 : σ 3 0 ≤ 9999) (hD : ∀ c, VAL σ c → pop (hJ (gA σ c) 12 σ 22 0) = D c) (hW : ∀ c, VAL σ c → allW (hJ (gA σ c) 12 σ) = W c) (bD : ∀ c, D c < 8) (bW : ∀ c, W c < 1000000) {Q : xM → Prop} (hq : ∀ u' b, rq u u' → BST D W (VAL σ) (some b) → gi u' 272 32 = nI (D b) → gi u' 272 33 = nI (W b) → (∀ e, e < σ 2 0 → gi u' 284 e = nI (nb b e)) → Q u') : p_X11_plans u Q := by
  have h4 := ok.e
  have h10 := ok.p10
  have h10d := ok.d
  have h7 := ok.p7
  have hv0 : VAL σ (cE (σ 16) (σ 2 0)) := VAL_cE ok (fun e he => ⟨Nat.le_refl _, (ok.er he).2.1⟩)
  have hn0 : ∀ e, e < σ 2 0 → nb (cE (σ 16) (σ 2 0)) e = σ 16 e := fun e he => by
    rw [cE_nb (fun e he => by have := ok.er he; omega) (by omega), if_pos he]
  have hlow : ∀ x, VAL σ x → cE (σ 16) (σ 2 0) ≤ x := fun x hx => by
    have f : ∀ j, j < 4 → nb (cE (σ 16) (σ 2 0)) j ≤ nb x j := fun j hj => by
      by_cases z : j < σ 2 0
      · rw [hn0 j z]; exact (hx.2.1 j z).1
      · rw [hv0.2.2 j (by omega) hj]; omega
    have a0 := f 0 (by omega)
    have a1 := f 1 (by omega)
    have a2 := f 2 (by omega)
    have a3 := f 3 (by omega)
    rw [nb_sum hx.1, nb_sum hv0.1]
    omega
  generalize cE (σ 16) (σ 2 0) = c0 at hv0 hn0 hlow
  unfold p_X11_plans
  intro u1 h1
  refine xloop (fun m i (w : xM) => p_X11_plans_L9 Q m (nI i) w) (fun i w => rq u w ∧ gi w 272 32 = nI 1000000 ∧ ∀ e, e < i → gi w 283 e = nI (nb c0 e)) (σ 2 0) 0 u1 (Nat.zero_le _) ⟨?_, by rw [h1, gi_at]; exact l_1000000, fun e he => by omega⟩ ?_ ?_
  · rw [h1]
    exact ⟨fun a b hab => by rw [gi_si, if_neg (by omega)], fun _ _ _ => rfl⟩
  · intro m w hw
    have Rw := R.rq ok hw.1
    unfold p_X11_plans_L9
    rw [(r_at l_2 (by decide)).2, Rw.1.r2]
    refine ⟨(r_at l_2 (by decide)).1, fun _ => r_keepsT rfl (fun u2 k2 x2 s2 => ?_), fun z => absurd (by rw [cLE (by omega) (by omega)]; exact Nat.le_refl _) z⟩
    -- the hours one after another
    refine xloop (fun m i (s : Bool × xM) => p_X11_plans_L46 Q m s.1 s.2) (fun i s => KT w s.2 ∧ (∀ j, j < 160 → gi s.2 273 j = gi w 273 j) ∧ (∀ j, 23 ≤ j → j < 28 → j ≠ 24 → gi s.2 272 j = gi w 272 j) ∧ ∃ acc, vR σ D W acc s.2 ∧ ((s.1 = false ∧ BST D W (VAL σ) acc) ∨ (s.1 = true ∧ ∃ c, i ≤ c ∧ VAL σ c ∧ (∀ e, e < σ 2 0 → gi s.2 283 e = nI (nb c e)) ∧ BST D W (fun x => VAL σ x ∧ x < c) acc))) 65536 0 (true, u2) (Nat.zero_le _) ⟨k2, s2, fun j _ _ _ => x2.1 272 j (by omega), none, ⟨fun _ => by rw [x2.1 272 32 (by omega)]; exact hw.2.1, fun b hb => (nomatch hb)⟩, Or.inr ⟨rfl, c0, Nat.zero_le _, hv0, fun e he => by rw [x2.1 283 e (by omega)]; exact hw.2.2 e he, fun _ x hx => ?_, fun b hb => (nomatch hb)⟩⟩ ?_ ?_
    · have := hlow x hx.1
      omega
    · intro m s hs
      obtain ⟨ks, ss, qs, acc, vs, hs⟩ := hs
      rcases hs with ⟨e1, B⟩ | ⟨e1, c, hc, hv, _⟩
      · unfold p_X11_plans_L46
        refine ⟨fun _ u3 h3' => ?_, fun z => by rw [e1] at z; exact absurd z (by decide)⟩
        cases ha : acc with
        | none => exact absurd hv0 (B.1 ha _)
        | some b =>
          obtain ⟨a1, a2, a3⟩ := vs.2 b ha
          rw [ha] at B
          refine hq u3 b (hw.1.tr (KT.rq (by rw [h3']; exact ks.w (by omega)) (fun j hj => by rw [h3', gi_si, if_neg (by omega)]; exact ss j hj) ⟨?_, ?_, ?_⟩ ⟨?_, ?_⟩)) B ?_ ?_ (fun e he => ?_)
          · rw [h3', gi_si, if_neg (by omega)]; exact qs 23 (by omega) (by omega) (by omega)
          · rw [h3', gi_at]; exact Rw.2.1.2.symm
          · rw [h3', gi_si, if_neg (by omega)]; exact qs 25 (by omega) (by omega) (by omega)
          · rw [h3', gi_si, if_neg (by omega)]; exact qs 26 (by omega) (by omega) (by omega)
          · rw [h3', gi_si, if_neg (by omega)]; exact qs 27 (by omega) (by omega) (by omega)
          · rw [h3', gi_si, if_neg (by omega)]; exact a1
          · rw [h3', gi_si, if_neg (by omega)]; exact a2
          · rw [h3', gi_si, if_neg (by omega)]; exact a3 e he
      · have := hv.1
        omega
    · intro m i s _ hi hs kk
      obtain ⟨ks, ss, qs, acc, vs, hs⟩ := hs
      rcases hs with ⟨e1, B⟩ | ⟨e1, c, hc, hv, h83, B⟩
      · unfold p_X11_plans_L46
        refine ⟨fun _ u3 h3' => ?_, fun z => by rw [e1] at z; exact absurd z (by decide)⟩
        cases ha : acc with
        | none => exact absurd hv0 (B.1 ha _)
        | some b =>
          obtain ⟨a1, a2, a3⟩ := vs.2 b ha
          rw [ha] at B
          refine hq u3 b (hw.1.tr (KT.rq (by rw [h3']; exact ks.w (by omega)) (fun j hj => by rw [h3', gi_si, if_neg (by omega)]; exact ss j hj) ⟨?_, ?_, ?_⟩ ⟨?_, ?_⟩)) B ?_ ?_ (fun e he => ?_)
          · rw [h3', gi_si, if_neg (by omega)]; exact qs 23 (by omega) (by omega) (by omega)
          · rw [h3', gi_at]; exact Rw.2.1.2.symm
          · rw [h3', gi_si, if_neg (by omega)]; exact qs 25 (by omega) (by omega) (by omega)
          · rw [h3', gi_si, if_neg (by omega)]; exact qs 26 (by omega) (by omega) (by omega)
          · rw [h3', gi_si, if_neg (by omega)]; exact qs 27 (by omega) (by omega) (by omega)
          · rw [h3', gi_si, if_neg (by omega)]; exact a1
          · rw [h3', gi_si, if_neg (by omega)]; exact a2
          · rw [h3', gi_si, if_neg (by omega)]; exact a3 e he
      · unfold p_X11_plans_L46
        rw [e1]
        refine ⟨fun z => absurd z (by decide), fun _ => ?_⟩
        have D1 := bD c
        have W1 := bW c
        -- what an hour leaves alone
        refine xloop (fun l j (v : xM) => p_X11_plans_L52 Q (p_X11_plans_L46 Q m) l (nI j) v) (fun j v => RR 0 (hJ (gA σ c) j σ) v ∧ KT w v ∧ (∀ k i, (k = 272 ∧ ((23 ≤ i ∧ i < 28 ∧ i ≠ 24) ∨ i = 32 ∨ i = 33)) ∨ k = 283 ∨ k = 284 → gi v k i = gi s.2 k i)) 12 0 s.2 (Nat.zero_le _) ⟨Rw.1.k ok ss, ks, fun _ _ _ => rfl⟩ ?_ ?_
        · intro l v hv2
          obtain ⟨Rv, kv, qv⟩ := hv2
          have okn := hJ_ok (gA σ c) ok 12 (by omega)
          have hdr := okn.drowned
          have h7n := okn.p7
          unfold p_X11_plans_L52
          refine ⟨fun _ => r_set1 Rv okn (r_bits (by omega) (r_allWater Rv okn (r_restT rfl kv (fun u8 k8 s8 x8 => ?_)))), fun z => absurd (by decide) z⟩
          rw [hD c hv, hW c hv]
          have q8 : ∀ k i, (k = 272 ∧ ((23 ≤ i ∧ i < 28 ∧ i ≠ 24) ∨ i = 32 ∨ i = 33)) ∨ k = 283 ∨ k = 284 → gi u8 k i = gi s.2 k i := fun k i h => by
            rw [x8.1 k i (by omega)]
            exact qv k i h
          -- the next hours, then on
          have go : ∀ (v2 : xM) (acc2 : Option Nat), KT w v2 → (∀ j, j < 160 → gi v2 273 j = gi w 273 j) → (∀ j, 23 ≤ j → j < 28 → j ≠ 24 → gi v2 272 j = gi w 272 j) → (∀ e, e < σ 2 0 → gi v2 283 e = nI (nb c e)) → vR σ D W acc2 v2 → BST D W (fun x => (VAL σ x ∧ x < c) ∨ x = c) acc2 → p_X11_hoursOn v2 (fun r3 u2 => p_X11_plans_L46 Q m r3 u2) := fun v2 acc2 kt2 st2 qt2 h832 vt2 B2 => by
            refine r_hoursOn (Rw.1.k ok st2) ok hv h832 (fun v3 c' o3 hv' hlt hno h83' => ?_) (fun v3 o3 hno => ?_)
            · refine kk (true, v3) ⟨?_, fun j hj => (o3.1 273 j (by omega)).trans (st2 j hj), fun j a b d => (o3.1 272 j (by omega)).trans (qt2 j a b d), acc2, ⟨fun z => (o3.1 272 32 (by omega)).trans (vt2.1 z), fun b hb => ?_⟩, Or.inr ⟨rfl, c', by omega, hv', h83', B2.iff (fun x => ⟨fun h => ?_, fun h => ?_⟩)⟩⟩
              · exact ⟨fun j hj => (o3.1 273 _ (by omega)).trans (kt2.1 j hj), fun k j a => (o3.1 k j (by omega)).trans (kt2.2.1 k j a), fun k j a => (o3.2 k j).trans (kt2.2.2 k j a)⟩
              · obtain ⟨a1, a2, a3⟩ := vt2.2 b hb
                exact ⟨(o3.1 272 32 (by omega)).trans a1, (o3.1 272 33 (by omega)).trans a2, fun e he => (o3.1 284 e (by omega)).trans (a3 e he)⟩
              · rcases h with h | h
                · exact ⟨h.1, by omega⟩
                · rw [h]; exact ⟨hv, hlt⟩
              · have := hno x h.1 h.2
                by_cases ex : x = c
                · exact Or.inr ex
                · exact Or.inl ⟨h.1, by omega⟩
            · refine kk (false, v3) ⟨?_, fun j hj => (o3.1 273 j (by omega)).trans (st2 j hj), fun j a b d => (o3.1 272 j (by omega)).trans (qt2 j a b d), acc2, ⟨fun z => (o3.1 272 32 (by omega)).trans (vt2.1 z), fun b hb => ?_⟩, Or.inl ⟨rfl, B2.iff (fun x => ⟨fun h => ?_, fun h => ?_⟩)⟩⟩
              · exact ⟨fun j hj => (o3.1 273 _ (by omega)).trans (kt2.1 j hj), fun k j a => (o3.1 k j (by omega)).trans (kt2.2.1 k j a), fun k j a => (o3.2 k j).trans (kt2.2.2 k j a)⟩
              · obtain ⟨a1, a2, a3⟩ := vt2.2 b hb
                exact ⟨(o3.1 272 32 (by omega)).trans a1, (o3.1 272 33 (by omega)).trans a2, fun e he => (o3.1 284 e (by omega)).trans (a3 e he)⟩
              · rcases h with h | h
                · exact h.1
                · rw [h]; exact hv
              · have := hno x h
                by_cases ex : x = c
                · exact Or.inr ex
                · exact Or.inl ⟨h, by omega⟩
          have q83 : ∀ e, e < σ 2 0 → gi u8 283 e = nI (nb c e) := fun e he => by
            rw [q8 283 e (by omega)]
            exact h83 e he
          have qk : ∀ j, 23 ≤ j → j < 28 → j ≠ 24 → gi u8 272 j = gi w 272 j := fun j a b d => by
            rw [q8 272 j (by omega)]
            exact qs j a b d
          have take : wgB D W c acc → p_X11_plans_L171 Q (p_X11_plans_L46 Q m) (nI (D c)) (nI (W c)) u8 := fun hwg => by
            unfold p_X11_plans_L171
            intro v1 e1' v2 e2'
            refine xloop (fun l2 e (x : xM) => p_X11_plans_L184 Q (p_X11_plans_L46 Q m) l2 (nI e) x) (fun e x => KT w x ∧ (∀ j, j < 160 → gi x 273 j = gi w 273 j) ∧ (∀ j, 23 ≤ j → j < 28 → j ≠ 24 → gi x 272 j = gi w 272 j) ∧ (∀ e, e < σ 2 0 → gi x 283 e = nI (nb c e)) ∧ gi x 272 32 = nI (D c) ∧ gi x 272 33 = nI (W c) ∧ ∀ e', e' < e → gi x 284 e' = nI (nb c e')) (σ 2 0) 0 v2 (Nat.zero_le _) ⟨?_, fun j hj => ?_, fun j a b d => ?_, fun e he => ?_, ?_, ?_, fun e' he' => by omega⟩ ?_ ?_
            · rw [e2', e1']; exact (k8.w (by omega)).w (by omega)
            · rw [e2', gi_si, if_neg (by omega), e1', gi_si, if_neg (by omega)]; exact s8 j hj
            · rw [e2', gi_si, if_neg (by omega), e1', gi_si, if_neg (by omega)]; exact qk j a b d
            · rw [e2', gi_si, if_neg (by omega), e1', gi_si, if_neg (by omega)]; exact q83 e he
            · rw [e2', gi_si, if_neg (by omega), e1', gi_at]
            · rw [e2', gi_at]
            · intro l2 x hx
              obtain ⟨a1, a2, a3, a4, a5, a6, a7⟩ := hx
              unfold p_X11_plans_L184
              rw [(r_at l_2 (by decide)).2, (Rw.1.k ok a2).r2]
              refine ⟨(r_at l_2 (by decide)).1, fun _ => ?_, fun z => absurd (by rw [cLE (by omega) (by omega)]; exact Nat.le_refl _) z⟩
              refine go x (some c) a1 a2 a3 a4 ⟨fun z => (nomatch z), fun b hb => ?_⟩ (B.take hwg)
              obtain rfl := Option.some.inj hb
              exact ⟨a5, a6, a7⟩
            · intro l2 e x _ he hx kk2
              obtain ⟨a1, a2, a3, a4, a5, a6, a7⟩ := hx
              unfold p_X11_plans_L184
              rw [(r_at l_2 (by decide)).2, (Rw.1.k ok a2).r2, cCL (by omega)]
              refine ⟨(r_at l_2 (by decide)).1, fun z => absurd z (by rw [cLE (by omega) (by omega)]; omega), fun _ => ⟨cIN (by omega) (by decide), cIN (by omega) (by decide), fun u7 h7' x8' h8' => ?_⟩⟩
              rw [l_1, cA] at h8'
              subst h8'
              refine kk2 u7 ⟨by rw [h7']; exact a1.w (by omega), fun j hj => by rw [h7', gi_si, if_neg (by omega)]; exact a2 j hj, fun j a b d => by rw [h7', gi_si, if_neg (by omega)]; exact a3 j a b d, fun e he => by rw [h7', gi_si, if_neg (by omega)]; exact a4 e he, by rw [h7', gi_si, if_neg (by omega)]; exact a5, by rw [h7', gi_si, if_neg (by omega)]; exact a6, fun e' he' => ?_⟩
              rw [h7', gi_si]
              by_cases z : e' = e
              · rw [if_pos ⟨rfl, z⟩, z]; exact a4 e he
              · rw [if_neg (fun y => z y.2)]; exact a7 e' (by omega)
          have keep : ∀ b, acc = some b → kle D W b c → p_X11_hoursOn u8 (fun r3 u2 => p_X11_plans_L46 Q m r3 u2) := fun b hb hk => by
            have B' := B
            rw [hb] at B'
            refine go u8 acc k8 s8 qk q83 ⟨fun z => ?_, fun b' hb' => ?_⟩ (by rw [hb]; exact B'.keep hk)
            · rw [z] at hb; exact (nomatch hb)
            · obtain ⟨a1, a2, a3⟩ := vs.2 b' hb'
              exact ⟨(q8 272 32 (by omega)).trans a1, (q8 272 33 (by omega)).trans a2, fun e he => (q8 284 e (by omega)).trans (a3 e he)⟩
          rw [q8 272 32 (by omega), q8 272 33 (by omega)]
          cases ha : acc with
          | none =>
            rw [vs.1 ha, cLT (by omega) (by omega)]
            exact ⟨fun _ => take (fun b hb => by rw [ha] at hb; exact (nomatch hb)), fun z => absurd (show D c < 1000000 by omega) z⟩
          | some b =>
            obtain ⟨a1, a2, _⟩ := vs.2 b ha
            have D2 := bD b
            have W2 := bW b
            have hbc : b < c := (B.2 b ha).1.2
            have tk : (D c < D b ∨ (D c = D b ∧ W c < W b)) → p_X11_plans_L171 Q (p_X11_plans_L46 Q m) (nI (D c)) (nI (W c)) u8 := fun h => take (fun b' hb' => by
              rw [ha] at hb'
              obtain rfl := Option.some.inj hb'
              omega)
            rw [a1, a2, cLT (by omega) (by omega), cEQ (by omega) (by omega), cLE (by omega) (by omega)]
            exact ⟨fun z => tk (Or.inl z), fun z => ⟨fun z2 => keep b ha (by unfold kle; omega), fun z2 => ⟨fun z3 => keep b ha (by unfold kle; omega), fun z3 => tk (Or.inr ⟨z2, by omega⟩)⟩⟩⟩
        · intro l j v _ hj hv2 kk2
          obtain ⟨Rv, kv, qv⟩ := hv2
          have okn := hJ_ok (gA σ c) ok j (by omega)
          have eh : hJ (gA σ c) j σ 3 0 = σ 3 0 + j := hJ_hour _ _ _
          have e2n : hJ (gA σ c) j σ 2 0 = σ 2 0 := hJ_kept _ _ _ (by decide : kept 2) 0
          have e15n : ∀ e, hJ (gA σ c) j σ 15 e = σ 15 e := fun e => hJ_kept _ _ _ (by decide : kept 15) e
          have e20n : hJ (gA σ c) j σ 20 0 = σ 20 0 := hJ_kept _ _ _ (by decide : kept 20) 0
          have hs1 := hJ_s (gA σ c) j σ
          have hh := hod_lt (hJ (gA σ c) j σ)
          rw [gA_eq] at hs1
          generalize hJ (gA σ c) j σ = θ at *
          unfold p_X11_plans_L52
          refine ⟨fun z => absurd z (by rw [l_12, cLE (by omega) (by omega)]; omega), fun _ u16 h16 => ?_⟩
          refine xloop (fun l2 e (x : xM) => p_X11_plans_L65 Q (p_X11_plans_L46 Q m) (p_X11_plans_L52 Q (p_X11_plans_L46 Q m) l) l2 (nI j) (nI e) x) (fun e x => RR 0 θ x ∧ KT w x ∧ (∀ k i, (k = 272 ∧ ((23 ≤ i ∧ i < 28 ∧ i ≠ 24) ∨ i = 32 ∨ i = 33)) ∨ k = 283 ∨ k = 284 → gi x k i = gi s.2 k i) ∧ gi x 272 24 = nI (dN (fun e => decide (nb c e = hod θ)) (σ 15) e)) (σ 2 0) 0 u16 (Nat.zero_le _) ⟨Rv.k okn (fun i _ => by rw [h16, gi_si, if_neg (by omega)]), by rw [h16]; exact kv.w (by omega), fun k i h => by rw [h16, gi_si, if_neg (by omega)]; exact qv k i h, by rw [h16, gi_at]; rfl⟩ ?_ ?_
          · intro l2 x hx
            obtain ⟨Rx, kx, qx, g24⟩ := hx
            unfold p_X11_plans_L65
            rw [(r_at l_2 (by decide)).2, Rx.r2, e2n]
            refine ⟨(r_at l_2 (by decide)).1, fun _ => ?_, fun z => absurd (by rw [cLE (by omega) (by omega)]; exact Nat.le_refl _) z⟩
            have hdn : dN (fun e => decide (nb c e = hod θ)) (σ 15) (σ 2 0) < 2 ^ σ 1 0 := dN_lt (fun e he => (ok.er he).1)
            refine r_goesBy (op := ndf (σ 20 0 ||| dN (fun e => decide (nb c e = hod θ)) (σ 15) (σ 2 0)) (θ 21 0)) (pu := true) Rx okn (by omega) (Or.inr (Or.inr ⟨_, ?_, g24, by omega, by rw [e20n]⟩)) ?_ (fun u2 R2 g2 _ x5 h5 => ?_)
            · rw [qx 272 23 (by omega), qs 23 (by omega) (by omega) (by omega)]; exact Rw.2.1.1
            · rw [qx 272 25 (by omega), qs 25 (by omega) (by omega) (by omega)]; exact Rw.2.2
            · rw [l_1, cA] at h5
              subst h5
              refine kk2 u2 ⟨by rw [hs1]; exact R2, kx.g g2, fun k i h => ?_⟩
              rw [g2.1.1 k i (by simp only [gP]; omega)]
              exact qx k i h
          · intro l2 e x _ he hx kk3
            obtain ⟨Rx, kx, qx, g24⟩ := hx
            have her := ok.er he
            have hnb := nb_lt c e
            unfold p_X11_plans_L65
            rw [(r_at l_2 (by decide)).2, Rx.r2, e2n]
            refine ⟨(r_at l_2 (by decide)).1, fun z => absurd z (by rw [cLE (by omega) (by omega)]; omega), fun _ => ⟨cIN (by omega) (by decide), r_now Rx okn ?_⟩⟩
            rw [cCL (by omega), qx 283 e (by omega), h83 e he, cEQ (by omega) (by omega), g24]
            have fin : ∀ (v3 : xM) (val : Int32), v3 = si x 272 24 val → val = nI (dN (fun e => decide (nb c e = hod θ)) (σ 15) (e + 1)) → ∀ x11 : Int32, x11 = nI e + 1 → p_X11_plans_L65 Q (p_X11_plans_L46 Q m) (p_X11_plans_L52 Q (p_X11_plans_L46 Q m) l) l2 (nI j) x11 v3 := fun v3 val hv3 hval x11 h11 => by
              rw [l_1, cA] at h11
              subst h11
              refine kk3 v3 ⟨Rx.k okn (fun i _ => by rw [hv3, gi_si, if_neg (by omega)]), by rw [hv3]; exact kx.w (by omega), fun k i h => by rw [hv3, gi_si, if_neg (by omega)]; exact qx k i h, by rw [hv3, gi_at]; exact hval⟩
            have ds : dN (fun e => decide (nb c e = hod θ)) (σ 15) (e + 1) = dN (fun e => decide (nb c e = hod θ)) (σ 15) e ||| (if decide (nb c e = hod θ) then 2 ^ (σ 15 e) else 0) := rfl
            refine ⟨fun z u10 h10' x11 h11 => fin u10 _ h10' ?_ x11 h11, fun z => r_errandOf (w := 0) (f := 15) Rx okn (by rw [e2n]; exact he) (by omega) rfl rfl (fun u14 h14 x15 h15 => fin u14 _ h14 ?_ x15 h15)⟩
            · rw [ds, decide_eq_false z, l_0, bOR]; rfl
            · rw [ds, decide_eq_true z, e15n, bPOW (by omega), bOR]; rfl
  · intro m i w _ hi hw kk
    have Rw := R.rq ok hw.1
    unfold p_X11_plans_L9
    rw [(r_at l_2 (by decide)).2, Rw.1.r2]
    refine ⟨(r_at l_2 (by decide)).1, fun z => absurd z (by rw [cLE (by omega) (by omega)]; omega), fun _ => r_errandOf (w := 1) (f := 16) Rw.1 ok hi (by omega) rfl rfl ⟨cIN (by omega) (by decide), fun u7 h7' x8 h8 => ?_⟩⟩
    rw [l_1, cA] at h8
    subst h8
    rw [cCL (by omega)] at h7'
    refine kk u7 ⟨?_, by rw [h7', gi_si, if_neg (by omega)]; exact hw.2.1, fun e he => ?_⟩
    · rw [h7']
      exact hw.1.tr ⟨fun a b hab => by rw [gi_si, if_neg (by omega)], fun _ _ _ => rfl⟩
    · rw [h7', gi_si]
      by_cases z : e = i
      · rw [if_pos ⟨rfl, z⟩, z, hn0 i hi]
      · rw [if_neg (fun y => z y.2)]; exact hw.2.2 e (by omega)
theorem nb_cls {b e : Nat} (hb : b < 65536) (he : e < 4) : (nI b >>> ((4 : Int32) * ((3 : Int32) - nI e) &&& 31)) &&& (15 : Int32) = nI (nb b e) := by
  rw [l_4, l_3, cS (by omega), cM, bSHR (by omega) (by omega), l_15, bAND]
  congr 1
  exact Nat.and_two_pow_sub_one_eq_mod (b >>> (4 * (3 - e))) 4
theorem K_plan2 (I : INV u) : ∃ (σ : aS) (D W : Nat → Nat), SLT σ 83 58 0 0 u ∧ LR 83 σ u ∧ okS σ ∧ RS σ u ∧ σ 23 0 = 4095 ∧ (∀ c, VAL σ c → pop (hJ (gA σ c) 12 σ 22 0) = D c) ∧ (∀ c, VAL σ c → allW (hJ (gA σ c) 12 σ) = W c) ∧ (∀ c, D c < 8) ∧ ∀ c, W c < 1000000 := by
  obtain ⟨σ, S, L, ok, R⟩ := I.sp
  have h3 := okS.hour S
  refine ⟨σ, fun c => pop (hJ (gA σ c) 12 σ 22 0), fun c => allW (hJ (gA σ c) 12 σ), S, L, ok, R, S.2.2.2.2.1, fun _ _ => rfl, fun _ _ => rfl, fun c => ?_, fun c => ?_⟩
  · have okn := hJ_ok (gA σ c) ok 12 (by omega)
    have h1 := okn.drowned
    have h2 := okn.p7
    exact pop7 (by omega)
  · have h1 := allW_le (hJ_ok (gA σ c) ok 12 (by omega))
    show allW (hJ (gA σ c) 12 σ) < 1000000
    omega
theorem K_plan (I : INV u) (a : Int32) : p_X10_plan a u (fun r u1 => p_X11_plan a u1 (fun r' u2 => r = r' ∧ INV u2)) := by
  obtain ⟨σ, D, W, S, L, ok, R, hp, hD, hW, bD, bW⟩ := K_plan2 I
  have h3 := okS.hour S
  have h4 := ok.e
  rcases fromTo (a := a) 0 1 (by decide) with ⟨n, _, hn, rfl⟩ | ha
  · by_cases h0 : σ 2 0 = 0
    · refine pj (pc := p_X10_plan (nI n) u) (pr := p_X11_plan (nI n)) I ok R (-1) 6 (fun Q hq => ?_) (fun u1 c1 R Q hq => ?_)
      · unfold p_X10_plan
        refine k_withinT (lo := 0) (hi := 1) rfl rfl (by omega) hn (by decide) ⟨fun _ => ?_, fun z => absurd z (by decide)⟩
        rw [show gi u 83 2 = nI (σ 2 0) from L.f2, cE0 (by omega)]
        exact ⟨fun z => absurd h0 z, fun _ => k_none hq cq.rf⟩
      · unfold p_X11_plan
        rw [(r_at l_2 (by decide)).2, R.1.r2, cE0 (a := σ 2 0) (by omega), l_1, cN0 (by omega), cLE (by omega) (by omega)]
        exact ⟨fun z => z.elim, fun _ => ⟨fun _ => ⟨(r_at l_2 (by decide)).1, fun z => absurd h0 z, fun _ => r_refuse hq rq.rf⟩, fun z => absurd hn z⟩⟩
    · have key : ∃ b, ∀ b', BST D W (VAL σ) (some b') → b' = b := by
        by_cases z : ∃ b, BST D W (VAL σ) (some b)
        · obtain ⟨b, hb⟩ := z
          exact ⟨b, fun b' hb' => BST.uniq hb' hb⟩
        · exact ⟨0, fun b' hb' => absurd ⟨b', hb'⟩ z⟩
      obtain ⟨b, hbu⟩ := key
      refine pj (pc := p_X10_plan (nI n) u) (pr := p_X11_plan (nI n)) I ok R (if n = 0 then nI (D b) else nI (W b)) 0 (fun Q hq => ?_) (fun u1 c1 R Q hq => ?_)
      · unfold p_X10_plan
        refine k_withinT (lo := 0) (hi := 1) rfl rfl (by omega) hn (by decide) ⟨fun _ => ?_, fun z => absurd z (by decide)⟩
        rw [show gi u 83 2 = nI (σ 2 0) from L.f2, cE0 (by omega), cE0 (by omega)]
        refine ⟨fun _ => k_planErrands L ok h3 hp hD hW bD bW (fun u5 b' B' g4 g5 _ c5 => ?_), fun z => absurd z h0⟩
        obtain rfl := hbu b' B'
        rw [g4, g5]
        refine ⟨fun z => ?_, fun z => ?_⟩
        · rw [if_neg z] at hq; exact k_fine hq c5
        · rw [if_pos z] at hq; exact k_fine hq c5
      · unfold p_X11_plan
        rw [(r_at l_2 (by decide)).2, R.1.r2, cE0 (a := σ 2 0) (by omega), l_1, cN0 (by omega), cLE (by omega) (by omega), cE0 (by omega)]
        refine ⟨fun z => z.elim, fun _ => ⟨fun _ => ⟨(r_at l_2 (by decide)).1, fun _ => r_plans R ok h3 hD hW bD bW (fun u7 b' q7 B' g32 g33 _ => ?_), fun z => absurd z h0⟩, fun z => absurd hn z⟩⟩
        obtain rfl := hbu b' B'
        rw [g32, g33]
        refine ⟨fun z => ?_, fun z => ?_⟩
        · rw [if_neg z] at hq; exact r_gives hq q7
        · rw [if_pos z] at hq; exact r_gives hq q7
  · refine pj (pc := p_X10_plan a u) (pr := p_X11_plan a) I ok R (-1) 1 (fun Q hq => ?_) (fun u1 c1 R Q hq => ?_)
    · unfold p_X10_plan
      exact k_withinF (lo := 0) (hi := 1) rfl rfl ha (by decide) (by decide) ⟨fun z => absurd z (by decide), fun _ => k_none hq cq.rf⟩
    · unfold p_X11_plan
      refine ⟨fun _ => r_refuse hq rq.rf, fun c => ⟨fun z => ?_, fun _ => r_refuse hq rq.rf⟩⟩
      have h := rngG (n := 1) (fun r hr => ha r (by omega) hr) (by decide) c
      rw [← l_1, Int32.lt_iff_toInt_lt] at h
      rw [Int32.le_iff_toInt_le] at z
      omega
theorem K_planned (I : INV u) (a : Int32) : p_X10_planned a u (fun r u1 => p_X11_planned a u1 (fun r' u2 => r = r' ∧ INV u2)) := by
  obtain ⟨σ, D, W, S, L, ok, R, hp, hD, hW, bD, bW⟩ := K_plan2 I
  have h3 := okS.hour S
  have h4 := ok.e
  rcases below (a := a) (σ 2 0) with ⟨e, he, rfl⟩ | ha
  · have key : ∃ b, ∀ b', BST D W (VAL σ) (some b') → b' = b := by
      by_cases z : ∃ b, BST D W (VAL σ) (some b)
      · obtain ⟨b, hb⟩ := z
        exact ⟨b, fun b' hb' => BST.uniq hb' hb⟩
      · exact ⟨0, fun b' hb' => absurd ⟨b', hb'⟩ z⟩
    obtain ⟨b, hbu⟩ := key
    refine pj (pc := p_X10_planned (nI e) u) (pr := p_X11_planned (nI e)) I ok R (nI (nb b e)) 0 (fun Q hq => ?_) (fun u1 c1 R Q hq => ?_)
    · unfold p_X10_planned
      rw [show gi u 83 2 = nI (σ 2 0) from L.f2, cN0 (by omega), cLT (by omega) (by omega)]
      refine ⟨fun z => z.elim, fun _ => ⟨fun _ => k_planErrands L ok h3 hp hD hW bD bW (fun u5 b' B' _ _ g6 c5 => ?_), fun z => absurd he z⟩⟩
      obtain rfl := hbu b' B'
      have hb5 : b' < 65536 := (B'.2 b' rfl).1.1
      unfold p_X6_plannedHour p_X6_shiftOf
      dsimp only
      rw [g6, nb_cls hb5 (by omega)]
      exact k_fine hq c5
    · unfold p_X11_planned
      refine r_isErrandT R ok he ⟨fun _ => r_plans R ok h3 hD hW bD bW (fun u7 b' q7 B' _ _ g84 => ⟨cIN (by omega) (by decide), ?_⟩), fun z => absurd z (by decide)⟩
      obtain rfl := hbu b' B'
      rw [cCL (by omega), g84 e he]
      exact r_gives hq q7
  · refine pj (pc := p_X10_planned a u) (pr := p_X11_planned a) I ok R (-1) 1 (fun Q hq => ?_) (fun u1 c1 R Q hq => ?_)
    · unfold p_X10_planned
      rw [show gi u 83 2 = nI (σ 2 0) from L.f2]
      refine ⟨fun _ => k_none hq cq.rf, fun c => ⟨fun z => ?_, fun _ => k_none hq cq.rf⟩⟩
      have h := rngF ha (by omega) c
      rw [Int32.lt_iff_toInt_lt] at z
      rw [Int32.le_iff_toInt_le] at h
      omega
    · unfold p_X11_planned
      exact r_isErrandF R ok ha ⟨fun z => absurd z (by decide), fun _ => r_refuse hq rq.rf⟩
end PLANK
