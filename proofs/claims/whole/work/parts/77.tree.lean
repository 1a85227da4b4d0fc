/-! ===== the tree of the class ===== -/
section TREE
variable {σ τ ρ θ : aS} {u u' u0 u1 : xM} {D W : Nat → Nat}
theorem k_weigh {p : Nat} {S : Nat → Prop} {acc : Option Nat} {Q : xM → Prop} (L : LR 137 ρ u) (ok : okS ρ) (hp : p < 65536) (hD : pop (ρ 22 0) = D p) (hW : allW ρ = W p) (bD : ∀ c, D c < 8) (bW : ∀ c, W c < 1000000) (hS : ∀ c, S c → c < 65536) (B : BST D W S acc) (C : QC D W acc u) (hq : ∀ u' acc', BST D W (fun c => S c ∨ c = p) acc' → QC D W acc' u' → LR 137 ρ u' → fr u u' → (∀ k i, k ≠ 5 → gi u' k i = gi u k i) → Q u') : p_X6_weighPlan (nI p) u Q := by
  have h7 := ok.p7
  have hdr := ok.drowned
  have b1 := bD p
  have b2 := bW p
  have take : wgB D W p acc → p_X6_weighPlan_L73 Q (nI p) (nI (D p)) (nI (W p)) u := fun hw => by
    unfold p_X6_weighPlan_L73 p_X6_weighPlan_L78
    refine ⟨fun z => absurd z (by decide), fun _ u2 h2 u3 h3 u4 h4 => hq u4 (some p) (B.take hw) ⟨?_, ?_, ?_⟩ ?_ ⟨fun k i a b c => ?_, fun k i a => ?_⟩ (fun k i a => ?_)⟩
    · rw [h4, gi_si, if_neg (by omega), h3, gi_si, if_neg (by omega), h2, gi_at]; rfl
    · rw [h4, gi_si, if_neg (by omega), h3, gi_at]; rfl
    · rw [h4, gi_at]; rfl
    · rw [h4, h3, h2]; exact ((L.w2 (by omega)).w2 (by omega)).w2 (by omega)
    · rw [h4, gi_si, if_neg (by omega), h3, gi_si, if_neg (by omega), h2, gi_si, if_neg (by omega)]
    · rw [h4, h3, h2]; rfl
    · rw [h4, gi_si, if_neg (by omega), h3, gi_si, if_neg (by omega), h2, gi_si, if_neg (by omega)]
  have keep : (∃ b, acc = some b ∧ kle D W b p) → p_X6_weighPlan_L77 Q (nI p) (nI (D p)) (nI (W p)) u := fun ⟨b, hb, hk⟩ => by
    subst hb
    unfold p_X6_weighPlan_L77 p_X6_weighPlan_L78
    exact ⟨fun _ => hq u (some b) (B.keep hk) C L fr.rf (fun _ _ _ => rfl), fun z => absurd z (by decide)⟩
  unfold p_X6_weighPlan
  rw [show gi u 138 1 = nI (ρ 22 0) from L.f22]
  refine k_bitCount (by omega) (k_allWater L ok ?_)
  rw [hD, hW, C.1, C.2.1]
  cases ha : acc with
  | none =>
    rw [show vD D none = 8 from rfl, cLT (by omega) (by omega)]
    exact ⟨fun _ => take (fun b hb => by rw [ha] at hb; exact (nomatch hb)), fun z => absurd b1 z⟩
  | some b =>
    have b3 := bD b
    have b4 := bW b
    have hb5 : b < 65536 := hS b (B.2 b ha).1
    have C3 := C.2.2
    have C1 := C.1
    have C2 := C.2.1
    rw [ha] at C1 C2 C3
    have C1 : gi u 5 4 = nI (D b) := C1
    have C2 : gi u 5 5 = nI (W b) := C2
    have C3 : gi u 5 6 = nI b := C3
    have tk : (D p < D b ∨ (D p = D b ∧ (W p < W b ∨ (W p = W b ∧ p < b)))) → p_X6_weighPlan_L73 Q (nI p) (nI (D p)) (nI (W p)) u := fun h => take (fun b' hb' => by
      rw [ha] at hb'
      obtain rfl := Option.some.inj hb'
      exact h)
    have kp : kle D W b p → p_X6_weighPlan_L77 Q (nI p) (nI (D p)) (nI (W p)) u := fun h => keep ⟨b, ha, h⟩
    have l49 : ¬ D p < D b → ¬ (D p = D b ∧ W p < W b) → p_X6_weighPlan_L49 Q (nI p) (nI (D p)) (nI (W p)) u := fun n1 n2 => by
      unfold p_X6_weighPlan_L49
      rw [C1, C2, C3, cEQ (by omega) (by omega), cEQ (by omega) (by omega), cLE (by omega) (by omega)]
      refine ⟨fun c => kp (by unfold kle; omega), fun c => ⟨fun c2 => kp (by unfold kle; omega), fun c2 => ⟨fun c3 => kp (by unfold kle; omega), fun c3 => tk (by omega)⟩⟩⟩
    rw [show vD D (some b) = D b from rfl, show vW W (some b) = W b from rfl, cLT (by omega) (by omega), cEQ (by omega) (by omega), cLT (by omega) (by omega)]
    exact ⟨fun c => tk (Or.inl c), fun c => ⟨fun c2 => l49 c (fun z => c2 z.1), fun c2 => ⟨fun c3 => tk (Or.inr ⟨c2, Or.inl c3⟩), fun c3 => l49 c (fun z => c3 z.2)⟩⟩⟩
theorem k_try (ok : okS σ) (h3 : σ 3 0 ≤ 9999) (hp23 : σ 23 0 = 4095) (hD : ∀ c, VAL σ c → pop (hJ (gA σ c) 12 σ 22 0) = D c) (hW : ∀ c, VAL σ c → allW (hJ (gA σ c) 12 σ) = W c) (bD : ∀ c, D c < 8) (bW : ∀ c, W c < 1000000) (k : Nat) : ∀ (gone left p : Nat) (acc : Option Nat) (S : Nat → Prop) (u : xM) (ρ : aS) (Q : xM → Prop), gone + k = 12 → left < 2 ^ σ 2 0 → PV σ gone left p → LR 137 ρ u → okS ρ → eqX ρ (hJ (gQ σ p left) gone σ) → (∀ c, S c → VAL σ c) → BST D W S acc → QC D W acc u →
    (∀ (u' : xM) (ρ' : aS) (acc' : Option Nat), LR 137 ρ' u' → okS ρ' → eqX ρ' (hJ (gQ σ p left) gone σ) → BST D W (fun c => S c ∨ Lf σ gone left p c) acc' → QC D W acc' u' → fr u u' → stg gone u u' → Q u') → p_X6_tryErrands (k + 1) (nI gone) (nI left) (nI p) u Q := by
  have h4 := ok.e
  have hl16 : 2 ^ σ 2 0 ≤ 16 := p2le (b := 4) h4
  induction k with
  | zero =>
    intro gone left p acc S u ρ Q hg hl hpv L okr hX hSv B C hq
    have hg : gone = 12 := by omega
    subst hg
    have hpl := hpv.1
    unfold p_X6_tryErrands p_X6_tryErrands_B
    rw [l_12, cLT (by omega) (by omega), cE0 (by omega)]
    refine ⟨fun c => absurd c (by omega), fun _ => ⟨fun c => ?_, fun c => ?_⟩⟩
    · refine hq u ρ acc L okr hX (B.iff (fun x => ⟨fun h => Or.inl h, fun h => ?_⟩)) C fr.rf stg.rf
      rcases h with h | h
      · exact h
      · exact absurd h (Lf_none hl c)
    · subst c
      have eg : gQ σ p 0 = gA σ p := funext (fun h => gQ_0 p h)
      have hv : VAL σ p := ((Lf_end h4 hpv).mpr rfl).1
      have hX' := hX
      rw [eg] at hX'
      refine k_weigh (D := D) (W := W) L okr hpl ?_ ?_ bD bW (fun c hc => (hSv c hc).1) B C (fun u' acc' B' C' L' f' s' => hq u' ρ acc' L' okr hX (B'.iff (fun x => ?_)) C' f' ⟨fun g' i a => s' _ _ (by omega), fun g' a => s' _ _ (by omega)⟩)
      · rw [hX' 22 (by decide) (by decide)]; exact hD p hv
      · rw [← hW p hv]
        unfold allW
        rw [hX' 8 (by decide) (by decide), hX' 0 (by decide) (by decide)]
      · rw [Lf_end h4 hpv]
  | succ k ih =>
    intro gone left p acc S u ρ Q hg hl hpv L okr hX hSv B C hq
    have hpl := hpv.1
    have hθo := hJ_ok (gQ σ p left) ok gone (by omega)
    have hθ3 : hJ (gQ σ p left) gone σ 3 0 = σ 3 0 + gone := hJ_hour _ _ _
    have hθk : ∀ f i, kept f → hJ (gQ σ p left) gone σ f i = σ f i := fun f i hf => hJ_kept _ _ _ hf i
    have hch := fun now hn hsub => gQ_child (σ := σ) (gone := gone) (left := left) (p := p) (now := now) h4 (by omega) hn hl hpv hsub
    generalize hθ : hJ (gQ σ p left) gone σ = θ at hX hq hθo hθ3 hθk hch
    have r0 : ∀ {ρ' : aS}, eqX ρ' θ → ∀ f, kept f → f ≠ 19 → ∀ i, ρ' f i = σ f i := fun h f hf h19 i => by
      rw [h f hf.2.2.1 h19]; exact hθk f i hf
    have hH : (σ 3 0 + gone) % 12 < 12 := Nat.mod_lt _ (by omega)
    have e16 : ρ 16 = σ 16 := funext (fun i => r0 hX 16 (by decide) (by decide) i)
    have e17 : ρ 17 = σ 17 := funext (fun i => r0 hX 17 (by decide) (by decide) i)
    have e2 : ρ 2 0 = σ 2 0 := r0 hX 2 (by decide) (by decide) 0
    have e3 : ρ 3 0 = σ 3 0 + gone := by rw [hX 3 (by decide) (by decide)]; exact hθ3
    have eAe : ∀ h, eA ρ left h = eA σ left h := fun h => by
      unfold eA
      rw [e16, e17, e2]
    unfold p_X6_tryErrands p_X6_tryErrands_B
    rw [l_12, cLT (by omega) (by omega)]
    refine ⟨fun _ => ?_, fun c => absurd (by omega) c⟩
    unfold p_X6_keepWater
    rw [cCL (by omega)]
    refine ⟨cIN (by omega) (by decide), fun u2 h2 => ⟨cIN (by omega) (by decide), fun u4 h4' => ?_⟩⟩
    have L4 : LR 137 ρ u4 := by
      rw [h4', h2]
      exact (L.cg (fun f hf b => by rw [gi_cpi, if_neg (by have := rl_o f hf; omega)])).w2 (by omega)
    have f4 : fr u u4 := ⟨fun a i h1 h2' h3' => by rw [h4', gi_si, if_neg (by omega), h2, gi_cpi, if_neg (by omega)], fun a i _ => by rw [h4', h2]; rfl⟩
    have s4 : stg gone u u4 := ⟨fun g' i a => by rw [h4', gi_si, if_neg (by omega), h2, gi_cpi, if_neg (by omega)], fun g' a => by rw [h4', gi_si, if_neg (by omega), h2, gi_cpi, if_neg (by omega)]⟩
    have w4 : ∀ i, i < σ 0 0 → gi u4 (18 + gone) i = nI (θ 8 i) := fun i hi => by
      have h7 := ok.r
      have e0 : ρ 0 0 = σ 0 0 := r0 hX 0 (by decide) (by decide) 0
      rw [h4', gi_si, if_neg (by omega), h2, gi_cpi, if_pos ⟨rfl, by omega, by omega⟩, show 0 + (i - 0) = i by omega, show gi u 144 i = nI (ρ 8 i) from L.f8 (by omega), hX 8 (by decide) (by decide)]
    have d4 : gi u4 30 gone = nI (θ 22 0) := by
      rw [h4', gi_at, h2, gi_cpi, if_neg (by omega), show gi u 138 1 = nI (ρ 22 0) from L.f22, hX 22 (by decide) (by decide)]
    have C4 : QC D W acc u4 := C.cg (fun i => by rw [h4', gi_si, if_neg (by omega), h2, gi_cpi, if_neg (by omega)])
    have hod4 : hod ρ = (σ 3 0 + gone) % 12 := by
      unfold hod
      rw [e3]
    refine k_hourOfDay L4 okr ?_
    rw [hod4]
    refine k_errandsAt L4 okr (by omega) hH ?_
    rw [show nI gone + (1 : Int32) = nI (gone + 1) by rw [l_1, cA], show nI ((σ 3 0 + gone) % 12) + (1 : Int32) = nI ((σ 3 0 + gone) % 12 + 1) by rw [l_1, cA], eAe]
    have hml := eA_lt (σ := σ) left ((σ 3 0 + gone) % 12)
    refine k_later (σ := σ) L4 okr e16 e17 e2 (by omega) (g := gone + 1) (x := (σ 3 0 + gone) % 12 + 1) (by omega) (by omega) (by omega) (fun x9 h9 => ?_)
    rw [show 12 - (gone + 1) = 11 - gone by omega, bNOT (by omega)] at h9
    subst h9
    have hmust : ndf left (eL σ left (gone + 1) (11 - gone)) < 16 := Nat.lt_of_le_of_lt (ndf_le _ _) (by omega)
    have nolt : ∀ c, Lf σ gone left p c → ¬ ∃ e, left.testBit e = true ∧ σ 2 0 ≤ e := fun c _ ⟨e, a, b⟩ => by
      have := bit_lt hl a
      omega
    have nowk : ∀ c, Lf σ gone left p c → ndf (nowOf σ left ((σ 3 0 + gone) % 12) c) (eA σ left ((σ 3 0 + gone) % 12)) = 0 ∧ ndf (ndf left (eL σ left (gone + 1) (11 - gone))) (nowOf σ left ((σ 3 0 + gone) % 12) c) = 0 := fun c hc => by
      rcases now_ok (by omega) hc with h | h
      · exact h
      · exact absurd h (nolt c hc)
    refine xloop (fun m i (s : xM) => p_X6_tryErrands_L60 (p_X6_tryErrands (k + 1)) Q m (nI gone) (nI left) (nI p) (nI ((σ 3 0 + gone) % 12)) (nI (eA σ left ((σ 3 0 + gone) % 12))) (nI (ndf left (eL σ left (gone + 1) (11 - gone)))) (nI i) s) (fun i s => ∃ ρ' acc', LR 137 ρ' s ∧ okS ρ' ∧ eqX ρ' θ ∧ BST D W (fun c => S c ∨ (Lf σ gone left p c ∧ nowOf σ left ((σ 3 0 + gone) % 12) c < i)) acc' ∧ QC D W acc' s ∧ fr u s ∧ stg gone u s ∧ (∀ i, i < σ 0 0 → gi s (18 + gone) i = nI (θ 8 i)) ∧ gi s 30 gone = nI (θ 22 0)) (eA σ left ((σ 3 0 + gone) % 12) + 1) 0 u4 (Nat.zero_le _) ⟨ρ, acc, L4, okr, hX, B.iff (fun c => ⟨fun h => Or.inl h, fun h => ?_⟩), C4, f4, s4, w4, d4⟩ ?_ ?_
    · rcases h with h | h
      · exact h
      · exact absurd h.2 (by omega)
    · intro m s hs
      obtain ⟨ρ', acc', L', ok', hX', B', C', f', s', _, _⟩ := hs
      unfold p_X6_tryErrands_L60
      rw [cCL (by omega)]
      refine ⟨fun _ => ⟨cIN hH (by decide), fun u3 h3' => ?_⟩, fun c => absurd (by rw [cLT (by omega) (by omega)]; omega) c⟩
      refine hq u3 (sU ρ' 19 ((σ 3 0 + gone) % 12) 0) acc' ?_ ?_ ?_ (B'.iff (fun c => ⟨fun h => ?_, fun h => ?_⟩)) (C'.cg (fun i => by rw [h3', gi_si, if_neg (by omega)])) ?_ ?_
      · rw [h3']
        exact L'.up (f := 19) (i := (σ 3 0 + gone) % 12) (by decide) (by decide) (by decide) (by decide) (by simpa [rlN] using hH) rfl rfl (by simp [rlS])
      · exact okS_rota ok' (Nat.two_pow_pos _)
      · intro f h9 h19
        rw [← hX' f h9 h19]
        funext i
        rw [sU_at, if_neg (fun z => h19 z.1)]
      · rcases h with h | h
        · exact Or.inl h
        · exact Or.inr h.1
      · rcases h with h | h
        · exact Or.inl h
        · have := sub_le (nowk c h).1
          exact Or.inr ⟨h, by omega⟩
      · exact f'.tr ⟨fun a i h1 h2' h3'' => by rw [h3', gi_si, if_neg (by omega)], fun a i _ => by rw [h3']; rfl⟩
      · exact s'.tr ⟨fun g' i a => by rw [h3', gi_si, if_neg (by omega)], fun g' a => by rw [h3', gi_si, if_neg (by omega)]⟩
    · intro m i s _ hi hs kk
      obtain ⟨ρ', acc', L', ok', hX', B', C', f', s', w', d'⟩ := hs
      have skip : (∀ c, Lf σ gone left p c → nowOf σ left ((σ 3 0 + gone) % 12) c ≠ i) → ∀ x : Int32, x = nI i + 1 → p_X6_tryErrands_L60 (p_X6_tryErrands (k + 1)) Q m (nI gone) (nI left) (nI p) (nI ((σ 3 0 + gone) % 12)) (nI (eA σ left ((σ 3 0 + gone) % 12))) (nI (ndf left (eL σ left (gone + 1) (11 - gone)))) x s := fun hn x hx => by
        rw [l_1, cA] at hx
        subst hx
        refine kk s ⟨ρ', acc', L', ok', hX', B'.iff (fun c => ⟨fun h => ?_, fun h => ?_⟩), C', f', s', w', d'⟩
        · rcases h with h | h
          · exact Or.inl h
          · exact Or.inr ⟨h.1, by omega⟩
        · rcases h with h | h
          · exact Or.inl h
          · have := hn c h.1
            exact Or.inr ⟨h.1, by omega⟩
      unfold p_X6_tryErrands_L60
      rw [bNOT (by omega), bNOT (by omega), cE0 (Nat.lt_of_le_of_lt (ndf_le _ _) (by omega)), cE0 (Nat.lt_of_le_of_lt (ndf_le _ _) (by omega)), bNOT (by omega), cCL (by omega)]
      refine ⟨fun c => absurd c (by rw [cLT (by omega) (by omega)]; omega), fun _ => ⟨fun c => skip (fun x hx e => c (by rw [← e]; exact (nowk x hx).1)), fun hmay => ⟨fun c => skip (fun x hx e => c (by rw [← e]; exact (nowk x hx).2)), fun hmust2 => ?_⟩⟩⟩
      have hsub : ndf i left = 0 := by
        rw [ndf_iff]
        intro e he
        have := ndf_iff.mp hmay e he
        rw [eA_bit] at this
        simp only [Bool.and_eq_true] at this
        exact this.2.1.1
      have hi16 : i < 16 := by omega
      have e15 : ρ' 15 = σ 15 := funext (fun j => r0 hX' 15 (by decide) (by decide) j)
      have e2' : ρ' 2 0 = σ 2 0 := r0 hX' 2 (by decide) (by decide) 0
      have e1' : ρ' 1 0 = σ 1 0 := r0 hX' 1 (by decide) (by decide) 0
      have e20 : ρ' 20 0 = σ 20 0 := r0 hX' 20 (by decide) (by decide) 0
      have e21 : ρ' 21 0 = σ 21 0 := r0 hX' 21 (by decide) (by decide) 0
      have e23 : ρ' 23 0 = 4095 := (r0 hX' 23 (by decide) (by decide) 0).trans hp23
      have e3' : ρ' 3 0 = σ 3 0 + gone := by rw [hX' 3 (by decide) (by decide)]; exact hθ3
      refine k_doorsOf L' ok' hi16 ⟨cIN hH (by decide), fun u11 h11 => ?_⟩
      rw [e15, e2'] at h11
      have hdn : dN i.testBit (σ 15) (σ 2 0) < 2 ^ ρ' 1 0 := by
        rw [e1']
        exact dN_lt (fun e he => (ok.er he).1)
      have L11 : LR 137 (sU ρ' 19 ((σ 3 0 + gone) % 12) (dN i.testBit (σ 15) (σ 2 0))) u11 := by
        rw [h11]
        exact L'.up (f := 19) (i := (σ 3 0 + gone) % 12) (by decide) (by decide) (by decide) (by decide) (by simpa [rlN] using hH) rfl rfl (by simp [rlS])
      have ok11 : okS (sU ρ' 19 ((σ 3 0 + gone) % 12) (dN i.testBit (σ 15) (σ 2 0))) := okS_rota ok' hdn
      have hX11 : eqX (sU ρ' 19 ((σ 3 0 + gone) % 12) (dN i.testBit (σ 15) (σ 2 0))) θ := fun f h9 h19 => by
        rw [← hX' f h9 h19]
        funext j
        rw [sU_at, if_neg (fun z => h19 z.1)]
      have ehr : hr1 (sU ρ' 19 ((σ 3 0 + gone) % 12) (dN i.testBit (σ 15) (σ 2 0))) = stp (ndf (σ 20 0 ||| dN i.testBit (σ 15) (σ 2 0)) (σ 21 0)) true (sU ρ' 19 ((σ 3 0 + gone) % 12) (dN i.testBit (σ 15) (σ 2 0))) := by
        have hh : hod (sU ρ' 19 ((σ 3 0 + gone) % 12) (dN i.testBit (σ 15) (σ 2 0))) = (σ 3 0 + gone) % 12 := by
          show ρ' 3 0 % 12 = _
          rw [e3']
        unfold hr1 opn
        rw [hh]
        rw [sU_at, if_neg (by omega), sU_at, if_pos ⟨rfl, rfl⟩, sU_at, if_neg (by omega), sU_at, if_neg (by omega), e20, e21, e23, t4095 hH]
      refine k_goOneHour L11 ok11 (by show ρ' 3 0 < 20000; omega) (fun u12 L12 _ x12 => ?_)
      rw [ehr] at L12
      have ok12 : okS (stp (ndf (σ 20 0 ||| dN i.testBit (σ 15) (σ 2 0)) (σ 21 0)) true (sU ρ' 19 ((σ 3 0 + gone) % 12) (dN i.testBit (σ 15) (σ 2 0)))) := stp_ok ok11 (by show ρ' 3 0 < 20000; omega) _ _
      have hX12 := stp_X (op := ndf (σ 20 0 ||| dN i.testBit (σ 15) (σ 2 0)) (σ 21 0)) (pu := true) hX11
      rw [← hch i hi16 hsub] at hX12
      generalize stp (ndf (σ 20 0 ||| dN i.testBit (σ 15) (σ 2 0)) (σ 21 0)) true (sU ρ' 19 ((σ 3 0 + gone) % 12) (dN i.testBit (σ 15) (σ 2 0))) = ρ2 at L12 ok12 hX12
      have s11 : ∀ a j, a ≠ 153 → gi u11 a j = gi s a j := fun a j ha => by rw [h11, gi_si, if_neg (fun z => ha z.1)]
      have f12 : fr s u12 := (show fr s u11 from ⟨fun a j h1 h2' h3' => s11 a j (by omega), fun a j _ => by rw [h11]; rfl⟩).tr (fr.hr x12)
      have g12 : stg (gone + 1) s u12 := (show stg (gone + 1) s u11 from ⟨fun g' j a => s11 _ j (by omega), fun g' a => s11 _ _ (by omega)⟩).tr (stg.hr (by omega) x12)
      have C12 : QC D W acc' u12 := C'.cg (fun j => by rw [x12.1 5 j (by unfold hrP; omega), s11 5 j (by omega)])
      have e2r : ρ2 2 0 = σ 2 0 := by rw [hX12 2 (by decide) (by decide)]; exact hJ_kept _ _ _ (by decide : kept 2) 0
      refine k_hoursOf L12 ok12 hi16 hH ?_
      rw [e2r, show nI gone + (1 : Int32) = nI (gone + 1) by rw [l_1, cA], bOR]
      refine ih (gone + 1) (ndf left i) (p ||| hO i ((σ 3 0 + gone) % 12) (σ 2 0)) acc' (fun c => S c ∨ (Lf σ gone left p c ∧ nowOf σ left ((σ 3 0 + gone) % 12) c < i)) u12 ρ2 _ (by omega) (Nat.lt_of_le_of_lt (ndf_le _ _) hl) (PV_child h4 (by omega) hi16 hpv hsub hmay) L12 ok12 hX12 (fun c hc => ?_) B' C12 (fun u15 ρ3 acc3 L15 ok15 hX15 B15 C15 f15 g15 => ?_)
      · rcases hc with hc | hc
        · exact hSv c hc
        · exact hc.1.1
      · unfold p_X6_takeWaterBack
        rw [cCL (by omega)]
        refine ⟨cIN (by omega) (by decide), fun v2 e2v => ⟨cIN (by omega) (by decide), fun v4 e4v v5 e5v x17 e17x => ?_⟩⟩
        rw [l_1, cA] at e17x
        subst e17x
        have g15' := g12.tr g15
        have e3r : ρ3 3 0 = σ 3 0 + (gone + 1) := by rw [hX15 3 (by decide) (by decide)]; exact hJ_hour _ _ _
        have k3 : ∀ f j, kept f → f ≠ 19 → ρ3 f j = σ f j := fun f j hf h19 => by
          rw [hX15 f hf.2.2.1 h19]; exact hJ_kept _ _ _ hf j
        have e03 : ρ3 0 0 = σ 0 0 := k3 0 0 (by decide) (by decide)
        have c5 : ∀ a j, a ≠ 144 → ¬ (a = 138 ∧ j = 1) → ¬ (a = 137 ∧ j = 8) → gi v5 a j = gi u15 a j := fun a j h1 h2' h3' => by
          rw [e5v, gi_si, if_neg h3', e4v, gi_si, if_neg h2', e2v, gi_cpi, if_neg (fun z => h1 z.1)]
        have L5 : LR 137 (tBk θ ρ3) v5 := by
          refine LR.tBk (x := 0) L15 ok15.r (fun j hj => ?_) ?_ ?_ c5
          · have h7 := ok.r
            rw [e03] at hj
            rw [e5v, gi_si, if_neg (by omega), e4v, gi_si, if_neg (by omega), e2v, gi_cpi, if_pos ⟨rfl, by omega, by omega⟩, show 0 + (j - 0) = j by omega, g15'.1 gone j (by omega)]
            exact w' j hj
          · rw [e5v, gi_si, if_neg (by omega), e4v, gi_at, e2v, gi_cpi, if_neg (by omega), g15'.2 gone (by omega)]
            exact d'
          · rw [e5v, gi_at, e4v, gi_si, if_neg (by omega), e2v, gi_cpi, if_neg (by omega), show gi u15 137 8 = nI (ρ3 3 0) from L15.f3, e3r, l_1, cS (by omega), hθ3]
            congr 1
        have hX5 : eqX (tBk θ ρ3) θ := fun f h9 h19 => by
          by_cases c : f = 3 ∨ f = 8 ∨ f = 22
          · exact tBk_t c
          · rw [tBk_f c]
            funext j
            rw [k3 f j ⟨by omega, by omega, by omega, by omega⟩ h19, hθk f j ⟨by omega, by omega, by omega, by omega⟩]
        refine kk v5 ⟨tBk θ ρ3, acc3, L5, okS_tBk ok15 hθo (by rw [e03]; exact hθk 0 0 (by decide)), hX5, B15.iff (fun c => ?_), C15.cg (fun j => c5 5 j (by omega) (by omega) (by omega)), ?_, ?_, fun j hj => ?_, ?_⟩
        · rw [Lf_child h4 (by omega) hi16 hl hpv hsub]
          constructor
          · rintro ((h | h) | h)
            · exact Or.inl h
            · exact Or.inr ⟨h.1, by omega⟩
            · exact Or.inr ⟨h.1, by omega⟩
          · rintro (h | h)
            · exact Or.inl (Or.inl h)
            · by_cases ec : nowOf σ left ((σ 3 0 + gone) % 12) c = i
              · exact Or.inr ⟨h.1, ec⟩
              · exact Or.inl (Or.inr ⟨h.1, by omega⟩)
        · exact ((f'.tr f12).tr f15).tr ⟨fun a j h1 h2' h3' => c5 a j (by omega) (by omega) (by omega), fun a j _ => by rw [e5v, e4v, e2v]; rfl⟩
        · exact (s'.tr (g15'.le (by omega))).tr ⟨fun g' j a => c5 _ j (by omega) (by omega) (by omega), fun g' a => c5 _ _ (by omega) (by omega) (by omega)⟩
        · rw [c5 _ j (by omega) (by omega) (by omega), g15'.1 gone j (by omega)]
          exact w' j hj
        · rw [c5 _ _ (by omega) (by omega) (by omega), g15'.2 gone (by omega)]
          exact d'
end TREE
