/-! ===== the class begins a text ===== -/
def bf (o : Nat) (u u' : xM) : Prop := (∀ k i, ¬ (k = o ∧ 6 ≤ i) → k ≠ o + 2 → k ≠ o + 3 → k ≠ o + 5 → gi u' k i = gi u k i) ∧ ∀ k i, ¬ (k = o ∧ i = 10) → k ≠ o + 4 → gl u' k i = gl u k i
section OPEN
variable {B : Nat → Nat} {n mo : Nat} {u u' u0 : xM} {o : Nat}
theorem bf.tr {w : xM} (h : bf o u u') (h' : bf o u' w) : bf o u w := ⟨fun k i a b c d => (h'.1 k i a b c d).trans (h.1 k i a b c d), fun k i a b => (h'.2 k i a b).trans (h.2 k i a b)⟩
theorem wf.bf (h : wf o u u') : bf o u u' := ⟨fun k i a _ _ _ => h.1 k i (fun z => a ⟨z.1, by omega⟩), fun k i a _ => h.2 k i a⟩
theorem AD.bf {cnt : Nat} {a1 a2 : Int32} {a3 : Int64} {w : Int32} (h : AD o cnt a1 a2 a3 w u u') : bf o u u' := by
  obtain ⟨_, _, _, _, _, h1, h2⟩ := h
  exact ⟨fun k i a b c d => h1 k i (by omega) (fun z => a ⟨z.1, by omega⟩), fun k i _ b => h2 k i (fun z => b z.1)⟩
theorem rch_dn {i j : Nat} (h : rch B n j) (hi : i ≤ j) : rch B n i := fun k hk => h k (by omega)
theorem rch_s {i : Nat} (h : rch B n i) (h0 : tK B n (pS B n i) ≠ 0) (h4 : tK B n (pS B n i) ≠ 4) : rch B n (i + 1) := fun k hk => by
  by_cases e : k = i
  · rw [e]; exact ⟨h0, h4⟩
  · exact h k (by omega)
theorem tk_eq {p p' : Nat} (h : tS B n p = tS B n p') : tK B n p = tK B n p' ∧ tE B n p = tE B n p' := by
  unfold tK tE
  rw [h]
  exact ⟨rfl, rfl⟩
theorem tC_eq {p p' : Nat} (h : tS B n p = tS B n p') : tC B n p = tC B n p' ∧ tW B n p = tW B n p' := by
  have e := tk_eq h
  unfold tC tW ltr
  rw [e.1, e.2, h]
  exact ⟨rfl, rfl⟩
theorem tS_nb {p : Nat} (h : cBl (B p) = false) : tS B n p = p := U_n (Or.inr h)
theorem tS_b {p : Nat} (h : p < n) (hb : cBl (B p) = true) : tS B n p = tS B n (p + 1) := U_s h hb
theorem tC_0 {p : Nat} (h : tK B n p = 0) : tC B n p = 0 ∧ tW B n p = -1 := by
  unfold tC tW
  rw [h]
  exact ⟨rfl, rfl⟩
theorem k_begin {Q : xM → Prop} (ho : o = 34 ∨ o = 40) (hx : x_len (o + 2) = mo ∧ x_len (o + 3) = mo ∧ x_len (o + 4) = mo ∧ x_len (o + 5) = mo) (hmo : mo ≤ 1000) (hn : n ≤ 900) (hnm : n < mo) (hT : TA B n u) (hR : RSV o u) (h1 : gi u o 1 = nI mo) (hq : ∀ u', TL o B n 0 u' → TXT o B n u' → gi u' o 14 = 0 → gi u' o 15 = -1 → bf o u u' → Q u') : p_X8_begin o (nI n) u Q := by
  have cgT : ∀ w, bf o u w → TA B n w := fun w hw i hi => by
    rw [hw.1 4 i (by omega) (by omega) (by omega) (by omega)]
    exact hT i hi
  have cgR : ∀ w, bf o u w → RSV o w := fun w hw j hj => by
    rw [hw.2 (o + 1) j (by omega) (by omega)]
    exact hR j hj
  have cg1 : ∀ w, bf o u w → gi w o 1 = nI mo := fun w hw => by
    rw [hw.1 o 1 (by omega) (by omega) (by omega) (by omega)]
    exact h1
  have fin : ∀ (j : Nat) (w : xM), bf o u w → gi w o 6 = nI j → j ≤ n → (∀ i, i < j → rch B n i → ENT o B n i w) → ((rch B n j ∧ n ≤ tS B n (pS B n j)) ∨ ¬ rch B n j) → p_X8_begin_L63 o Q (nI n) w := fun j w hw h6 hj hent hst => by
    unfold p_X8_begin_L63
    refine k_add (w := -1) ho hx hmo h6 (cg1 w hw) (by omega) ⟨fun _ => rfl, fun z => absurd z (by decide)⟩ (fun u1 ha => ?_)
    intro u2 q2 u3 q3 u4 q4
    have hT1 : TXT o B n u1 := by
      refine ⟨j + 1, ha.1, by rw [hx.1]; omega, fun i hi hr => ?_, fun i hr => ?_⟩
      · rcases hst with ⟨_, hz⟩ | hz
        · exact (hr j (by omega)).1 (by rw [tK_0]; exact hz)
        · exact hz (rch_dn hr (by omega))
      · by_cases e : i < j
        · exact ha.ent (p0 := 0) e (hent i e hr)
        · have e : i = j := by
            by_cases e2 : i = j
            · exact e2
            · exfalso
              rcases hst with ⟨_, hz⟩ | hz
              · exact (hr j (by omega)).1 (by rw [tK_0]; exact hz)
              · exact hz (rch_dn hr (by omega))
          subst e
          rcases hst with ⟨_, hz⟩ | hz
          · have z0 : tK B n (pS B n i) = 0 := by rw [tK_0]; exact hz
            have zS : tS B n (pS B n i) = n := Nat.le_antisymm (tS_ln (pS_ln i)) hz
            unfold ENT
            rw [z0, zS, (tC_0 z0).1, (tC_0 z0).2]
            exact ⟨ha.2.1, ha.2.2.1, ha.2.2.2.1, ha.2.2.2.2.1⟩
          · exact absurd hr hz
    have f4 : wf o u1 u4 := by
      rw [q4, q3, q2]
      exact ((wf.si (by omega)).tr (wf.si (by omega))).tr (wf.si (by omega))
    refine k_adv (i := 0) hx hmo ?_ (hT1.cg f4) (fun k hk => absurd hk (Nat.not_lt_zero _)) (fun u5 hl hf => ?_)
    · rw [q4, gi_at]
      decide
    · refine hq u5 hl ((hT1.cg f4).cg hf.wf) ?_ ?_ (hw.tr (ha.bf.tr (f4.tr hf.wf).bf))
      · rw [hf.1 o 14 (by omega), q4, gi_si, if_neg (by omega), q3, gi_si, if_neg (by omega), q2, gi_at]
      · rw [hf.1 o 15 (by omega), q4, gi_si, if_neg (by omega), q3, gi_at]
  unfold p_X8_begin
  intro u1 q1 x2 q2
  have ex2 : x2 = nI n := by
    rw [q2]
    by_cases c : nI 900 < nI n
    · rw [cLT (by omega) (by omega)] at c
      omega
    · rw [if_neg c]
  subst ex2
  have b1 : bf o u u1 := by
    rw [q1]
    exact ⟨fun k i a _ _ _ => by rw [gi_si, if_neg (by omega)], fun _ _ _ _ => rfl⟩
  refine xloop (fun m i (s : Nat × xM) => p_X8_begin_L18 o Q m (nI n) (nI s.1) (nI i) s.2) (fun i s => i ≤ s.1 ∧ s.1 ≤ n ∧ bf o u s.2 ∧ ∃ j, gi s.2 o 6 = nI j ∧ j ≤ s.1 ∧ (∀ i, i < j → rch B n i → ENT o B n i s.2) ∧ ((rch B n j ∧ tS B n s.1 = tS B n (pS B n j)) ∨ ¬ rch B n j)) (n + 1) 0 (0, u1) (by omega) ⟨Nat.le_refl _, Nat.zero_le _, b1, 0, by dsimp only; rw [q1, gi_at]; rfl, Nat.le_refl _, fun i hi => absurd hi (Nat.not_lt_zero _), Or.inl ⟨fun k hk => absurd hk (Nat.not_lt_zero _), rfl⟩⟩ ?_ ?_
  · rintro m ⟨p, w⟩ ⟨a, b, _⟩
    dsimp only at a b
    omega
  · rintro m i ⟨p, w⟩ _ hi ⟨hip, hpn, hw, j, h6, hj, hent, hst⟩ kk
    dsimp only at hip hpn hw h6 hj hent hst ⊢
    unfold p_X8_begin_L18
    rw [cLT (by omega) (by omega), cLE (by omega) (by omega), cCL (by omega)]
    refine ⟨fun z => absurd z (by omega), fun _ => ⟨fun z => ?_, fun z => ⟨cIN (by omega) (by decide), ?_⟩⟩⟩
    · refine fin j w hw h6 (by omega) hent ?_
      rcases hst with ⟨a, b⟩ | b
      · left
        refine ⟨a, ?_⟩
        rw [← b]
        have := tS_le (B := B) (n := n) p
        omega
      · exact Or.inr b
    · have ht := cgT w hw p (by omega)
      rw [ht.1]
      refine k_isBlank ht.2 ⟨fun c => ?_, fun c x10 h10 x11 h11 => ?_⟩
      · have eS : tS B n p = p := tS_nb c
        have hk := k_token (p0 := p) (u := w) (cnt := j) (Q := fun r8 u7 => ∀ x9 : Int32, x9 = nI i + 1 → p_X8_begin_L18 o Q m (nI n) r8 x9 u7) ho hx hmo hn (cgT w hw) (cgR w hw) (by omega) h6 (cg1 w hw) (by omega) (fun u' e ha he1 he2 he3 x9 h9 => ?_)
        · rw [eS] at hk
          exact hk
        · rw [l_1, cA] at h9
          subst h9
          refine kk (e, u') ⟨by dsimp only; omega, he2, hw.tr ha.bf, j + 1, ha.1, by dsimp only; omega, fun i' hi' hr' => ?_, ?_⟩
          · by_cases e' : i' < j
            · exact ha.ent (p0 := 0) e' (hent i' e' hr')
            · have e' : i' = j := by omega
              subst e'
              rcases hst with ⟨_, b⟩ | b
              · unfold ENT
                rw [← (tk_eq b).1, ← b, ← (tC_eq b).1, ← (tC_eq b).2]
                exact ⟨ha.2.1, ha.2.2.1, ha.2.2.2.1, ha.2.2.2.2.1⟩
              · exact absurd hr' b
          · dsimp only
            rcases hst with ⟨hr, b⟩ | b
            · have n0 : tK B n (pS B n j) ≠ 0 := by
                intro z
                rw [tK_0, ← b] at z
                omega
              by_cases k4 : tK B n (pS B n j) = 4
              · exact Or.inr (fun hr' => (hr' j (Nat.lt_succ_self j)).2 k4)
              · left
                refine ⟨rch_s hr n0 k4, ?_⟩
                rcases he3 with z | ⟨z4, _⟩
                · rw [z, (tk_eq b).2]
                  rfl
                · exact absurd ((tk_eq b).1.symm.trans z4) k4
            · exact Or.inr (fun hr' => b (rch_dn hr' (by omega)))
      · rw [l_1, cA] at h10 h11
        subst h10 h11
        exact kk (p + 1, w) ⟨by dsimp only; omega, by dsimp only; omega, hw, j, h6, by dsimp only; omega, hent, by
          dsimp only
          rw [← tS_b (by omega) c]
          exact hst⟩
end OPEN
