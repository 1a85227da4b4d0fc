/-! ===== the class's pass through the nights ===== -/
section PASS
variable {K T N P : Nat → Nat} {L : Nat} {σ τ : aS} {c : cfg} {u u' u0 : xM} {ro o2 : Nat} {q : Nat → Nat}
theorem NC.cg (h : NC 58 K T N P L u) (hro : 46 ≤ ro ∧ ro ≤ 48) (ho : 83 ≤ o2) (f : lfr ro o2 u u') : NC 58 K T N P L u' := by
  have e : ∀ k i, 58 ≤ k → k < 63 → gi u' k i = gi u k i := fun k i a b => f.1 k i (by omega) (by omega) (by omega)
  refine ⟨(e 58 2 (by omega) (by omega)).trans h.1, fun k hk => ?_⟩
  rw [e (58 + 1) k (by omega) (by omega), e (58 + 2) k (by omega) (by omega), e (58 + 3) k (by omega) (by omega), e (58 + 4) k (by omega) (by omega)]
  exact h.2 k hk
theorem lnI_n {x y : aS} {l : Nat} {lp : Nat → Nat} (hl : l ≤ 60) {qq : Nat → Nat} (h : qq 0 = l) : lnI (x, qq, lp) = nI l := by
  show (if qq 0 = 1000 then (-1 : Int32) else nI (qq 0)) = nI l
  rw [if_neg (by omega), h]
theorem lnI_q {x : aS} {lp : Nat → Nat} : lnI (x, qU q 0 1000, lp) = -1 := by
  show (if qU q 0 1000 0 = 1000 then (-1 : Int32) else nI (qU q 0 1000 0)) = -1
  rw [if_pos (qU_s _ _ _)]
theorem act_1000 (hB : BRK L K P) (hL : L ≤ 60) {o : Nat} (h : act K P L 1000 o) : False := by
  obtain ⟨a1, a2, _, a3⟩ := h
  have := hB.1 o a1 (by omega) (by omega)
  omega
theorem k_bEnd {l : Nat} {Q : Int32 → xM → Prop} (hro : ro = 46 ∨ ro = 48) (ho : o2 = 83 ∨ o2 = 110) (hB : BRK L K P) (hL : L ≤ 60) (hc : c.2.1 0 = l) (hl : l < L) (hk : K l = 12) (hC : NC 58 K T N P L u) (hP : PI K P L σ c) (C : CRL ro o2 K P L c u) (hq : ∀ u', CRL ro o2 K P L (nxt K T N P L c) u' → lfr ro o2 u u' → Q (lnI (nxt K T N P L c)) u') : p_X3_behindEnd ro 58 (nI l) u Q := by
  subst hc
  have hb := hB.2.1 _ hl hk
  have hn := hC.2 _ hl
  have hnp := hC.2 (P (c.2.1 0)) (by omega)
  rw [nxt_e hl hk] at hq
  unfold p_X3_behindEnd
  rw [cCL (by omega), hn.2.2.2 (Or.inr hk)]
  refine ⟨cIN (by omega) (by decide), fun x2 h2 => ?_⟩
  subst h2
  rw [cN0 (by omega), cLE (by omega) (by omega), cCL (by omega), hnp.1, show (nI (K (P (c.2.1 0))) = (10 : Int32)) = (K (P (c.2.1 0)) = 10) from cEQ (b := 10) (by omega) (by omega), l_1, cA, cA]
  refine ⟨fun z => z.elim, fun _ => ⟨fun z => absurd z (by omega), fun _ => ⟨cIN (by omega) (by decide), fun z => ⟨cIN (by omega) (by decide), cIN (by omega) (by decide), fun u9 h9 => ⟨cIN (by omega) (by decide), ?_⟩⟩, fun z => ?_⟩⟩⟩
  · rw [if_pos z] at hq
    have ha := act_own hB hl hk z
    have hr := hP.2.2.2.2.1 _ ha
    have hcell := C.2.2 _ ha
    rw [hcell, cS (by omega)] at h9
    have e9 : gi u9 (ro + 1) (P (c.2.1 0)) = nI (c.2.2 (P (c.2.1 0)) - 1) := by rw [h9, gi_at]
    have f9 : lfr ro o2 u u9 := by rw [h9]; exact lfr.si (Or.inl rfl)
    have rel : ∀ l', (∀ o, act K P L l' o → act K P L (c.2.1 0) o) → CRL ro o2 K P L (c.1, qU c.2.1 0 l', qU c.2.2 (P (c.2.1 0)) (c.2.2 (P (c.2.1 0)) - 1)) u9 := fun l' hact => by
      refine ⟨by rw [h9]; exact C.1.w2 (by omega), fun i i1 i2 => ?_, fun o hoa => ?_⟩
      · rw [h9, gi_si, if_neg (by omega)]
        show _ = nI (qU c.2.1 0 l' i)
        rw [qU_n (by omega)]
        exact C.2.1 i i1 i2
      · dsimp only at hoa ⊢
        rw [qU_s] at hoa
        by_cases e : o = P (c.2.1 0)
        · rw [e, qU_s]; exact e9
        · rw [qU_n e, h9, gi_si, if_neg (by omega)]
          exact C.2.2 o (hact o hoa)
    rw [e9, l_0, cLE (by omega) (by omega)]
    refine ⟨fun z2 => ?_, fun z2 => ?_⟩
    · rw [if_neg (c := K (P (c.2.1 0)) = 10 ∧ 1 < c.2.2 (P (c.2.1 0))) (by omega)] at hq
      have := hq u9 (rel _ (fun o hoa => by
        rcases act_next hB hoa with e | e
        · obtain ⟨_, y, _⟩ := hoa
          rw [e, hk] at y
          omega
        · exact e)) f9
      rw [lnI_n (y := c.1) (l := c.2.1 0 + 1) (by omega) (qU_s _ _ _)] at this
      exact this
    · rw [if_pos (c := K (P (c.2.1 0)) = 10 ∧ 1 < c.2.2 (P (c.2.1 0))) ⟨z, by omega⟩] at hq
      have := hq u9 (rel _ (fun o hoa => act_again hB hl hk hoa)) f9
      rw [lnI_n (y := c.1) (l := P (c.2.1 0) + 1) (by omega) (qU_s _ _ _)] at this
      exact this
  · rw [if_neg z, if_neg (c := K (P (c.2.1 0)) = 10 ∧ 1 < c.2.2 (P (c.2.1 0))) (fun y => z y.1)] at hq
    have := hq u ⟨C.1, fun i i1 i2 => by
      show _ = nI (qU c.2.1 0 _ i)
      rw [qU_n (by omega)]
      exact C.2.1 i i1 i2, fun o hoa => by
      dsimp only at hoa ⊢
      rw [qU_s] at hoa
      rcases act_next hB hoa with e | e
      · obtain ⟨_, y, _⟩ := hoa
        rw [e, hk] at y
        omega
      · exact C.2.2 o e⟩ lfr.rf
    rw [lnI_n (y := c.1) (l := c.2.1 0 + 1) (by omega) (qU_s _ _ _)] at this
    exact this
theorem k_bStep {l : Nat} {Q : Int32 → xM → Prop} (hro : ro = 46 ∨ ro = 48) (ho : o2 = 83 ∨ o2 = 110) (hB : BRK L K P) (hN : NP K T N L σ) (hL : L ≤ 60) (hc : c.2.1 0 = l) (hl : l < L) (hk : K l ≠ 12) (hs : c.2.1 1 ≠ 300) (hC : NC 58 K T N P L u) (hP : PI K P L σ c) (L2 : LR o2 c.1 u) (CC : CQ ro (qU c.2.1 1 (c.2.1 1 + 1)) u) (CA : ∀ o, act K P L l o → gi u (ro + 1) o = nI (c.2.2 o)) (hq : ∀ u', CRL ro o2 K P L (nxt K T N P L c) u' → lfr ro o2 u u' → Q (lnI (nxt K T N P L c)) u') : p_X3_behindStep ro 58 o2 (nI l) u Q := by
  subst hc
  have hn := hC.2 _ hl
  have hnp := hN _ hl
  obtain ⟨hT, hst, h7, _, _, _⟩ := hP
  have ok := hT.1
  have e0 : c.1 0 0 = σ 0 0 := hT.2.2.2.1
  have e1 : c.1 1 0 = σ 1 0 := hT.2.2.2.2.1
  have hr27 : ro + 27 ≤ o2 := by omega
  unfold p_X3_behindStep
  rw [cCL (by omega), hn.1]
  refine ⟨cIN (by omega) (by decide), fun x2 h2 => ⟨cIN (by omega) (by decide), fun x4 h4 => ⟨cIN (by omega) (by decide), fun x6 h6 => ?_⟩⟩⟩
  subst h6
  have num : ∀ j, j < 2147483648 → (nI (K (c.2.1 0)) = nI j) = (K (c.2.1 0) = j) := fun j hj => cEQ (by omega) hj
  -- going on behind it
  have fin : K (c.2.1 0) ≠ 11 → ∀ (ps : Bool) (u2 : xM), ps = tst (K (c.2.1 0)) (T (c.2.1 0)) (N (c.2.1 0)) c.1 → LR o2 (eff (K (c.2.1 0)) (T (c.2.1 0)) (N (c.2.1 0)) c.1 (qU c.2.1 1 (c.2.1 1 + 1))).1 u2 → CQ ro (eff (K (c.2.1 0)) (T (c.2.1 0)) (N (c.2.1 0)) c.1 (qU c.2.1 1 (c.2.1 1 + 1))).2 u2 → lfr ro o2 u u2 → (K (c.2.1 0) ≠ 10 → ∀ i, gi u2 (ro + 1) i = gi u (ro + 1) i) → (K (c.2.1 0) = 10 → ∀ i, gi u2 (ro + 1) i = if i = c.2.1 0 then nI (N (c.2.1 0)) else gi u (ro + 1) i) → Q (nI (if ps then c.2.1 0 + 1 else P (c.2.1 0) + 1)) u2 := fun k11 ps u2 hps a1 a2 a3 a4 a5 => by
    subst hps
    rw [nxt_s hl hk k11 hs] at hq
    have key : ∀ o, act K P L (if tst (K (c.2.1 0)) (T (c.2.1 0)) (N (c.2.1 0)) c.1 then c.2.1 0 + 1 else P (c.2.1 0) + 1) o → o = c.2.1 0 ∧ K (c.2.1 0) = 10 ∨ act K P L (c.2.1 0) o := fun o hoa => by
      by_cases ct : tst (K (c.2.1 0)) (T (c.2.1 0)) (N (c.2.1 0)) c.1 = true
      · rw [if_pos ct] at hoa
        rcases act_next hB hoa with z | z
        · obtain ⟨_, z1, _⟩ := hoa
          rw [z] at z1
          exact Or.inl ⟨z, z1⟩
        · exact Or.inr z
      · rw [if_neg ct] at hoa
        have h59 := tst_f ct
        exact Or.inr (act_past hB hl (by omega) (by omega) hoa)
    have bd : (if tst (K (c.2.1 0)) (T (c.2.1 0)) (N (c.2.1 0)) c.1 then c.2.1 0 + 1 else P (c.2.1 0) + 1) ≤ 60 := by
      by_cases ct : tst (K (c.2.1 0)) (T (c.2.1 0)) (N (c.2.1 0)) c.1 = true
      · rw [if_pos ct]; omega
      · rw [if_neg ct]
        have h59 := tst_f ct
        have := hB.1 _ hl (by omega) (by omega)
        omega
    have := hq u2 ⟨a1, fun i i1 i2 => by
      show _ = nI (qU _ 0 _ i)
      rw [qU_n (by omega)]
      exact a2 i i1 i2, fun o hoa => by
      dsimp only at hoa ⊢
      rw [qU_s] at hoa
      rcases key o hoa with ⟨z, z10⟩ | z
      · rw [if_pos z10, a5 z10, if_pos z, z, qU_s]
      · by_cases z10 : K (c.2.1 0) = 10
        · have zl : o ≠ c.2.1 0 := by obtain ⟨_, _, y, _⟩ := z; omega
          rw [if_pos z10, a5 z10, if_neg zl, qU_n zl]
          exact CA o z
        · rw [if_neg z10, a4 z10]
          exact CA o z⟩ a3
    rw [lnI_n (y := c.1) bd (qU_s _ _ _)] at this
    exact this
  have fin1 : K (c.2.1 0) ≤ 4 → ∀ (u2 : xM), LR o2 (eff (K (c.2.1 0)) (T (c.2.1 0)) (N (c.2.1 0)) c.1 (qU c.2.1 1 (c.2.1 1 + 1))).1 u2 → CQ ro (eff (K (c.2.1 0)) (T (c.2.1 0)) (N (c.2.1 0)) c.1 (qU c.2.1 1 (c.2.1 1 + 1))).2 u2 → lfq ro o2 u u2 → Q (nI (c.2.1 0) + 1) u2 := fun h4 u2 a1 a2 a3 => by
    have := fin (by omega) true u2 (tst_t (by omega)).symm a1 a2 a3.1 (fun _ => a3.2) (fun z => by omega)
    rw [if_pos rfl, ← cA] at this
    exact this
  have q7 : qU c.2.1 1 (c.2.1 1 + 1) 7 < 65536 := by rw [qU_n (by decide)]; exact h7
  have so : 5 ≤ K (c.2.1 0) ∧ K (c.2.1 0) ≤ 9 → vp_in (nI (c.2.1 0)) 60 ∧ p_X3_isSo (nI (K (c.2.1 0))) o2 x2 x4 u (fun r20 u19 => ((r20 = false → vp_in (nI (c.2.1 0)) 60 ∧ Q ((gi u19 (58 + 4) (c.2.1 0)) + (1 : Int32)) u19) ∧ (r20 = true → Q (nI (c.2.1 0) + (1 : Int32)) u19))) := fun h59 => by
    refine ⟨cIN (by omega) (by decide), ?_⟩
    rw [h2, hn.2.2.1 (by omega)]
    refine k_isSo (n := N (c.2.1 0)) L2 ok h59 ?_ (fun z => by rw [h4, hn.2.1 (by omega)]) (fun z => hnp.2.2.2.2.1 (by omega)) ?_
    · split
      · rw [e1]; exact hnp.2.2.1 (by omega)
      · rw [e0]; exact hnp.2.2.2.1 (by omega)
    · have ee : eff (K (c.2.1 0)) (T (c.2.1 0)) (N (c.2.1 0)) c.1 (qU c.2.1 1 (c.2.1 1 + 1)) = (c.1, qU c.2.1 1 (c.2.1 1 + 1)) := by
        unfold eff
        rw [if_neg (by omega), if_neg (by omega), if_neg (by omega), if_neg (by omega)]
      have fin' := fun ps hps => fin (by omega) ps u hps (by rw [ee]; exact L2) (by rw [ee]; exact CC) lfr.rf (fun _ _ => rfl) (fun z => by omega)
      refine ⟨fun z => ⟨cIN (by omega) (by decide), ?_⟩, fun z => ?_⟩
      · rw [hn.2.2.2 (by omega), l_1, cA]
        have := fin' false z.symm
        exact this
      · rw [l_1, cA]
        have := fin' true z.symm
        exact this
  refine ⟨fun z => ?_, fun z => ?_, fun z => ?_, fun z => ?_, fun z => ?_, fun z => ?_, fun z => ?_, fun z => ?_, fun z => ?_, fun z => ?_, fun z => ?_, fun z => ?_, fun z0 z1 z2 z3 z4 z5 z6 z7 z8 z9 z10 z11 => ?_⟩
  · have z : K (c.2.1 0) = 0 := by rw [l_0, num 0 (by omega)] at z; exact z
    have hx := hn.2.1 (by omega)
    have hb := hnp.2.1 z
    rw [h4, hx]
    refine k_lgo (t := T (c.2.1 0)) hr27 L2 ok hT.2.2.1 hT.2.1 hb.2 CC (fun u2 a1 a2 a3 => ?_)
    rw [show eff 0 (T (c.2.1 0)) (N (c.2.1 0)) c.1 (qU c.2.1 1 (c.2.1 1 + 1)) = eff (K (c.2.1 0)) (T (c.2.1 0)) (N (c.2.1 0)) c.1 (qU c.2.1 1 (c.2.1 1 + 1)) by rw [z]] at a1 a2
    exact fin1 (by omega) u2 a1 a2 a3
  · have z : K (c.2.1 0) = 1 := by rw [l_1, num 1 (by omega)] at z; exact z
    have ht := hnp.2.2.1 (by omega)
    rw [h2, hn.2.2.1 (by omega)]
    refine k_lturn (k := K (c.2.1 0)) (n := N (c.2.1 0)) hr27 (by omega) L2 ok (by rw [e1]; exact ht) CC (by rw [z]; rfl) (fun u2 a1 a2 a3 => fin1 (by omega) u2 a1 a2 a3)
  · have z : K (c.2.1 0) = 2 := by rw [l_2, num 2 (by omega)] at z; exact z
    have ht := hnp.2.2.1 (by omega)
    rw [h2, hn.2.2.1 (by omega)]
    refine k_lturn (k := K (c.2.1 0)) (n := N (c.2.1 0)) hr27 (by omega) L2 ok (by rw [e1]; exact ht) CC (by rw [z]; rfl) (fun u2 a1 a2 a3 => fin1 (by omega) u2 a1 a2 a3)
  · have z : K (c.2.1 0) = 3 := by rw [l_3, num 3 (by omega)] at z; exact z
    have ht := hnp.2.2.2.1 (by omega)
    rw [h2, h4, hn.2.2.1 (by omega), hn.2.1 (by omega)]
    refine k_lbail hr27 L2 ok (by rw [e0]; exact ht) (hnp.2.2.2.2.1 (by omega)) CC (fun u2 a1 a2 a3 => ?_)
    rw [show eff 3 (T (c.2.1 0)) (N (c.2.1 0)) c.1 (qU c.2.1 1 (c.2.1 1 + 1)) = eff (K (c.2.1 0)) (T (c.2.1 0)) (N (c.2.1 0)) c.1 (qU c.2.1 1 (c.2.1 1 + 1)) by rw [z]] at a1 a2
    exact fin1 (by omega) u2 a1 a2 a3
  · have z : K (c.2.1 0) = 4 := by rw [l_4, num 4 (by omega)] at z; exact z
    refine k_lany (t := T (c.2.1 0)) (n := N (c.2.1 0)) hr27 L2 ok q7 CC (fun u2 a1 a2 a3 => ?_)
    rw [show eff 4 (T (c.2.1 0)) (N (c.2.1 0)) c.1 (qU c.2.1 1 (c.2.1 1 + 1)) = eff (K (c.2.1 0)) (T (c.2.1 0)) (N (c.2.1 0)) c.1 (qU c.2.1 1 (c.2.1 1 + 1)) by rw [z]] at a1 a2
    exact fin1 (by omega) u2 a1 a2 a3
  · have z : K (c.2.1 0) = 5 := by rw [l_5, num 5 (by omega)] at z; exact z
    exact so (by omega)
  · have z : K (c.2.1 0) = 6 := by rw [l_6, num 6 (by omega)] at z; exact z
    exact so (by omega)
  · have z : K (c.2.1 0) = 7 := by rw [l_7, num 7 (by omega)] at z; exact z
    exact so (by omega)
  · have z : K (c.2.1 0) = 8 := by rw [l_8, num 8 (by omega)] at z; exact z
    exact so (by omega)
  · have z : K (c.2.1 0) = 9 := by rw [l_9, num 9 (by omega)] at z; exact z
    exact so (by omega)
  · have z : K (c.2.1 0) = 10 := by rw [l_10, num 10 (by omega)] at z; exact z
    refine ⟨cIN (by omega) (by decide), fun u49 h49 => ?_⟩
    rw [h4, hn.2.1 (by omega)] at h49
    have ee : eff (K (c.2.1 0)) (T (c.2.1 0)) (N (c.2.1 0)) c.1 (qU c.2.1 1 (c.2.1 1 + 1)) = (c.1, qU c.2.1 1 (c.2.1 1 + 1)) := by
      unfold eff
      rw [if_neg (by omega), if_neg (by omega), if_neg (by omega), if_neg (by omega)]
    have := fin (by omega) true u49 (tst_t (by omega)).symm (by rw [ee, h49]; exact L2.w2 (by omega)) (by rw [ee]; exact CC.cg (fun i => by rw [h49, gi_si, if_neg (by omega)])) (by rw [h49]; exact lfr.si (Or.inl rfl)) (fun y => absurd z y) (fun _ i => by
      rw [h49, gi_si]
      by_cases e : i = c.2.1 0
      · rw [if_pos ⟨rfl, e⟩, if_pos e]
      · rw [if_neg (fun y => e y.2), if_neg e])
    rw [if_pos rfl, ← cA] at this
    exact this
  · have z : K (c.2.1 0) = 11 := by rw [l_11, num 11 (by omega)] at z; exact z
    rw [nxt_q hl z hs] at hq
    have := hq u ⟨L2, fun i i1 i2 => by
      show _ = nI (qU _ 0 _ i)
      rw [qU_n (by omega)]
      exact CC i i1 i2, fun o hoa => by
      dsimp only at hoa
      rw [qU_s] at hoa
      exact (act_1000 hB hL hoa).elim⟩ lfr.rf
    rw [lnI_q] at this
    exact this
  · exfalso
    rw [l_0, num 0 (by omega)] at z0
    rw [l_1, num 1 (by omega)] at z1
    rw [l_2, num 2 (by omega)] at z2
    rw [l_3, num 3 (by omega)] at z3
    rw [l_4, num 4 (by omega)] at z4
    rw [l_5, num 5 (by omega)] at z5
    rw [l_6, num 6 (by omega)] at z6
    rw [l_7, num 7 (by omega)] at z7
    rw [l_8, num 8 (by omega)] at z8
    rw [l_9, num 9 (by omega)] at z9
    rw [l_10, num 10 (by omega)] at z10
    rw [l_11, num 11 (by omega)] at z11
    omega
theorem k_pass {s0 : Nat} {Q : xM → Prop} (hro : ro = 46 ∨ ro = 48) (ho : o2 = 83 ∨ o2 = 110) (hB : BRK L K P) (hN : NP K T N L σ) (hL : L ≤ 60) (hT : okT σ σ) (hs0 : s0 ≤ 9999) (hC : NC 58 K T N P L u) (L2 : LR o2 σ u) (hq : ∀ u' n, L ≤ (itr K T N P L n (σ, qU (fun _ => 0) 7 s0, fun _ => 0)).2.1 0 → PI K P L σ (itr K T N P L n (σ, qU (fun _ => 0) 7 s0, fun _ => 0)) → CRL ro o2 K P L (itr K T N P L n (σ, qU (fun _ => 0) 7 s0, fun _ => 0)) u' → gi u' ro 0 = 1 → (∀ k i, k ≠ ro → k ≠ ro + 1 → ¬ (o2 ≤ k ∧ k < o2 + 27) → gi u' k i = gi u k i) → (∀ k i, hrP o2 k → gl u' k i = gl u k i) → Q u') : p_X3_pass ro 58 o2 (nI s0) u Q := by
  unfold p_X3_pass
  intro u1 h1 u2 h2 u3 h3 u4 h4 u5 h5 u6 h6 u7 h7 u8 h8
  have cell : ∀ i, gi u8 ro i = if i = 7 then nI s0 else if i = 0 then 1 else if i < 7 then 0 else gi u ro i := fun i => by
    rw [h8, gi_si, h7, gi_si, h6, gi_si, h5, gi_si, h4, gi_si, h3, gi_si, h2, gi_si, h1, gi_si]
    rcases (by omega : i = 0 ∨ i = 1 ∨ i = 2 ∨ i = 3 ∨ i = 4 ∨ i = 5 ∨ i = 6 ∨ i = 7 ∨ 8 ≤ i) with z | z | z | z | z | z | z | z | z
    all_goals first | (subst z; simp) | skip
    rw [if_neg (by omega), if_neg (by omega), if_neg (by omega), if_neg (by omega), if_neg (by omega), if_neg (by omega), if_neg (by omega), if_neg (by omega), if_neg (by omega), if_neg (by omega), if_neg (by omega)]
  have oth : ∀ k i, k ≠ ro → gi u8 k i = gi u k i := fun k i hk => by
    rw [h8, gi_si, if_neg (fun z => hk z.1), h7, gi_si, if_neg (fun z => hk z.1), h6, gi_si, if_neg (fun z => hk z.1), h5, gi_si, if_neg (fun z => hk z.1), h4, gi_si, if_neg (fun z => hk z.1), h3, gi_si, if_neg (fun z => hk z.1), h2, gi_si, if_neg (fun z => hk z.1), h1, gi_si, if_neg (fun z => hk z.1)]
  have othl : ∀ k i, gl u8 k i = gl u k i := fun k i => by rw [h8, h7, h6, h5, h4, h3, h2, h1]; rfl
  have L8 : LR o2 σ u8 := L2.cg (fun f hf b => oth _ _ (by have := rl_o f hf; omega))
  have C8 : NC 58 K T N P L u8 := by
    refine ⟨(oth 58 2 (by omega)).trans hC.1, fun k hk => ?_⟩
    rw [oth (58 + 1) k (by omega), oth (58 + 2) k (by omega), oth (58 + 3) k (by omega), oth (58 + 4) k (by omega)]
    exact hC.2 k hk
  refine xloop (fun m i (s : Int32 × xM) => p_X3_pass_L46 ro 58 o2 Q m s.1 (nI i) s.2) (fun i s => ∃ n, s.1 = lnI (itr K T N P L n (σ, qU (fun _ => 0) 7 s0, fun _ => 0)) ∧ PI K P L σ (itr K T N P L n (σ, qU (fun _ => 0) 7 s0, fun _ => 0)) ∧ CRL ro o2 K P L (itr K T N P L n (σ, qU (fun _ => 0) 7 s0, fun _ => 0)) s.2 ∧ lfr ro o2 u8 s.2 ∧ i + Rm K P L (itr K T N P L n (σ, qU (fun _ => 0) 7 s0, fun _ => 0)) ≤ 161 * ((itr K T N P L n (σ, qU (fun _ => 0) 7 s0, fun _ => 0)).2.1 1 + (itr K T N P L n (σ, qU (fun _ => 0) 7 s0, fun _ => 0)).2.1 6)) 1000000 0 (0, u8) (Nat.zero_le _) ⟨0, ?_, ?_, ?_, lfr.rf, ?_⟩ ?_ ?_
  · show (0 : Int32) = lnI (σ, qU (fun _ => 0) 7 s0, fun _ => 0)
    show (0 : Int32) = if qU (fun _ => 0) 7 s0 0 = 1000 then (-1 : Int32) else nI (qU (fun _ => 0) 7 s0 0)
    rw [if_neg (by rw [qU_n (by decide)]; decide), qU_n (by decide)]
    rfl
  · refine ⟨hT, ?_, ?_, ?_, fun o hoa => ?_, ?_⟩
    · show qU (fun _ => 0) 7 s0 1 ≤ 300
      rw [qU_n (by decide)]; omega
    · show qU (fun _ => 0) 7 s0 7 < 65536
      rw [qU_s]; omega
    · left
      show qU (fun _ => 0) 7 s0 6 = 0
      rw [qU_n (by decide)]
    · have hoa : act K P L (qU (fun _ => 0) 7 s0 0) o := hoa
      rw [qU_n (by decide)] at hoa
      obtain ⟨_, _, y, _⟩ := hoa
      omega
    · left
      show qU (fun _ => 0) 7 s0 0 ≤ L
      rw [qU_n (by decide)]; omega
  · refine ⟨L8, fun i i1 i2 => ?_, fun o hoa => ?_⟩
    · show gi u8 ro i = nI (qU (fun _ => 0) 7 s0 i)
      rw [cell, qU_at]
      by_cases e : i = 7
      · rw [if_pos e, if_pos e]
      · rw [if_neg e, if_neg e, if_neg (by omega), if_pos (by omega)]; rfl
    · have hoa : act K P L (qU (fun _ => 0) 7 s0 0) o := hoa
      rw [qU_n (by decide)] at hoa
      obtain ⟨_, _, y, _⟩ := hoa
      omega
  · have e0 : (itr K T N P L 0 (σ, qU (fun _ => 0) 7 s0, fun _ => 0)).2.1 0 = 0 := by
      show qU (fun _ => 0) 7 s0 0 = 0
      rw [qU_n (by decide)]
    have : Rm K P L (itr K T N P L 0 (σ, qU (fun _ => 0) 7 s0, fun _ => 0)) = 0 := by
      unfold Rm
      rw [e0]
      by_cases z : L ≤ 0
      · rw [if_pos z]
      · rw [if_neg z, if_neg (fun z2 => by have := hB.2.1 0 (by omega) z2; omega)]
    rw [this]
    omega
  · intro m s hs
    obtain ⟨n, _, hP, _, _, hb⟩ := hs
    have h1 := hP.2.1
    have h2 := hP.2.2.2.1
    omega
  · intro m i s _ hi hs kk
    obtain ⟨n, e1, hP, C, F, hb⟩ := hs
    have hs1 := hP.2.1
    have hs6 := hP.2.2.2.1
    have hP' := PI_nxt hB hN hL hP
    have eS : itr K T N P L (n + 1) (σ, qU (fun _ => 0) 7 s0, fun _ => 0) = nxt K T N P L (itr K T N P L n (σ, qU (fun _ => 0) 7 s0, fun _ => 0)) := rfl
    have hqn := fun w => hq w n
    generalize itr K T N P L n (σ, qU (fun _ => 0) 7 s0, fun _ => 0) = c at *
    have CN := C8.cg (by omega) (by omega) F
    have done : L ≤ c.2.1 0 → Q s.2 := fun hl => hqn s.2 hl hP C (by rw [F.1 ro 0 (by omega) (by omega) (by omega), cell]; rfl) (fun k j a b d => by rw [F.1 k j b (fun z => a z.1) d, oth k j a]) (fun k j a => by rw [F.2 k j a, othl])
    unfold p_X3_pass_L46
    refine ⟨fun z => absurd z (by rw [l_1000000, cLE (by omega) (by omega)]; omega), fun _ => ⟨fun z => ?_, fun z => ?_⟩⟩
    · refine done ?_
      rw [e1] at z
      unfold lnI at z
      by_cases y : c.2.1 0 = 1000
      · omega
      · rw [if_neg y] at z
        rcases hP.2.2.2.2.2 with y2 | y2
        · rw [cN0 (by omega)] at z; exact z.elim
        · exact absurd y2 y
    · have y : c.2.1 0 ≠ 1000 := fun y => by
        rw [e1] at z
        unfold lnI at z
        rw [if_pos y] at z
        exact z (by decide)
      have hll : c.2.1 0 ≤ L := by
        rcases hP.2.2.2.2.2 with y2 | y2
        · exact y2
        · exact absurd y2 y
      have e1' : s.1 = nI (c.2.1 0) := by
        rw [e1]
        unfold lnI
        rw [if_neg y]
      rw [e1', CN.1, cLE (by omega) (by omega)]
      refine ⟨fun z2 => done z2, fun z2 => ⟨cIN (by omega) (by decide), ?_⟩⟩
      have hl : c.2.1 0 < L := by omega
      rw [cCL (by omega), (CN.2 _ hl).1, show (nI (K (c.2.1 0)) = (12 : Int32)) = (K (c.2.1 0) = 12) from cEQ (b := 12) (by have := (hN _ hl).1; omega) (by omega), C.2.1 1 (by omega) (by omega), show (nI (c.2.1 1) < (300 : Int32)) = (c.2.1 1 < 300) from cLT (b := 300) (by omega) (by omega)]
      have r0 : K (c.2.1 0) ≠ 12 → Rm K P L c = 0 := fun hk => by
        unfold Rm
        rw [if_neg (by omega), if_neg hk]
      have hRl := Rm_le hB hL hP'
      refine ⟨fun hk => ⟨fun hs3 u7 h7' => ?_, fun hs3 u11 h11 x12 h12 => ?_⟩, fun hk => ?_⟩
      · rw [l_1, cA] at h7'
        refine k_bStep (c := c) (σ := σ) hro ho hB hN hL rfl hl hk (by omega) (CN.cg (ro := ro) (o2 := o2) (by omega) (by omega) (by rw [h7']; exact lfr.si (Or.inr (Or.inl ⟨rfl, by omega⟩)))) hP (by rw [h7']; exact C.1.w2 (by omega)) (by rw [h7']; exact C.2.1.set rfl) (fun o hoa => by rw [h7', gi_si, if_neg (by omega)]; exact C.2.2 o hoa) (fun u8' C8' F8 x10 h10 => ?_)
        rw [l_1, cA] at h10
        subst h10
        refine kk (lnI (nxt K T N P L c), u8') ⟨n + 1, by rw [eS], by rw [eS]; exact hP', by rw [eS]; exact C8', F.tr ((by rw [h7']; exact lfr.si (Or.inr (Or.inl ⟨rfl, by omega⟩)) : lfr ro o2 s.2 u7).tr F8), ?_⟩
        rw [eS]
        have e16 := nxt_16 (T := T) (N := N) (P := P) hl hk (show c.2.1 1 ≠ 300 by omega)
        have := r0 hk
        omega
      · rw [l_1, cA] at h12
        subst h12
        have e3 : c.2.1 1 = 300 := by omega
        have en := nxt_l (T := T) (N := N) (P := P) hl hk e3
        have hln : lnI (nxt K T N P L c) = -1 := by rw [en]; exact lnI_q
        rw [← hln]
        refine kk (lnI (nxt K T N P L c), u11) ⟨n + 1, by rw [eS], by rw [eS]; exact hP', ?_, F.tr (by rw [h11]; exact lfr.si (Or.inr (Or.inl ⟨rfl, by omega⟩))), ?_⟩
        · rw [eS, en]
          refine ⟨by rw [h11]; exact C.1.w2 (by omega), fun j j1 j2 => ?_, fun o hoa => ?_⟩
          · show gi u11 ro j = nI (qU (qU c.2.1 6 1) 0 1000 j)
            rw [qU_n (by omega), h11]
            exact (C.2.1.set (i := 6) (v := 1) rfl) j j1 j2
          · dsimp only at hoa
            rw [qU_s] at hoa
            exact (act_1000 hB hL hoa).elim
        · have := r0 hk
          have r1 : Rm K P L (nxt K T N P L c) = 0 := by
            rw [en]
            unfold Rm
            dsimp only
            simp only [qU_s]
            rw [if_pos (by omega)]
          rw [eS, r1, en]
          dsimp only
          rw [qU_n (by decide), qU_n (by decide), qU_n (by decide), qU_s, e3]
          omega
      · refine k_bEnd (c := c) (σ := σ) hro ho hB hL rfl hl hk CN hP C (fun u14 C14 F14 x15 h15 => ?_)
        rw [l_1, cA] at h15
        subst h15
        refine kk (lnI (nxt K T N P L c), u14) ⟨n + 1, by rw [eS], by rw [eS]; exact hP', by rw [eS]; exact C14, F.tr F14, ?_⟩
        have hR := Rm_end (T := T) (N := N) hB hL hP hl hk
        have en := nxt_e (T := T) (N := N) (P := P) hl hk
        rw [eS]
        have g1 : (nxt K T N P L c).2.1 1 = c.2.1 1 := by rw [en]; dsimp only; rw [qU_n (by decide)]
        have g6 : (nxt K T N P L c).2.1 6 = c.2.1 6 := by rw [en]; dsimp only; rw [qU_n (by decide)]
        rw [g1, g6]
        omega
end PASS
