/-! ===== nights lived by the class ===== -/
def NC (p : Nat) (K T N P : Nat → Nat) (L : Nat) (u : xM) : Prop := gi u p 2 = nI L ∧ ∀ k, k < L → gi u (p + 1) k = nI (K k) ∧ (K k = 0 ∨ K k = 3 ∨ K k = 7 ∨ K k = 8 ∨ K k = 9 ∨ K k = 10 → gi u (p + 3) k = nI (N k)) ∧ (K k = 1 ∨ K k = 2 ∨ K k = 6 ∨ K k = 3 ∨ K k = 5 ∨ K k = 7 ∨ K k = 8 ∨ K k = 9 → gi u (p + 2) k = nI (T k)) ∧ (5 ≤ K k ∧ K k ≤ 10 ∨ K k = 12 → gi u (p + 4) k = nI (P k))
def CQ (ro : Nat) (q : Nat → Nat) (u : xM) : Prop := ∀ i, 1 ≤ i → i < 8 → gi u ro i = nI (q i)
def CRL (ro o2 : Nat) (K P : Nat → Nat) (L : Nat) (c : cfg) (u : xM) : Prop := LR o2 c.1 u ∧ CQ ro c.2.1 u ∧ ∀ o, act K P L (c.2.1 0) o → gi u (ro + 1) o = nI (c.2.2 o)
def lfr (ro o2 : Nat) (u u' : xM) : Prop := (∀ k i, k ≠ ro + 1 → ¬ (k = ro ∧ 1 ≤ i) → ¬ (o2 ≤ k ∧ k < o2 + 27) → gi u' k i = gi u k i) ∧ ∀ k i, hrP o2 k → gl u' k i = gl u k i
/-- and the rounds as they were -/
def lfq (ro o2 : Nat) (u u' : xM) : Prop := lfr ro o2 u u' ∧ ∀ i, gi u' (ro + 1) i = gi u (ro + 1) i
def lnI (c : cfg) : Int32 := if c.2.1 0 = 1000 then -1 else nI (c.2.1 0)
section LIVEC
variable {K T N P : Nat → Nat} {L : Nat} {σ τ : aS} {c : cfg} {u u' u0 : xM} {ro o2 : Nat} {q : Nat → Nat}
theorem lfr.rf : lfr ro o2 u u := ⟨fun _ _ _ _ _ => rfl, fun _ _ _ => rfl⟩
theorem lfr.tr {w : xM} (h : lfr ro o2 u u') (h' : lfr ro o2 u' w) : lfr ro o2 u w := ⟨fun k i a b d => (h'.1 k i a b d).trans (h.1 k i a b d), fun k i a => (h'.2 k i a).trans (h.2 k i a)⟩
theorem lfq.rf : lfq ro o2 u u := ⟨lfr.rf, fun _ => rfl⟩
theorem lfq.tr {w : xM} (h : lfq ro o2 u u') (h' : lfq ro o2 u' w) : lfq ro o2 u w := ⟨h.1.tr h'.1, fun i => (h'.2 i).trans (h.2 i)⟩
theorem lfr.si {k i : Nat} {x : Int32} (h : k = ro + 1 ∨ (k = ro ∧ 1 ≤ i) ∨ (o2 ≤ k ∧ k < o2 + 27)) : lfr ro o2 u (si u k i x) := ⟨fun a b h1 h2 h3 => by rw [gi_si, if_neg (by omega)], fun _ _ _ => rfl⟩
theorem lfq.si {k i : Nat} {x : Int32} (hro : ro + 27 ≤ o2) (h : (k = ro ∧ 1 ≤ i) ∨ (o2 ≤ k ∧ k < o2 + 27)) : lfq ro o2 u (si u k i x) := ⟨lfr.si (by omega), fun j => by rw [gi_si, if_neg (by omega)]⟩
theorem lfq.hr (hro : ro + 27 ≤ o2) (x : xsame (hrP o2) u u') : lfq ro o2 u u' := ⟨⟨fun k i _ _ h3 => x.1 k i (by unfold hrP; omega), fun k i h => x.2 k i h⟩, fun i => x.1 _ i (by unfold hrP; omega)⟩
theorem CQ.cg (h : CQ ro q u) (e : ∀ i, gi u' ro i = gi u ro i) : CQ ro q u' := fun i h1 h2 => (e i).trans (h i h1 h2)
theorem CQ.set {i v : Nat} {x : Int32} (h : CQ ro q u) (hx : x = nI v) : CQ ro (qU q i v) (si u ro i x) := fun j h1 h2 => by
  rw [gi_si, qU_at]
  by_cases e : j = i
  · rw [if_pos ⟨rfl, e⟩, if_pos e, hx]
  · rw [if_neg (fun z => e z.2), if_neg e]; exact h j h1 h2
theorem CQ.miss (h : CQ ro q u) {Q : xM → Prop} (hq : ∀ u', u' = si u ro 2 (nI (q 2 + 1)) → Q u') : ∀ u3 : xM, u3 = si u ro 2 ((gi u ro 2) + (1 : Int32)) → Q u3 := fun u3 h3 => hq u3 (by rw [h3, h 2 (by omega) (by omega), l_1, cA])
/-! what a step does -/
theorem k_lgo {n t : Nat} {Q : xM → Prop} (hro : ro + 27 ≤ o2) (L2 : LR o2 τ u) (ok : okS τ) (hp : τ 23 0 = 4095) (h3 : τ 3 0 ≤ 9999) (hn : n ≤ 12) (C : CQ ro q u) (hq : ∀ u', LR o2 (eff 0 t n τ q).1 u' → CQ ro (eff 0 t n τ q).2 u' → lfq ro o2 u u' → Q u') : p_X3_goOn ro o2 (nI n) u Q := by
  unfold eff at hq
  rw [if_pos rfl] at hq
  unfold p_X3_goOn
  rw [show gi u o2 8 = nI (τ 3 0) from L2.f3, cA, l_9999, cLE (by omega) (by omega)]
  refine ⟨fun z x2 h2 => ?_, fun z => ?_⟩
  · rw [if_pos z] at hq
    rw [show gi u (o2 + 1) 1 = nI (τ 22 0) from L2.f22] at h2
    subst h2
    refine xloop (fun m i (w : xM) => p_X3_goOn_L34 ro o2 Q m (nI n) (nI (τ 22 0)) (nI i) w) (fun i w => LR o2 (hrs i τ) w ∧ lfq ro o2 u w ∧ CQ ro q w) n 0 u (Nat.zero_le _) ⟨L2, lfq.rf, C⟩ ?_ ?_
    · intro m w hw
      have okn := hrs_ok ok n (by omega)
      have hd := okn.drowned
      have h7 := okn.p7
      unfold p_X3_goOn_L34
      refine ⟨fun _ u2 h2 => ?_, fun z2 => absurd (by rw [cLE (by omega) (by omega)]; exact Nat.le_refl _) z2⟩
      rw [hw.2.2 3 (by omega) (by omega), cA] at h2
      have C2 : CQ ro (qU q 3 (q 3 + n)) u2 := by rw [h2]; exact hw.2.2.set rfl
      have e1 : gi u2 (o2 + 1) 1 = nI (hrs n τ 22 0) := by rw [h2, gi_si, if_neg (by omega)]; exact hw.1.f22
      rw [e1, bNOT (by omega)]
      have hle := ndf_le (hrs n τ 22 0) (τ 22 0)
      refine k_bitCount (by omega) (fun u5 h5 => ?_)
      rw [C2 5 (by omega) (by omega), qU_n (by decide), cA] at h5
      refine hq u5 ?_ ?_ ?_
      · rw [h5, h2]
        exact (hw.1.w2 (by omega)).w2 (by omega)
      · rw [h5]
        exact C2.set rfl
      · rw [h5, h2]
        exact (hw.2.1.tr (lfq.si hro (by omega))).tr (lfq.si hro (by omega))
    · intro m i w _ hi hw kk
      unfold p_X3_goOn_L34
      refine ⟨fun z2 => absurd z2 (by rw [cLE (by omega) (by omega)]; omega), fun _ => ?_⟩
      refine k_goOneHour hw.1 (hrs_ok ok i (by omega)) (by rw [hrs_hour]; omega) (fun u6 L6 _ x6 x7 h7 => ?_)
      rw [l_1, cA] at h7
      subst h7
      exact kk u6 ⟨L6, hw.2.1.tr (lfq.hr hro x6), hw.2.2.cg (fun j => x6.1 ro j (by unfold hrP; omega))⟩
  · rw [if_neg z] at hq
    refine C.miss (fun u3 h3 => hq u3 ?_ ?_ ?_)
    · rw [h3]; exact L2.w2 (by omega)
    · rw [h3]; exact C.set rfl
    · rw [h3]; exact lfq.si hro (by omega)
theorem k_lturn {k t n : Nat} {Q : xM → Prop} (hro : ro + 27 ≤ o2) (hk : k = 1 ∨ k = 2) (L2 : LR o2 τ u) (ok : okS τ) (ht : t < τ 1 0) (C : CQ ro q u) {b : Bool} (hb : b = decide (k = 1)) (hq : ∀ u', LR o2 (eff k t n τ q).1 u' → CQ ro (eff k t n τ q).2 u' → lfq ro o2 u u' → Q u') : p_X3_turn ro o2 (nI t) b u Q := by
  have h10 := ok.d
  unfold eff at hq
  rw [if_neg (by omega), if_pos hk] at hq
  unfold p_X3_turn
  refine k_isHeld L2 ok (by omega) ?_
  rw [xb_ne, xb_eq, ← hb] at *
  refine ⟨fun z u4 h4 => ?_, fun z => ?_⟩
  · rw [show gi u (o2 + 9) 1 = nI (τ 20 0) from L2.f20, bPOW (by omega), bXOR] at h4
    rw [← hb, if_neg (by rw [z]; cases b <;> decide)] at hq
    refine hq u4 ?_ (C.cg (fun i => by rw [h4, gi_si, if_neg (by omega)])) (by rw [h4]; exact lfq.si hro (by omega))
    rw [h4]
    exact L2.up (f := 20) (i := 0) (by decide) (by decide) (by decide) (by decide) (by simp [rlN]) rfl rfl rfl
  · rw [← hb, if_pos z] at hq
    refine C.miss (fun u3 h3 => hq u3 ?_ ?_ ?_)
    · rw [h3]; exact L2.w2 (by omega)
    · rw [h3]; exact C.set rfl
    · rw [h3]; exact lfq.si hro (by omega)
theorem k_lbail {t n : Nat} {Q : xM → Prop} (hro : ro + 27 ≤ o2) (L2 : LR o2 τ u) (ok : okS τ) (ht : t < τ 0 0) (hn : n ≤ 9999) (C : CQ ro q u) (hq : ∀ u', LR o2 (eff 3 t n τ q).1 u' → CQ ro (eff 3 t n τ q).2 u' → lfq ro o2 u u' → Q u') : p_X3_bailOut ro o2 (nI t) (nI n) u Q := by
  have h7 := ok.r
  have hm := ok.rm ht
  unfold eff at hq
  rw [if_neg (by omega), if_neg (by omega), if_pos rfl] at hq
  unfold p_X3_bailOut
  rw [show gi u (o2 + 1) 0 = nI (τ 0 0) from L2.f0, cN0 (by omega), cLE (by omega) (by omega), cCL (by omega), show gi u (o2 + 7) t = nI (τ 8 t) from L2.f8 ht, cLE (by omega) (by omega)]
  refine ⟨fun z => z.elim, fun _ => ⟨fun z => absurd z (by omega), fun _ => ⟨cIN (by omega) (by decide), fun z => ⟨cIN (by omega) (by decide), cIN (by omega) (by decide), fun u9 h9 u10 h10 => ?_⟩, fun z => ?_⟩⟩⟩
  · rw [if_pos z] at hq
    rw [cS z] at h9
    have C9 : CQ ro q u9 := C.cg (fun i => by rw [h9, gi_si, if_neg (by omega)])
    rw [C9 4 (by omega) (by omega), cA] at h10
    refine hq u10 ?_ ?_ ?_
    · rw [h10, h9]
      exact (L2.up (f := 8) (i := t) (v := τ 8 t - n) (by decide) (by decide) (by decide) (by decide) (by simpa [rlN] using ht) rfl rfl (by simp [rlS])).w2 (by omega)
    · rw [h10]; exact C9.set rfl
    · rw [h10, h9]; exact (lfq.si hro (by omega)).tr (lfq.si hro (by omega))
  · rw [if_neg z] at hq
    refine C.miss (fun u3 h3 => hq u3 ?_ ?_ ?_)
    · rw [h3]; exact L2.w2 (by omega)
    · rw [h3]; exact C.set rfl
    · rw [h3]; exact lfq.si hro (by omega)
theorem k_lany {t n : Nat} {Q : xM → Prop} (hro : ro + 27 ≤ o2) (L2 : LR o2 τ u) (ok : okS τ) (h7 : q 7 < 65536) (C : CQ ro q u) (hq : ∀ u', LR o2 (eff 4 t n τ q).1 u' → CQ ro (eff 4 t n τ q).2 u' → lfq ro o2 u u' → Q u') : p_X3_turnAny ro o2 u Q := by
  have h10 := ok.d
  unfold eff at hq
  rw [if_neg (by omega), if_neg (by omega), if_neg (by omega), if_pos rfl] at hq
  unfold p_X3_turnAny
  rw [show gi u (o2 + 9) 0 = nI (τ 1 0) from L2.f1]
  refine ⟨fun z => ?_, fun z => ?_⟩
  · rw [l_1, cLE (by omega) (by omega)] at z
    rw [if_neg (by omega)] at hq
    unfold p_X3_drawBy
    intro x1 h1 u2 h2
    rw [C 7 (by omega) (by omega), l_3011, cM, l_11213, cA, l_65536, cR (by omega) (by omega) (by omega)] at h1
    subst h1
    have hr := Nat.mod_lt (q 7 * 3011 + 11213) (show 0 < 65536 by omega)
    have hm := Nat.mod_lt ((q 7 * 3011 + 11213) % 65536 / 8) z
    have C2 : CQ ro (qU q 7 ((q 7 * 3011 + 11213) % 65536)) u2 := by rw [h2]; exact C.set rfl
    have L22 : LR o2 τ u2 := by rw [h2]; exact L2.w2 (by omega)
    rw [C2 7 (by omega) (by omega), qU_s, l_1, cLE (by omega) (by omega), l_8, cD (by omega) (by omega) (by omega), cR (by omega) z (by omega), cE0 (by omega)]
    refine ⟨fun _ => ⟨by omega, fun x5 h5 u4 h4 => ?_⟩, fun z2 => absurd z z2⟩
    rw [h5, ← l_1, show gi u (o2 + 9) 1 = nI (τ 20 0) from L2.f20, bPOW (by omega), bXOR] at h4
    refine hq u4 ?_ (C2.cg (fun i => by rw [h4, gi_si, if_neg (by omega)])) ?_
    · rw [h4]
      exact L22.up (f := 20) (i := 0) (by decide) (by decide) (by decide) (by decide) (by simp [rlN]) rfl rfl rfl
    · rw [h4, h2]; exact (lfq.si hro (by omega)).tr (lfq.si hro (by omega))
  · rw [l_1, cLE (by omega) (by omega)] at z
    rw [if_pos (by omega)] at hq
    refine C.miss (fun u3 h3 => hq u3 ?_ ?_ ?_)
    · rw [h3]; exact L2.w2 (by omega)
    · rw [h3]; exact C.set rfl
    · rw [h3]; exact lfq.si hro (by omega)
theorem k_isSo {k t n : Nat} {y : Int32} {Q : Bool → xM → Prop} (L2 : LR o2 τ u) (ok : okS τ) (hk : 5 ≤ k ∧ k ≤ 9) (ht : if k = 6 then t < τ 1 0 else t < τ 0 0) (hy : 7 ≤ k → y = nI n) (hn : 7 ≤ k → n ≤ 9999) (hq : Q (tst k t n τ) u) : p_X3_isSo (nI k) o2 (nI t) y u Q := by
  have h10 := ok.d
  unfold p_X3_isSo
  rw [show (nI k = 5) = (k = 5) from cEQ (b := 5) (by omega) (by omega), show (nI k = 6) = (k = 6) from cEQ (b := 6) (by omega) (by omega), show (nI k = 7) = (k = 7) from cEQ (b := 7) (by omega) (by omega), show (nI k = 8) = (k = 8) from cEQ (b := 8) (by omega) (by omega), show (nI k = 9) = (k = 9) from cEQ (b := 9) (by omega) (by omega)]
  refine ⟨fun z => ?_, fun z => ?_, fun z => ?_, fun z => ?_, fun z => ?_, fun a b d e f => absurd (by omega : k = 5 ∨ k = 6 ∨ k = 7 ∨ k = 8 ∨ k = 9) (by omega)⟩
  · subst z
    have ht : t < τ 0 0 := ht
    have hd := dep_le ok ht
    have e : tst 5 t n τ = decide (0 < dep τ t) := rfl
    rw [e] at hq
    refine k_depth L2 ok ht ?_
    rw [l_0, cLE (by omega) (by omega)]
    refine ⟨fun z => ?_, fun z => ?_⟩
    · rw [decide_eq_false (by omega)] at hq; exact hq
    · rw [decide_eq_true (by omega)] at hq; exact hq
  · subst z
    have ht : t < τ 1 0 := ht
    have ho := opn_lt ok
    have hp := ok.p10
    have e : tst 6 t n τ = (opn τ).testBit t := rfl
    rw [e] at hq
    refine k_openNow L2 ok ?_
    rw [bTST (by omega) (by omega)]
    refine ⟨fun z => ?_, fun z => ?_⟩
    · rw [Bool.not_eq_true] at z; rw [z] at hq; exact hq
    · rw [z] at hq; exact hq
  · subst z
    have ht : t < τ 0 0 := ht
    have hd := dep_le ok ht
    have hn := hn (by omega)
    have e : tst 7 t n τ = decide (dep τ t < n) := rfl
    rw [e] at hq
    rw [hy (by omega)]
    refine k_depth L2 ok ht ?_
    rw [cLE (by omega) (by omega)]
    refine ⟨fun z => ?_, fun z => ?_⟩
    · rw [decide_eq_false (by omega)] at hq; exact hq
    · rw [decide_eq_true (by omega)] at hq; exact hq
  · subst z
    have ht : t < τ 0 0 := ht
    have hd := dep_le ok ht
    have hn := hn (by omega)
    have e : tst 8 t n τ = decide (n < dep τ t) := rfl
    rw [e] at hq
    rw [hy (by omega)]
    refine k_depth L2 ok ht ?_
    rw [cLE (by omega) (by omega)]
    refine ⟨fun z => ?_, fun z => ?_⟩
    · rw [decide_eq_false (by omega)] at hq; exact hq
    · rw [decide_eq_true (by omega)] at hq; exact hq
  · subst z
    have ht : t < τ 0 0 := ht
    have hd := dep_le ok ht
    have hn := hn (by omega)
    have e : tst 9 t n τ = decide (dep τ t = n) := rfl
    rw [e] at hq
    rw [hy (by omega)]
    refine k_depth L2 ok ht ?_
    rw [cEQ (by omega) (by omega)]
    refine ⟨fun z => ?_, fun z => ?_⟩
    · rw [decide_eq_false z] at hq; exact hq
    · rw [decide_eq_true z] at hq; exact hq
end LIVEC
