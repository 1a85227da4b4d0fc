/-! ===== nights as they are lived, purely ===== -/
def qU (q : Nat → Nat) (i v : Nat) : Nat → Nat := fun j => if j = i then v else q j
theorem qU_at (q : Nat → Nat) (i v j : Nat) : qU q i v j = if j = i then v else q j := rfl
theorem qU_s (q : Nat → Nat) (i v : Nat) : qU q i v i = v := by rw [qU_at, if_pos rfl]
theorem qU_n {q : Nat → Nat} {i v j : Nat} (h : j ≠ i) : qU q i v j = q j := by rw [qU_at, if_neg h]
abbrev cfg : Type := aS × (Nat → Nat) × (Nat → Nat)
/-- what a step does: 2 missed, 3 hours, 4 bailed, 5 drowned, 7 draw -/
def eff (k t n : Nat) (τ : aS) (q : Nat → Nat) : aS × (Nat → Nat) :=
  if k = 0 then (if τ 3 0 + n ≤ 9999 then (hrs n τ, qU (qU q 3 (q 3 + n)) 5 (q 5 + pop (ndf (hrs n τ 22 0) (τ 22 0)))) else (τ, qU q 2 (q 2 + 1)))
  else if k = 1 ∨ k = 2 then (if (τ 20 0).testBit t = decide (k = 1) then (τ, qU q 2 (q 2 + 1)) else (sU τ 20 0 (τ 20 0 ^^^ 2 ^ t), q))
  else if k = 3 then (if n ≤ τ 8 t then (sU τ 8 t (τ 8 t - n), qU q 4 (q 4 + n)) else (τ, qU q 2 (q 2 + 1)))
  else if k = 4 then (if τ 1 0 = 0 then (τ, qU q 2 (q 2 + 1)) else (sU τ 20 0 (τ 20 0 ^^^ 2 ^ ((q 7 * 3011 + 11213) % 65536 / 8 % τ 1 0)), qU q 7 ((q 7 * 3011 + 11213) % 65536)))
  else (τ, q)
def tst (k t n : Nat) (τ : aS) : Bool :=
  if k = 5 then decide (0 < dep τ t) else if k = 6 then (opn τ).testBit t else if k = 7 then decide (dep τ t < n) else if k = 8 then decide (n < dep τ t) else if k = 9 then decide (dep τ t = n) else true
def nxt (K T N P : Nat → Nat) (L : Nat) (c : cfg) : cfg :=
  if L ≤ c.2.1 0 then c
  else if K (c.2.1 0) = 12 then (c.1, qU c.2.1 0 (if K (P (c.2.1 0)) = 10 ∧ 1 < c.2.2 (P (c.2.1 0)) then P (c.2.1 0) + 1 else c.2.1 0 + 1), if K (P (c.2.1 0)) = 10 then qU c.2.2 (P (c.2.1 0)) (c.2.2 (P (c.2.1 0)) - 1) else c.2.2)
  else if c.2.1 1 = 300 then (c.1, qU (qU c.2.1 6 1) 0 1000, c.2.2)
  else if K (c.2.1 0) = 11 then (c.1, qU (qU c.2.1 1 (c.2.1 1 + 1)) 0 1000, c.2.2)
  else ((eff (K (c.2.1 0)) (T (c.2.1 0)) (N (c.2.1 0)) c.1 (qU c.2.1 1 (c.2.1 1 + 1))).1, qU (eff (K (c.2.1 0)) (T (c.2.1 0)) (N (c.2.1 0)) c.1 (qU c.2.1 1 (c.2.1 1 + 1))).2 0 (if tst (K (c.2.1 0)) (T (c.2.1 0)) (N (c.2.1 0)) c.1 then c.2.1 0 + 1 else P (c.2.1 0) + 1), if K (c.2.1 0) = 10 then qU c.2.2 (c.2.1 0) (N (c.2.1 0)) else c.2.2)
def itr (K T N P : Nat → Nat) (L : Nat) : Nat → cfg → cfg
  | 0, c => c
  | n + 1, c => nxt K T N P L (itr K T N P L n c)
/-- what the lines are -/
def NP (K T N : Nat → Nat) (L : Nat) (σ : aS) : Prop := ∀ k, k < L → K k ≤ 12 ∧ (K k = 0 → 1 ≤ N k ∧ N k ≤ 12) ∧ (K k = 1 ∨ K k = 2 ∨ K k = 6 → T k < σ 1 0) ∧ (K k = 3 ∨ K k = 5 ∨ K k = 7 ∨ K k = 8 ∨ K k = 9 → T k < σ 0 0) ∧ (K k = 3 ∨ K k = 7 ∨ K k = 8 ∨ K k = 9 → N k ≤ 9999) ∧ (K k = 10 → 1 ≤ N k ∧ N k ≤ 99)
def act (K P : Nat → Nat) (L l o : Nat) : Prop := o < L ∧ K o = 10 ∧ o < l ∧ l ≤ P o
def PI (K P : Nat → Nat) (L : Nat) (σ : aS) (c : cfg) : Prop := okT σ c.1 ∧ c.2.1 1 ≤ 300 ∧ c.2.1 7 < 65536 ∧ (c.2.1 6 = 0 ∨ (c.2.1 6 = 1 ∧ c.2.1 0 = 1000)) ∧ (∀ o, act K P L (c.2.1 0) o → 1 ≤ c.2.2 o ∧ c.2.2 o ≤ 99) ∧ (c.2.1 0 ≤ L ∨ c.2.1 0 = 1000)
def Rm (K P : Nat → Nat) (L : Nat) (c : cfg) : Nat := if L ≤ c.2.1 0 then 0 else if K (c.2.1 0) = 12 then (60 - c.2.1 0) + (if P (c.2.1 0) + 1 = c.2.1 0 ∧ K (P (c.2.1 0)) = 10 then c.2.2 (P (c.2.1 0)) else 0) else 0
section LIVEP
variable {K T N P : Nat → Nat} {L : Nat} {σ τ : aS} {c : cfg}
theorem nxt_h (h : L ≤ c.2.1 0) : nxt K T N P L c = c := by
  unfold nxt
  rw [if_pos h]
theorem nxt_e (h : c.2.1 0 < L) (hk : K (c.2.1 0) = 12) : nxt K T N P L c = (c.1, qU c.2.1 0 (if K (P (c.2.1 0)) = 10 ∧ 1 < c.2.2 (P (c.2.1 0)) then P (c.2.1 0) + 1 else c.2.1 0 + 1), if K (P (c.2.1 0)) = 10 then qU c.2.2 (P (c.2.1 0)) (c.2.2 (P (c.2.1 0)) - 1) else c.2.2) := by
  unfold nxt
  rw [if_neg (by omega), if_pos hk]
theorem nxt_l (h : c.2.1 0 < L) (hk : K (c.2.1 0) ≠ 12) (hs : c.2.1 1 = 300) : nxt K T N P L c = (c.1, qU (qU c.2.1 6 1) 0 1000, c.2.2) := by
  unfold nxt
  rw [if_neg (by omega), if_neg hk, if_pos hs]
theorem nxt_q (h : c.2.1 0 < L) (hk : K (c.2.1 0) = 11) (hs : c.2.1 1 ≠ 300) : nxt K T N P L c = (c.1, qU (qU c.2.1 1 (c.2.1 1 + 1)) 0 1000, c.2.2) := by
  unfold nxt
  rw [if_neg (by omega), if_neg (by omega), if_neg hs, if_pos hk]
theorem nxt_s (h : c.2.1 0 < L) (hk : K (c.2.1 0) ≠ 12) (hk2 : K (c.2.1 0) ≠ 11) (hs : c.2.1 1 ≠ 300) : nxt K T N P L c = ((eff (K (c.2.1 0)) (T (c.2.1 0)) (N (c.2.1 0)) c.1 (qU c.2.1 1 (c.2.1 1 + 1))).1, qU (eff (K (c.2.1 0)) (T (c.2.1 0)) (N (c.2.1 0)) c.1 (qU c.2.1 1 (c.2.1 1 + 1))).2 0 (if tst (K (c.2.1 0)) (T (c.2.1 0)) (N (c.2.1 0)) c.1 then c.2.1 0 + 1 else P (c.2.1 0) + 1), if K (c.2.1 0) = 10 then qU c.2.2 (c.2.1 0) (N (c.2.1 0)) else c.2.2) := by
  unfold nxt
  rw [if_neg (by omega), if_neg hk, if_neg hs, if_neg hk2]
theorem itr_add (n m : Nat) (h : L ≤ (itr K T N P L n c).2.1 0) : itr K T N P L (n + m) c = itr K T N P L n c := by
  induction m with
  | zero => rfl
  | succ m ih =>
    show nxt K T N P L (itr K T N P L (n + m) c) = _
    rw [ih, nxt_h h]
theorem itr_uniq {n m : Nat} (h : L ≤ (itr K T N P L n c).2.1 0) (h' : L ≤ (itr K T N P L m c).2.1 0) : itr K T N P L n c = itr K T N P L m c := by
  by_cases e : n ≤ m
  · obtain ⟨d, rfl⟩ : ∃ d, m = n + d := ⟨m - n, by omega⟩
    exact (itr_add n d h).symm
  · obtain ⟨d, rfl⟩ : ∃ d, n = m + d := ⟨n - m, by omega⟩
    exact itr_add m d h'
theorem okT.held (h : okT σ τ) {v : Nat} (hv : v < 2 ^ σ 1 0) : okT σ (sU τ 20 0 v) := ⟨okS_held h.1 (by rw [h.2.2.2.2.1]; exact hv), h.2.1, h.2.2.1, h.2.2.2.1, h.2.2.2.2.1, h.2.2.2.2.2⟩
/-- what a step leaves -/
theorem eff_ok (hT : okT σ τ) {k t n : Nat} {q : Nat → Nat} (hk1 : k = 1 ∨ k = 2 → t < σ 1 0) (hq : q 7 < 65536) : okT σ (eff k t n τ q).1 ∧ (eff k t n τ q).2 7 < 65536 ∧ (eff k t n τ q).2 1 = q 1 ∧ (eff k t n τ q).2 6 = q 6 := by
  have ok := hT.1
  unfold eff
  by_cases c0 : k = 0
  · rw [if_pos c0]
    by_cases c1 : τ 3 0 + n ≤ 9999
    · rw [if_pos c1]
      dsimp only
      refine ⟨⟨hrs_ok ok n (by omega), by rw [hrs_hour]; exact c1, ?_, ?_, ?_, ?_⟩, ?_, ?_, ?_⟩
      · rw [hrs_kept n _ (by decide : kept 23)]; exact hT.2.2.1
      · rw [hrs_kept n _ (by decide : kept 0)]; exact hT.2.2.2.1
      · rw [hrs_kept n _ (by decide : kept 1)]; exact hT.2.2.2.2.1
      · rw [hrs_kept n _ (by decide : kept 2)]; exact hT.2.2.2.2.2
      · rw [qU_n (by decide), qU_n (by decide)]; exact hq
      · rw [qU_n (by decide), qU_n (by decide)]
      · rw [qU_n (by decide), qU_n (by decide)]
    · rw [if_neg c1]
      dsimp only
      exact ⟨hT, by rw [qU_n (by decide)]; exact hq, qU_n (by decide), qU_n (by decide)⟩
  · rw [if_neg c0]
    by_cases c1 : k = 1 ∨ k = 2
    · rw [if_pos c1]
      by_cases c2 : (τ 20 0).testBit t = decide (k = 1)
      · rw [if_pos c2]
        dsimp only
        exact ⟨hT, by rw [qU_n (by decide)]; exact hq, qU_n (by decide), qU_n (by decide)⟩
      · rw [if_neg c2]
        dsimp only
        exact ⟨hT.held (xor_lt2 (by have := ok.held; rw [hT.2.2.2.2.1] at this; exact this) (p2lt (hk1 c1))), hq, rfl, rfl⟩
    · rw [if_neg c1]
      by_cases c3 : k = 3
      · rw [if_pos c3]
        by_cases c4 : n ≤ τ 8 t
        · rw [if_pos c4]
          dsimp only
          refine ⟨?_, by rw [qU_n (by decide)]; exact hq, qU_n (by decide), qU_n (by decide)⟩
          by_cases c5 : t < τ 0 0
          · have hm := ok.rm c5
            exact ⟨okS_water ok (by omega), hT.2.1, hT.2.2.1, hT.2.2.2.1, hT.2.2.2.2.1, hT.2.2.2.2.2⟩
          · refine ⟨?_, hT.2.1, hT.2.2.1, hT.2.2.2.1, hT.2.2.2.2.1, hT.2.2.2.2.2⟩
            exact ⟨ok.r, ok.d, ok.e, ok.h, fun r hr => by
              have hr : r < τ 0 0 := hr
              have h1 : ∀ f, sU τ 8 t (τ 8 t - n) f r = τ f r := fun f => by rw [sU_at, if_neg (by omega)]
              rw [h1, h1, h1, h1, h1, h1]
              exact ok.rm hr, fun d hd => ok.dr hd, fun e he => ok.er he, fun k hk => ok.hr hk, ok.held, ok.walled, ok.drowned, ok.ph⟩
        · rw [if_neg c4]
          dsimp only
          exact ⟨hT, by rw [qU_n (by decide)]; exact hq, qU_n (by decide), qU_n (by decide)⟩
      · rw [if_neg c3]
        by_cases c4 : k = 4
        · rw [if_pos c4]
          by_cases c5 : τ 1 0 = 0
          · rw [if_pos c5]
            dsimp only
            exact ⟨hT, by rw [qU_n (by decide)]; exact hq, qU_n (by decide), qU_n (by decide)⟩
          · rw [if_neg c5]
            dsimp only
            refine ⟨hT.held (xor_lt2 (by have := ok.held; rw [hT.2.2.2.2.1] at this; exact this) (p2lt ?_)), by rw [qU_s]; exact Nat.mod_lt _ (by omega), qU_n (by decide), qU_n (by decide)⟩
            rw [← hT.2.2.2.2.1]
            exact Nat.mod_lt _ (by omega)
        · rw [if_neg c4]
          dsimp only
          exact ⟨hT, hq, rfl, rfl⟩
theorem tst_t {k t n : Nat} (h : k < 5 ∨ 9 < k) : tst k t n τ = true := by
  unfold tst
  rw [if_neg (by omega), if_neg (by omega), if_neg (by omega), if_neg (by omega), if_neg (by omega)]
theorem tst_f {k t n : Nat} (h : ¬ tst k t n τ = true) : 5 ≤ k ∧ k ≤ 9 := by
  by_cases c : k < 5 ∨ 9 < k
  · exact absurd (tst_t c) h
  · omega
theorem eff_q (k t n : Nat) (τ : aS) (q : Nat → Nat) : (eff k t n τ q).2 1 = q 1 ∧ (eff k t n τ q).2 6 = q 6 := by
  unfold eff
  by_cases c0 : k = 0
  · rw [if_pos c0]
    by_cases c1 : τ 3 0 + n ≤ 9999
    · rw [if_pos c1]; exact ⟨by simp [qU_at], by simp [qU_at]⟩
    · rw [if_neg c1]; exact ⟨by simp [qU_at], by simp [qU_at]⟩
  · rw [if_neg c0]
    by_cases c1 : k = 1 ∨ k = 2
    · rw [if_pos c1]
      by_cases c2 : (τ 20 0).testBit t = decide (k = 1)
      · rw [if_pos c2]; exact ⟨by simp [qU_at], by simp [qU_at]⟩
      · rw [if_neg c2]; exact ⟨rfl, rfl⟩
    · rw [if_neg c1]
      by_cases c3 : k = 3
      · rw [if_pos c3]
        by_cases c4 : n ≤ τ 8 t
        · rw [if_pos c4]; exact ⟨by simp [qU_at], by simp [qU_at]⟩
        · rw [if_neg c4]; exact ⟨by simp [qU_at], by simp [qU_at]⟩
      · rw [if_neg c3]
        by_cases c4 : k = 4
        · rw [if_pos c4]
          by_cases c5 : τ 1 0 = 0
          · rw [if_pos c5]; exact ⟨by simp [qU_at], by simp [qU_at]⟩
          · rw [if_neg c5]; exact ⟨by simp [qU_at], by simp [qU_at]⟩
        · rw [if_neg c4]; exact ⟨rfl, rfl⟩
theorem nxt_16 (hl : c.2.1 0 < L) (hk : K (c.2.1 0) ≠ 12) (hs : c.2.1 1 ≠ 300) : (nxt K T N P L c).2.1 1 = c.2.1 1 + 1 ∧ (nxt K T N P L c).2.1 6 = c.2.1 6 := by
  by_cases hq : K (c.2.1 0) = 11
  · rw [nxt_q hl hq hs]
    dsimp only
    exact ⟨by rw [qU_n (by decide), qU_s], by rw [qU_n (by decide), qU_n (by decide)]⟩
  · rw [nxt_s hl hk hq hs]
    have h := eff_q (K (c.2.1 0)) (T (c.2.1 0)) (N (c.2.1 0)) c.1 (qU c.2.1 1 (c.2.1 1 + 1))
    dsimp only
    exact ⟨by rw [qU_n (by decide), h.1, qU_s], by rw [qU_n (by decide), h.2, qU_n (by decide)]⟩
theorem act_next (hB : BRK L K P) {l o : Nat} (h : act K P L (l + 1) o) : o = l ∨ act K P L l o := by
  obtain ⟨a, b, d, e⟩ := h
  by_cases z : o = l
  · exact Or.inl z
  · exact Or.inr ⟨a, b, by omega, by omega⟩
theorem act_past (hB : BRK L K P) {l o : Nat} (hl : l < L) (h5 : 5 ≤ K l) (h9 : K l ≤ 10) (h : act K P L (P l + 1) o) : act K P L l o := by
  obtain ⟨a, b, d, e⟩ := h
  have h1 := hB.1 l hl h5 h9
  have ho := hB.1 o a (by omega) (by omega)
  refine ⟨a, b, ?_, by omega⟩
  by_cases z : o < l
  · exact z
  · exfalso
    by_cases z2 : o = l
    · subst z2; omega
    · by_cases z3 : o = P l
      · rw [z3, h1.2.2.1] at b; omega
      · have := hB.2.2 l o hl h5 h9 (by omega) (by omega) (by omega) (by omega)
        omega
theorem act_again (hB : BRK L K P) {l o : Nat} (hl : l < L) (hk : K l = 12) (h : act K P L (P l + 1) o) : act K P L l o := by
  obtain ⟨a, b, d, e⟩ := h
  have h1 := hB.2.1 l hl hk
  refine ⟨a, b, by omega, ?_⟩
  by_cases z : o = P l
  · rw [z, h1.2.2.2]
    exact Nat.le_refl _
  · have := hB.2.2 o (P l) a (by omega) (by omega) h1.2.1 h1.2.2.1 (by omega) (by omega)
    rw [h1.2.2.2] at this
    omega
theorem act_own (hB : BRK L K P) {l : Nat} (hl : l < L) (hk : K l = 12) (h10 : K (P l) = 10) : act K P L l (P l) := by
  have h1 := hB.2.1 l hl hk
  exact ⟨by omega, h10, h1.1, by rw [h1.2.2.2]; exact Nat.le_refl _⟩
theorem PI_nxt (hB : BRK L K P) (hN : NP K T N L σ) (hL : L ≤ 60) (h : PI K P L σ c) : PI K P L σ (nxt K T N P L c) := by
  obtain ⟨h1, h2, h3, h4, h5, h6⟩ := h
  by_cases hl : L ≤ c.2.1 0
  · rw [nxt_h hl]; exact ⟨h1, h2, h3, h4, h5, h6⟩
  · have hl : c.2.1 0 < L := by omega
    have h46 : c.2.1 6 = 0 := by omega
    by_cases hk : K (c.2.1 0) = 12
    · rw [nxt_e hl hk]
      unfold PI
      dsimp only
      have hb := hB.2.1 _ hl hk
      refine ⟨h1, by rw [qU_n (by decide)]; exact h2, by rw [qU_n (by decide)]; exact h3, Or.inl (by rw [qU_n (by decide)]; exact h46), fun o ho => ?_, ?_⟩
      · rw [qU_s] at ho
        by_cases ca : K (P (c.2.1 0)) = 10 ∧ 1 < c.2.2 (P (c.2.1 0))
        · rw [if_pos ca] at ho
          rw [if_pos ca.1]
          have := h5 o (act_again hB hl hk ho)
          by_cases z : o = P (c.2.1 0)
          · rw [z, qU_s]
            rw [z] at this
            omega
          · rw [qU_n z]; exact this
        · rw [if_neg ca] at ho
          rcases act_next hB ho with z | z
          · obtain ⟨_, z1, _⟩ := ho
            rw [z, hk] at z1
            omega
          · have := h5 o z
            by_cases z10 : K (P (c.2.1 0)) = 10
            · rw [if_pos z10]
              by_cases z2 : o = P (c.2.1 0)
              · exfalso
                obtain ⟨_, _, _, z3⟩ := ho
                rw [z2, hb.2.2.2] at z3
                omega
              · rw [qU_n z2]; exact this
            · rw [if_neg z10]; exact this
      · rw [qU_s]
        refine Or.inl ?_
        split <;> omega
    · by_cases hs : c.2.1 1 = 300
      · rw [nxt_l hl hk hs]
        unfold PI
        dsimp only
        refine ⟨h1, ?_, ?_, ?_, fun o ho => ?_, ?_⟩
        · rw [qU_n (by decide), qU_n (by decide)]; exact h2
        · rw [qU_n (by decide), qU_n (by decide)]; exact h3
        · exact Or.inr ⟨by rw [qU_n (by decide), qU_s], qU_s _ _ _⟩
        · rw [qU_s] at ho
          obtain ⟨a1, a2, _, a3⟩ := ho
          have := hB.1 o a1 (by omega) (by omega)
          omega
        · rw [qU_s]; exact Or.inr rfl
      · by_cases hq : K (c.2.1 0) = 11
        · rw [nxt_q hl hq hs]
          unfold PI
          dsimp only
          refine ⟨h1, ?_, ?_, ?_, fun o ho => ?_, ?_⟩
          · rw [qU_n (by decide), qU_s]; omega
          · rw [qU_n (by decide), qU_n (by decide)]; exact h3
          · exact Or.inl (by rw [qU_n (by decide), qU_n (by decide)]; exact h46)
          · rw [qU_s] at ho
            obtain ⟨a1, a2, _, a3⟩ := ho
            have := hB.1 o a1 (by omega) (by omega)
            omega
          · rw [qU_s]; exact Or.inr rfl
        · rw [nxt_s hl hk hq hs]
          have hn := hN _ hl
          have he := eff_ok (k := K (c.2.1 0)) (t := T (c.2.1 0)) (n := N (c.2.1 0)) (q := qU c.2.1 1 (c.2.1 1 + 1)) h1 (fun z => hn.2.2.1 (by omega)) (by rw [qU_n (by decide)]; exact h3)
          unfold PI
          dsimp only
          generalize eff (K (c.2.1 0)) (T (c.2.1 0)) (N (c.2.1 0)) c.1 (qU c.2.1 1 (c.2.1 1 + 1)) = ef at he
          refine ⟨he.1, ?_, ?_, ?_, fun o ho => ?_, ?_⟩
          · rw [qU_n (by decide), he.2.2.1, qU_s]; omega
          · rw [qU_n (by decide)]; exact he.2.1
          · exact Or.inl (by rw [qU_n (by decide), he.2.2.2, qU_n (by decide)]; exact h46)
          · rw [qU_s] at ho
            have key : o = c.2.1 0 ∧ K (c.2.1 0) = 10 ∨ act K P L (c.2.1 0) o := by
              by_cases ct : tst (K (c.2.1 0)) (T (c.2.1 0)) (N (c.2.1 0)) c.1 = true
              · rw [if_pos ct] at ho
                rcases act_next hB ho with z | z
                · obtain ⟨_, z1, _⟩ := ho
                  rw [z] at z1
                  exact Or.inl ⟨z, z1⟩
                · exact Or.inr z
              · rw [if_neg ct] at ho
                have h59 : 5 ≤ K (c.2.1 0) ∧ K (c.2.1 0) ≤ 10 := by
                  unfold tst at ct
                  by_cases k5 : K (c.2.1 0) = 5
                  · omega
                  · by_cases k6 : K (c.2.1 0) = 6
                    · omega
                    · by_cases k7 : K (c.2.1 0) = 7
                      · omega
                      · by_cases k8 : K (c.2.1 0) = 8
                        · omega
                        · by_cases k9 : K (c.2.1 0) = 9
                          · omega
                          · rw [if_neg k5, if_neg k6, if_neg k7, if_neg k8, if_neg k9] at ct
                            exact absurd rfl ct
                exact Or.inr (act_past hB hl h59.1 h59.2 ho)
            rcases key with ⟨z, z10⟩ | z
            · rw [if_pos z10, z, qU_s]
              exact hn.2.2.2.2.2 z10
            · have := h5 o z
              by_cases z10 : K (c.2.1 0) = 10
              · rw [if_pos z10, qU_n (by obtain ⟨_, _, z1, _⟩ := z; omega)]; exact this
              · rw [if_neg z10]; exact this
          · rw [qU_s]
            refine Or.inl ?_
            by_cases ct : tst (K (c.2.1 0)) (T (c.2.1 0)) (N (c.2.1 0)) c.1 = true
            · rw [if_pos ct]; omega
            · rw [if_neg ct]
              have h59 : 5 ≤ K (c.2.1 0) ∧ K (c.2.1 0) ≤ 10 := by
                unfold tst at ct
                by_cases k5 : K (c.2.1 0) = 5
                · omega
                · by_cases k6 : K (c.2.1 0) = 6
                  · omega
                  · by_cases k7 : K (c.2.1 0) = 7
                    · omega
                    · by_cases k8 : K (c.2.1 0) = 8
                      · omega
                      · by_cases k9 : K (c.2.1 0) = 9
                        · omega
                        · rw [if_neg k5, if_neg k6, if_neg k7, if_neg k8, if_neg k9] at ct
                          exact absurd rfl ct
              have := hB.1 _ hl h59.1 h59.2
              omega
theorem Rm_le (hB : BRK L K P) (hL : L ≤ 60) (h : PI K P L σ c) : Rm K P L c ≤ 159 := by
  unfold Rm
  by_cases hl : L ≤ c.2.1 0
  · rw [if_pos hl]; omega
  · rw [if_neg hl]
    by_cases hk : K (c.2.1 0) = 12
    · rw [if_pos hk]
      by_cases z : P (c.2.1 0) + 1 = c.2.1 0 ∧ K (P (c.2.1 0)) = 10
      · rw [if_pos z]
        have := h.2.2.2.2.1 _ (act_own hB (by omega) hk z.2)
        omega
      · rw [if_neg z]; omega
    · rw [if_neg hk]; omega
theorem Rm_end (hB : BRK L K P) (hL : L ≤ 60) (h : PI K P L σ c) (hl : c.2.1 0 < L) (hk : K (c.2.1 0) = 12) : Rm K P L (nxt K T N P L c) + 1 ≤ Rm K P L c := by
  have hb := hB.2.1 _ hl hk
  have e0 : Rm K P L c = (60 - c.2.1 0) + (if P (c.2.1 0) + 1 = c.2.1 0 ∧ K (P (c.2.1 0)) = 10 then c.2.2 (P (c.2.1 0)) else 0) := by
    unfold Rm
    rw [if_neg (by omega), if_pos hk]
  rw [nxt_e hl hk, e0]
  unfold Rm
  dsimp only
  simp only [qU_s]
  by_cases ca : K (P (c.2.1 0)) = 10 ∧ 1 < c.2.2 (P (c.2.1 0))
  · rw [if_pos ca]
    by_cases z : P (c.2.1 0) + 1 = c.2.1 0
    · rw [z, if_neg (by omega), if_pos hk, if_pos ⟨z, ca.1⟩, if_pos ca.1, qU_s, if_pos ⟨rfl, ca.1⟩]
      omega
    · have n12 : K (P (c.2.1 0) + 1) ≠ 12 := fun z2 => by
        have h2 := hB.2.1 (P (c.2.1 0) + 1) (by omega) z2
        by_cases z3 : P (P (c.2.1 0) + 1) = P (c.2.1 0)
        · have e := h2.2.2.2
          rw [z3, hb.2.2.2] at e
          omega
        · have := hB.2.2 (P (P (c.2.1 0) + 1)) (P (c.2.1 0)) (by omega) h2.2.1 h2.2.2.1 hb.2.1 hb.2.2.1 (by omega) (by rw [h2.2.2.2]; omega)
          rw [hb.2.2.2, h2.2.2.2] at this
          omega
      rw [if_neg n12]
      split <;> omega
  · rw [if_neg ca]
    by_cases z : L ≤ c.2.1 0 + 1
    · rw [if_pos z]
      omega
    · rw [if_neg z]
      by_cases z2 : K (c.2.1 0 + 1) = 12
      · rw [if_pos z2, if_neg (c := P (c.2.1 0 + 1) + 1 = c.2.1 0 + 1 ∧ _)]
        · omega
        · rintro ⟨y1, y2⟩
          have : P (c.2.1 0 + 1) = c.2.1 0 := by omega
          rw [this, hk] at y2
          omega
      · rw [if_neg z2]
        omega
end LIVEP
