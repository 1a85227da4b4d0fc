/-! ===== what is done to the land ===== -/
section DOING
variable {σ τ : aS} {u u' : xM}
def cd (u u' : xM) : Prop := (∀ k i, (k < 5 ∧ ¬ (k = 0 ∧ i = 14)) ∨ (31 ≤ k ∧ k < 48) ∨ (50 ≤ k ∧ k < 83) ∨ 164 ≤ k → gi u' k i = gi u k i) ∧ ∀ k i, k < 5 ∨ (31 ≤ k ∧ k < 48) ∨ (50 ≤ k ∧ k < 83) ∨ k = 85 ∨ k = 93 ∨ k = 100 ∨ 164 ≤ k → gl u' k i = gl u k i
def rd (u u' : xM) : Prop := (∀ k i, k < 272 ∨ (k = 272 ∧ (i < 2 ∨ (2 < i ∧ i < 28) ∨ 39 ≤ i)) ∨ (k = 273 ∧ (i = 4 ∨ (160 ≤ i ∧ i < 2096))) ∨ (274 ≤ k ∧ k < 280) ∨ k = 289 → gi u' k i = gi u k i) ∧ ∀ k i, k < 273 ∨ (274 ≤ k ∧ k < 280) ∨ k = 289 → gl u' k i = gl u k i
theorem cd.rf : cd u u := ⟨fun _ _ _ => rfl, fun _ _ _ => rfl⟩
theorem rd.rf : rd u u := ⟨fun _ _ _ => rfl, fun _ _ _ => rfl⟩
theorem cd.tr {w : xM} (h : cd u u') (h' : cd u' w) : cd u w := ⟨fun k i a => (h'.1 k i a).trans (h.1 k i a), fun k i a => (h'.2 k i a).trans (h.2 k i a)⟩
theorem rd.tr {w : xM} (h : rd u u') (h' : rd u' w) : rd u w := ⟨fun k i a => (h'.1 k i a).trans (h.1 k i a), fun k i a => (h'.2 k i a).trans (h.2 k i a)⟩
theorem cd.w {k i : Nat} {x : Int32} (h : 83 ≤ k ∧ k < 164) : cd u (si u k i x) := ⟨fun a b hab => by rw [gi_si, if_neg (by omega)], fun _ _ _ => rfl⟩
theorem cd.st {k i : Nat} {x : Int32} (h : k = 0 ∧ i = 14) : cd u (si u k i x) := ⟨fun a b hab => by rw [gi_si, if_neg (by omega)], fun _ _ _ => rfl⟩
theorem rd.w {k i : Nat} {x : Int32} (h : k = 273 ∧ i < 160 ∧ i ≠ 4) : rd u (si u k i x) := ⟨fun a b hab => by rw [gi_si, if_neg (by omega)], fun _ _ _ => rfl⟩
theorem rd.st {k i : Nat} {x : Int32} (h : k = 272 ∧ i = 2) : rd u (si u k i x) := ⟨fun a b hab => by rw [gi_si, if_neg (by omega)], fun _ _ _ => rfl⟩
theorem cd.xs {P : Nat → Prop} (x : xsame P u u') (hP : ∀ k, k < 5 ∨ (31 ≤ k ∧ k < 48) ∨ (50 ≤ k ∧ k < 83) ∨ 164 ≤ k → P k) (hl : ∀ k, k = 85 ∨ k = 93 ∨ k = 100 → P k) : cd u u' := ⟨fun k i a => x.1 k i (hP k (by omega)), fun k i a => by
  by_cases e : k = 85 ∨ k = 93 ∨ k = 100
  · exact x.2 k i (hl k e)
  · exact x.2 k i (hP k (by omega))⟩
theorem rd.xs (x : gsame u u') : rd u u' := ⟨fun k i a => by
  by_cases e : k = 273
  · subst e
    exact x.2 i (by omega)
  · exact x.1.1 k i ⟨e, by omega, by omega⟩, fun k i a => x.1.2 k i ⟨by omega, by omega, by omega⟩⟩
theorem RS.cd (h : RS σ u) (ok : okS σ) (c : cd u u') : RS σ u' := ⟨h.1.cg ok.r ok.d ok.e (fun i _ _ => c.1 _ _ (by omega)), h.2.1.cg (c.1 _ _ (by omega)) (c.1 _ _ (by omega)), (c.1 _ _ (by omega)).trans h.2.2⟩
def okT (σ τ : aS) : Prop := okS τ ∧ τ 3 0 ≤ 9999 ∧ τ 23 0 = 4095 ∧ τ 0 0 = σ 0 0 ∧ τ 1 0 = σ 1 0 ∧ τ 2 0 = σ 2 0
theorem SLT.up (S : SLT σ 83 58 0 0 u) (T : okT σ τ) (hl : LR 83 τ u') (hr : RR 0 τ u') (h1 : ∀ k i, 58 ≤ k → k < 63 → gi u' k i = gi u k i) (h2 : ∀ i, i = 4 ∨ (160 ≤ i ∧ i < 520) → gi u' 273 i = gi u 273 i) (h3 : ∀ k i, k = 85 ∨ k = 93 ∨ k = 100 → gl u' k i = gl u k i) (h4 : ∀ i, i < 21 → gl u' 274 i = gl u 274 i) : SLT τ 83 58 0 0 u' := by
  obtain ⟨_, _, ok, _, _, hn, hg⟩ := S
  obtain ⟨okt, t3, t23, t0, t1, t2⟩ := T
  have a0 := ok.r
  have a1 := ok.d
  have a2 := ok.e
  refine ⟨hl, hr, okt, t3, t23, ⟨fun i hi => ?_, fun i hi => ?_, fun i hi => ?_⟩, ?_⟩
  · rw [h3 _ _ (by omega), h4 _ (by omega)]; exact hn.1 i (by omega)
  · rw [h3 _ _ (by omega), h4 _ (by omega)]; exact hn.2.1 i (by omega)
  · rw [h3 _ _ (by omega), h4 _ (by omega)]; exact hn.2.2 i (by omega)
  · rcases hg with ⟨g1, g2, g3⟩ | ⟨L, K, T, N, P, g1, g2, g3, g4, g5, g6⟩
    · refine Or.inl ⟨?_, ?_, ?_⟩
      · rw [h1 _ _ (by omega) (by omega)]; exact g1
      · rw [h1 _ _ (by omega) (by omega)]; exact g2
      · rw [h2 _ (by omega)]; exact g3
    · refine Or.inr ⟨L, K, T, N, P, ?_, g2, ?_, ?_, fun k hk => ?_, g6⟩
      · rw [h1 _ _ (by omega) (by omega)]; exact g1
      · rw [h1 _ _ (by omega) (by omega)]; exact g3
      · rw [h2 _ (by omega)]; exact g4
      · have := g5 k hk
        rw [h1 (58 + 1) k (by omega) (by omega), h1 (58 + 2) k (by omega) (by omega), h1 (58 + 3) k (by omega) (by omega), h1 (58 + 4) k (by omega) (by omega), h2 (0 + 160 + 6 * k) (by omega), h2 (0 + 161 + 6 * k) (by omega), h2 (0 + 162 + 6 * k) (by omega), h2 (0 + 164 + 6 * k) (by omega), h2 (0 + 165 + 6 * k) (by omega), t0, t1]
        exact this
/-- a deed to both -/
theorem pd {α : Type} {pc : (α → xM → Prop) → Prop} {pr : xM → (α → xM → Prop) → Prop} (I : INV u) (S : SLT σ 83 58 0 0 u) (R : RS σ u) (T : okT σ τ) (v : α) (s : Int32) (hc : ∀ Q, (∀ u', LR 83 τ u' → cd u u' → gi u' 0 14 = s → Q v u') → pc Q) (hr : ∀ u1, cd u u1 → RS σ u1 → ∀ Q, (∀ u', RR 0 τ u' → rd u1 u' → gi u' 272 2 = s → Q v u') → pr u1 Q) : pc (fun r u1 => pr u1 (fun r' u2 => r = r' ∧ INV u2)) := by
  refine hc _ (fun u1 L1 c1 s1 => hr u1 c1 (R.cd S.2.2.1 c1) _ (fun u2 R2 c2 s2 => ⟨rfl, I.up (fun k i hk => ?_) (fun k i hk => ?_) ?_ ⟨τ, S.up T ?_ R2 (fun k i h1 h2 => ?_) (fun i h => ?_) (fun k i h1 => ?_) (fun i h => ?_)⟩⟩))
  · unfold cellJ at hk
    rw [c2.1 k i (by omega), c1.1 k i (by omega)]
  · unfold cellM at hk
    rw [c2.2 k i (by omega), c1.2 k i (by omega)]
  · rw [s2, c2.1 0 14 (by omega), s1]
  · exact L1.cg (fun f hf i => c2.1 _ _ (by have := rl_o f hf; omega))
  · rw [c2.1 k i (by omega), c1.1 k i (by omega)]
  · rw [c2.1 273 i (by omega), c1.1 273 i (by omega)]
  · rw [c2.2 k i (by omega), c1.2 k i (by omega)]
  · rw [c2.2 274 i (by omega), c1.2 274 i (by omega)]
theorem k_fineD {v : Int32} {u0 : xM} {Q : Int32 → xM → Prop} (hq : ∀ u', LR 83 τ u' → cd u0 u' → gi u' 0 14 = 0 → Q v u') (L : LR 83 τ u) (c : cd u0 u) : p_X10_fine v u Q := fun u1 h1 => hq u1 (by rw [h1]; exact L.cg (fun f hf i => by rw [gi_si, if_neg (by have := rl_o f hf; omega)])) (by rw [h1]; exact c.tr (cd.st ⟨rfl, rfl⟩)) (by rw [h1]; exact gi_at _ _ _ _)
theorem k_doneD {u0 : xM} {Q : Bool → xM → Prop} (hq : ∀ u', LR 83 τ u' → cd u0 u' → gi u' 0 14 = 0 → Q true u') (L : LR 83 τ u) (c : cd u0 u) : p_X10_done u Q := fun u1 h1 => hq u1 (by rw [h1]; exact L.cg (fun f hf i => by rw [gi_si, if_neg (by have := rl_o f hf; omega)])) (by rw [h1]; exact c.tr (cd.st ⟨rfl, rfl⟩)) (by rw [h1]; exact gi_at _ _ _ _)
theorem r_givesD {v : Int32} {u0 : xM} {Q : Int32 → xM → Prop} (hq : ∀ u', RR 0 τ u' → rd u0 u' → gi u' 272 2 = 0 → Q v u') (ok : okS τ) (R : RR 0 τ u) (c : rd u0 u) : p_X11_gives v u Q := fun u1 h1 => hq u1 (by rw [h1]; exact R.cg ok.r ok.d ok.e (fun i _ _ => by rw [gi_si, if_neg (by omega)])) (by rw [h1]; exact c.tr (rd.st ⟨rfl, rfl⟩)) (by rw [h1]; exact gi_at _ _ _ _)
theorem r_isD {u0 : xM} {Q : Bool → xM → Prop} (hq : ∀ u', RR 0 τ u' → rd u0 u' → gi u' 272 2 = 0 → Q true u') (ok : okS τ) (R : RR 0 τ u) (c : rd u0 u) : p_X11_is (0 : Int32) u Q := fun u1 h1 => ⟨fun z => absurd rfl z, fun _ => hq u1 (by rw [h1]; exact R.cg ok.r ok.d ok.e (fun i _ _ => by rw [gi_si, if_neg (by omega)])) (by rw [h1]; exact c.tr (rd.st ⟨rfl, rfl⟩)) (by rw [h1]; exact gi_at _ _ _ _)⟩
theorem okS.hour (S : SLT σ 83 58 0 0 u) : σ 3 0 ≤ 9999 := S.2.2.2.1
theorem hrP_cd (x : xsame (hrP 83) u u') : cd u u' := cd.xs x (fun k hk => by unfold hrP; omega) (fun k hk => by unfold hrP; omega)
end DOING
