/-! ===== what holds between the calls ===== -/
def c5 (l : List Nat) : Nat := l.foldl (fun a c => a * 32 + (c - 96)) 0
def c8 (l : List Nat) : Nat := l.foldl (fun a c => a * 256 + c) 0
def wordL (i : Nat) : List Nat := ([[114, 111, 111, 109], [102, 108, 111, 111, 114], [97, 114, 101, 97], [98, 101, 97, 114, 115], [119, 97, 116, 101, 114], [100, 111, 111, 114], [102, 114, 111, 109], [116, 111], [115, 105, 108, 108], [119, 105, 100, 101], [108, 101, 97, 107, 115], [116, 105, 100, 101], [112, 117, 109, 112], [114, 111, 116, 97], [101, 114, 114, 97, 110, 100], [98, 121], [115, 101, 97], [104, 111, 117, 114], [111, 112, 101, 110], [115, 104, 117, 116], [98, 97, 105, 108], [97, 110, 121], [119, 104, 101, 110], [119, 101, 116], [100, 101, 112, 116, 104], [108, 111, 111, 112], [101, 110, 100], [115, 116, 111, 112]] : List (List Nat)).getD i []
def wordK (i : Nat) : Int64 := Int64.ofNat (c5 (wordL i))
def isNm (l : List Nat) : Prop := l ≠ [] ∧ l.length ≤ 8 ∧ ∀ c ∈ l, 97 ≤ c ∧ c ≤ 122
/-- a name, five bits a letter and eight bits a letter -/
def nmR (a b : Int64) : Prop := ∃ l : List Nat, isNm l ∧ a = Int64.ofNat (c5 l) ∧ b = Int64.ofNat (c8 l)
/-- the names of a land: o of the class, nb of the reference -/
def NMS (o nb : Nat) (σ : aS) (u : xM) : Prop := (∀ i, i < σ 0 0 → nmR (gl u (o + 2) i) (gl u 274 (nb + i))) ∧ (∀ i, i < σ 1 0 → nmR (gl u (o + 10) i) (gl u 274 (nb + 7 + i))) ∧ ∀ i, i < σ 2 0 → nmR (gl u (o + 17) i) (gl u 274 (nb + 17 + i))
/-- a line's number with the reference -/
def kc (k : Nat) : Nat := if k ≤ 4 then 17 + k else if k = 5 then 2226 else if k = 6 then 2218 else if k ≤ 9 then 2227 else if k = 10 then 23 else if k = 11 then 25 else 24
def sgc (k : Nat) : Nat := if k = 7 then 60 else if k = 8 then 62 else 61
/-- the nights' lines: K kind, T thing, N number, P partner -/
def NST (p b L : Nat) (σ : aS) (K T N P : Nat → Nat) (u : xM) : Prop := ∀ k, k < L → K k ≤ 12 ∧ gi u (p + 1) k = nI (K k) ∧ gi u 273 (b + 160 + 6 * k) = nI (kc (K k)) ∧
  (K k = 0 → gi u (p + 3) k = nI (N k) ∧ gi u 273 (b + 161 + 6 * k) = nI (N k) ∧ 1 ≤ N k ∧ N k ≤ 12) ∧
  (K k = 1 ∨ K k = 2 ∨ K k = 6 → gi u (p + 2) k = nI (T k) ∧ gi u 273 (b + 161 + 6 * k) = nI (T k) ∧ T k < σ 1 0) ∧
  (K k = 3 ∨ K k = 5 ∨ K k = 7 ∨ K k = 8 ∨ K k = 9 → gi u (p + 2) k = nI (T k) ∧ gi u 273 (b + 161 + 6 * k) = nI (T k) ∧ T k < σ 0 0) ∧
  (K k = 3 ∨ K k = 7 ∨ K k = 8 ∨ K k = 9 → gi u (p + 3) k = nI (N k) ∧ gi u 273 (b + 162 + 6 * k) = nI (N k) ∧ N k ≤ 9999) ∧
  (K k = 7 ∨ K k = 8 ∨ K k = 9 → gi u 273 (b + 165 + 6 * k) = nI (sgc (K k))) ∧
  (K k = 10 → gi u (p + 3) k = nI (N k) ∧ gi u 273 (b + 161 + 6 * k) = nI (N k) ∧ 1 ≤ N k ∧ N k ≤ 99) ∧
  ((5 ≤ K k ∧ K k ≤ 10) ∨ K k = 12 → gi u (p + 4) k = nI (P k) ∧ gi u 273 (b + 164 + 6 * k) = nI (P k))
/-- what opens is a bracket's one end, its end the other -/
def BRK (L : Nat) (K P : Nat → Nat) : Prop := (∀ k, k < L → 5 ≤ K k → K k ≤ 10 → k < P k ∧ P k < L ∧ K (P k) = 12 ∧ P (P k) = k) ∧ (∀ k, k < L → K k = 12 → P k < k ∧ 5 ≤ K (P k) ∧ K (P k) ≤ 10 ∧ P (P k) = k) ∧
  ∀ k j, k < L → 5 ≤ K k → K k ≤ 10 → 5 ≤ K j → K j ≤ 10 → k < j → j < P k → P j < P k
def NGT (p b : Nat) (σ : aS) (u : xM) : Prop := (gi u p 0 = 0 ∧ gi u p 2 = 0 ∧ gi u 273 (b + 4) = -1) ∨ ∃ L K T N P, gi u p 0 = 1 ∧ L ≤ 60 ∧ gi u p 2 = nI L ∧ gi u 273 (b + 4) = nI L ∧ NST p b L σ K T N P u ∧ BRK L K P
/-- a land and its nights, of the class and of the reference -/
def SLT (σ : aS) (o p b nb : Nat) (u : xM) : Prop := LR o σ u ∧ RR b σ u ∧ okS σ ∧ σ 3 0 ≤ 9999 ∧ σ 23 0 = 4095 ∧ NMS o nb σ u ∧ NGT p b σ u
def TRY4 (t : Nat) (u : xM) : Prop := ∃ s : Nat, s ≤ 3 ∧ gi u (50 + 2 * t) 1 = nI s ∧ gi u 275 t = nI s ∧ ((gi u (50 + 2 * t) 2 = -1 ∧ gi u 276 t = -1) ∨ ∃ m : Nat, m ≤ 60 ∧ gi u (50 + 2 * t) 2 = nI m ∧ gi u 276 t = nI m ∧ ∀ i, i < m → gl u (51 + 2 * t) i = gl u 277 (60 * t + i))
def TAP (u : xM) : Prop := ∃ n : Nat, n ≤ 900 ∧ gi u 0 13 = nI n ∧ gi u 272 10 = nI n ∧ ∀ i, i < n → gi u 4 i = gi u 278 i ∧ ∃ c : Nat, c < 256 ∧ gi u 4 i = (nI c).toInt8.toInt32
def LVD (u : xM) : Prop := (gi u 46 0 = 0 ∧ gi u 272 42 = 0) ∨ (gi u 46 0 = 1 ∧ gi u 272 42 = 1 ∧ ∀ i, i < 5 → gi u 46 (2 + i) = gi u 289 i)
def WRD (u : xM) : Prop := gi u 34 1 = nI 901 ∧ gi u 40 1 = nI 301 ∧ ∀ i, i < 28 → gl u 35 i = wordK i ∧ gl u 41 i = wordK i
def MKS (u : xM) : Prop := ∃ n : Nat, n ≤ 3 ∧ gi u 0 10 = nI n ∧ gi u 272 43 = nI n ∧ ∀ j, j < n → ∃ σ, SLT σ (191 + 27 * j) (68 + 5 * j) (524 * (j + 1)) (21 * (j + 1)) u
/-- what holds but for the land -/
def INV (u : xM) : Prop := gi u 0 14 = gi u 272 2 ∧ gl u 0 15 = gl u 272 3 ∧ gl u 0 16 = gl u 272 4 ∧ gi u 0 17 = gi u 272 16 ∧ gi u 0 18 = gi u 272 17 ∧ TAP u ∧ (∀ t, t < 4 → TRY4 t u) ∧ LVD u ∧ WRD u ∧ (gi u 272 23 = -1 ∧ gi u 272 24 = -1 ∧ gi u 272 25 = xb false) ∧ MKS u ∧ (∃ σ, SLT σ 83 58 0 0 u)
theorem INV.st {u : xM} (h : INV u) : gi u 0 14 = gi u 272 2 := h.1
theorem INV.tp {u : xM} (h : INV u) : gl u 0 15 = gl u 272 3 := h.2.1
theorem INV.bt {u : xM} (h : INV u) : gl u 0 16 = gl u 272 4 := h.2.2.1
theorem INV.fk {u : xM} (h : INV u) : gi u 0 17 = gi u 272 16 := h.2.2.2.1
theorem INV.fp {u : xM} (h : INV u) : gi u 0 18 = gi u 272 17 := h.2.2.2.2.1
theorem INV.tap {u : xM} (h : INV u) : TAP u := h.2.2.2.2.2.1
theorem INV.tra {u : xM} (h : INV u) : (∀ t, t < 4 → TRY4 t u) := h.2.2.2.2.2.2.1
theorem INV.lvd {u : xM} (h : INV u) : LVD u := h.2.2.2.2.2.2.2.1
theorem INV.wrd {u : xM} (h : INV u) : WRD u := h.2.2.2.2.2.2.2.2.1
theorem INV.md {u : xM} (h : INV u) : (gi u 272 23 = -1 ∧ gi u 272 24 = -1 ∧ gi u 272 25 = xb false) := h.2.2.2.2.2.2.2.2.2.1
theorem INV.mks {u : xM} (h : INV u) : MKS u := h.2.2.2.2.2.2.2.2.2.2.1
theorem INV.sl {u : xM} (h : INV u) : (∃ σ, SLT σ 83 58 0 0 u) := h.2.2.2.2.2.2.2.2.2.2.2
/-- the cells that it speaks of -/
def cellI (k i : Nat) : Prop := (k = 0 ∧ (i = 10 ∨ i = 13 ∨ i = 17 ∨ i = 18)) ∨ k = 4 ∨ (k = 34 ∧ i = 1) ∨ (k = 40 ∧ i = 1) ∨ k = 46 ∨ (50 ≤ k ∧ k < 63) ∨ (68 ≤ k ∧ k < 105) ∨ (191 ≤ k ∧ k < 272) ∨ (k = 272 ∧ (i = 10 ∨ i = 16 ∨ i = 17 ∨ i = 23 ∨ i = 24 ∨ i = 25 ∨ i = 42 ∨ i = 43)) ∨ (k = 273 ∧ i < 2096) ∨ k = 275 ∨ k = 276 ∨ k = 278 ∨ k = 289
def cellL (k i : Nat) : Prop := (k = 0 ∧ (i = 15 ∨ i = 16)) ∨ k = 35 ∨ k = 41 ∨ (50 ≤ k ∧ k < 58) ∨ k = 85 ∨ k = 93 ∨ k = 100 ∨ (191 ≤ k ∧ k < 272) ∨ (k = 272 ∧ (i = 3 ∨ i = 4)) ∨ (k = 274 ∧ i < 84) ∨ k = 277
/-- those but for the land and the nights -/
def cellJ (k i : Nat) : Prop := (k = 0 ∧ (i = 10 ∨ i = 13 ∨ i = 17 ∨ i = 18)) ∨ k = 4 ∨ (k = 34 ∧ i = 1) ∨ (k = 40 ∧ i = 1) ∨ k = 46 ∨ (50 ≤ k ∧ k < 58) ∨ (68 ≤ k ∧ k < 83) ∨ (191 ≤ k ∧ k < 272) ∨ (k = 272 ∧ (i = 10 ∨ i = 16 ∨ i = 17 ∨ i = 23 ∨ i = 24 ∨ i = 25 ∨ i = 42 ∨ i = 43)) ∨ (k = 273 ∧ 524 ≤ i ∧ i < 2096) ∨ k = 275 ∨ k = 276 ∨ k = 278 ∨ k = 289
def cellM (k i : Nat) : Prop := (k = 0 ∧ (i = 15 ∨ i = 16)) ∨ k = 35 ∨ k = 41 ∨ (50 ≤ k ∧ k < 58) ∨ (191 ≤ k ∧ k < 272) ∨ (k = 272 ∧ (i = 3 ∨ i = 4)) ∨ (k = 274 ∧ 21 ≤ i ∧ i < 84) ∨ k = 277

section INVS
variable {u u' : xM} {σ : aS} {o p b nb : Nat}
theorem SLT.cg (h : SLT σ o p b nb u) (h1 : ∀ k i, o ≤ k → k < o + 22 → gi u' k i = gi u k i) (h2 : ∀ k i, p ≤ k → k < p + 5 → gi u' k i = gi u k i) (h3 : ∀ i, b ≤ i → i < b + 520 → gi u' 273 i = gi u 273 i)
    (h4 : ∀ k i, k = o + 2 ∨ k = o + 10 ∨ k = o + 17 → gl u' k i = gl u k i) (h5 : ∀ i, nb ≤ i → i < nb + 21 → gl u' 274 i = gl u 274 i) : SLT σ o p b nb u' := by
  obtain ⟨hl, hr, ok, hh, hp, hn, hg⟩ := h
  have a0 := ok.r
  have a1 := ok.d
  have a2 := ok.e
  refine ⟨hl.cg (fun f hf i => h1 _ _ (by omega) (by have := rl_o f hf; omega)), hr.cg a0 a1 a2 (fun i hi hi2 => h3 i hi (by omega)), ok, hh, hp, ⟨fun i hi => ?_, fun i hi => ?_, fun i hi => ?_⟩, ?_⟩
  · rw [h4 _ _ (by omega), h5 _ (by omega) (by omega)]; exact hn.1 i hi
  · rw [h4 _ _ (by omega), h5 _ (by omega) (by omega)]; exact hn.2.1 i hi
  · rw [h4 _ _ (by omega), h5 _ (by omega) (by omega)]; exact hn.2.2 i hi
  · rcases hg with ⟨g1, g2, g3⟩ | ⟨L, K, T, N, P, g1, g2, g3, g4, g5, g6⟩
    · refine Or.inl ⟨?_, ?_, ?_⟩
      · rw [h2 _ _ (by omega) (by omega)]; exact g1
      · rw [h2 _ _ (by omega) (by omega)]; exact g2
      · rw [h3 _ (by omega) (by omega)]; exact g3
    · refine Or.inr ⟨L, K, T, N, P, ?_, g2, ?_, ?_, fun k hk => ?_, g6⟩
      · rw [h2 _ _ (by omega) (by omega)]; exact g1
      · rw [h2 _ _ (by omega) (by omega)]; exact g3
      · rw [h3 _ (by omega) (by omega)]; exact g4
      · have := g5 k hk
        rw [h2 (p + 1) k (by omega) (by omega), h2 (p + 2) k (by omega) (by omega), h2 (p + 3) k (by omega) (by omega), h2 (p + 4) k (by omega) (by omega), h3 (b + 160 + 6 * k) (by omega) (by omega), h3 (b + 161 + 6 * k) (by omega) (by omega), h3 (b + 162 + 6 * k) (by omega) (by omega), h3 (b + 164 + 6 * k) (by omega) (by omega), h3 (b + 165 + 6 * k) (by omega) (by omega)]
        exact this
theorem INV.up (h : INV u) (hi : ∀ k i, cellJ k i → gi u' k i = gi u k i) (hl : ∀ k i, cellM k i → gl u' k i = gl u k i) (hs : gi u' 0 14 = gi u' 272 2) (hsl : ∃ σ, SLT σ 83 58 0 0 u') : INV u' := by
  refine ⟨hs, ?_, ?_, ?_, ?_, ?_, fun t ht => ?_, ?_, ?_, ?_, ?_, ?_⟩
  · rw [hl _ _ (by unfold cellM; omega), hl _ _ (by unfold cellM; omega)]; exact h.tp
  · rw [hl _ _ (by unfold cellM; omega), hl _ _ (by unfold cellM; omega)]; exact h.bt
  · rw [hi _ _ (by unfold cellJ; omega), hi _ _ (by unfold cellJ; omega)]; exact h.fk
  · rw [hi _ _ (by unfold cellJ; omega), hi _ _ (by unfold cellJ; omega)]; exact h.fp
  · obtain ⟨n, h1, h2, h3, h4⟩ := h.tap
    refine ⟨n, h1, ?_, ?_, fun i hn => ?_⟩
    · rw [hi _ _ (by unfold cellJ; omega)]; exact h2
    · rw [hi _ _ (by unfold cellJ; omega)]; exact h3
    · rw [hi 4 i (by unfold cellJ; omega), hi 278 i (by unfold cellJ; omega)]; exact h4 i hn
  · obtain ⟨s, h1, h2, h3, h4⟩ := h.tra t ht
    refine ⟨s, h1, ?_, ?_, ?_⟩
    · rw [hi _ _ (by unfold cellJ; omega)]; exact h2
    · rw [hi _ _ (by unfold cellJ; omega)]; exact h3
    · rw [hi _ _ (by unfold cellJ; omega), hi _ _ (by unfold cellJ; omega)]
      rcases h4 with h4 | ⟨m, m1, m2, m3, m4⟩
      · exact Or.inl h4
      · refine Or.inr ⟨m, m1, m2, m3, fun i hm => ?_⟩
        rw [hl _ _ (by unfold cellM; omega), hl _ _ (by unfold cellM; omega)]
        exact m4 i hm
  · rcases h.lvd with ⟨h1, h2⟩ | ⟨h1, h2, h3⟩
    · refine Or.inl ⟨?_, ?_⟩
      · rw [hi _ _ (by unfold cellJ; omega)]; exact h1
      · rw [hi _ _ (by unfold cellJ; omega)]; exact h2
    · refine Or.inr ⟨?_, ?_, fun i h5 => ?_⟩
      · rw [hi _ _ (by unfold cellJ; omega)]; exact h1
      · rw [hi _ _ (by unfold cellJ; omega)]; exact h2
      · rw [hi _ _ (by unfold cellJ; omega), hi 289 _ (by unfold cellJ; omega)]; exact h3 i h5
  · obtain ⟨h1, h2, h3⟩ := h.wrd
    refine ⟨?_, ?_, fun i hn => ?_⟩
    · rw [hi _ _ (by unfold cellJ; omega)]; exact h1
    · rw [hi _ _ (by unfold cellJ; omega)]; exact h2
    · rw [hl _ _ (by unfold cellM; omega), hl _ _ (by unfold cellM; omega)]; exact h3 i hn
  · obtain ⟨h1, h2, h3⟩ := h.md
    refine ⟨?_, ?_, ?_⟩
    · rw [hi _ _ (by unfold cellJ; omega)]; exact h1
    · rw [hi _ _ (by unfold cellJ; omega)]; exact h2
    · rw [hi _ _ (by unfold cellJ; omega)]; exact h3
  · obtain ⟨n, h1, h2, h3, h4⟩ := h.mks
    refine ⟨n, h1, ?_, ?_, fun j hj => ?_⟩
    · rw [hi _ _ (by unfold cellJ; omega)]; exact h2
    · rw [hi _ _ (by unfold cellJ; omega)]; exact h3
    · obtain ⟨σ, hσ⟩ := h4 j hj
      exact ⟨σ, hσ.cg (fun k i a1 a2 => hi k i (by unfold cellJ; omega)) (fun k i a1 a2 => hi k i (by unfold cellJ; omega)) (fun i a1 a2 => hi 273 i (by unfold cellJ; omega)) (fun k i a1 => hl k i (by unfold cellM; omega)) (fun i a1 a2 => hl 274 i (by unfold cellM; omega))⟩
  · exact hsl
theorem INV.cg (h : INV u) (hi : ∀ k i, cellI k i → gi u' k i = gi u k i) (hl : ∀ k i, cellL k i → gl u' k i = gl u k i) (hs : gi u' 0 14 = gi u' 272 2) : INV u' := by
  refine h.up (fun k i hk => hi k i (by unfold cellJ at hk; unfold cellI; omega)) (fun k i hk => hl k i (by unfold cellM at hk; unfold cellL; omega)) hs ?_
  obtain ⟨σ, hσ⟩ := h.sl
  exact ⟨σ, hσ.cg (fun k i a1 a2 => hi k i (by unfold cellI; omega)) (fun k i a1 a2 => hi k i (by unfold cellI; omega)) (fun i a1 a2 => hi 273 i (by unfold cellI; omega)) (fun k i a1 => hl k i (by unfold cellL; omega)) (fun i a1 a2 => hl 274 i (by unfold cellL; omega))⟩
/-- what a question changes: nothing that is kept, but the status -/
def cq (u u' : xM) : Prop := (∀ k i, (k < 5 ∧ ¬ (k = 0 ∧ i = 14)) ∨ (31 ≤ k ∧ k < 48) ∨ (50 ≤ k ∧ k < 105) ∨ 164 ≤ k → gi u' k i = gi u k i) ∧ ∀ k i, k < 5 ∨ (31 ≤ k ∧ k < 48) ∨ (50 ≤ k ∧ k < 105) ∨ 164 ≤ k → gl u' k i = gl u k i
def rq (u u' : xM) : Prop := (∀ k i, k < 272 ∨ (k = 272 ∧ (i < 2 ∨ (2 < i ∧ i < 28) ∨ 39 ≤ i)) ∨ (k = 273 ∧ i < 2096) ∨ (274 ≤ k ∧ k < 280) ∨ k = 289 → gi u' k i = gi u k i) ∧ ∀ k i, k < 273 ∨ (274 ≤ k ∧ k < 280) ∨ k = 289 → gl u' k i = gl u k i
theorem cq.rf : cq u u := ⟨fun _ _ _ => rfl, fun _ _ _ => rfl⟩
theorem cq.tr {w : xM} (h : cq u u') (h' : cq u' w) : cq u w := ⟨fun k i a => (h'.1 k i a).trans (h.1 k i a), fun k i a => (h'.2 k i a).trans (h.2 k i a)⟩
theorem rq.rf : rq u u := ⟨fun _ _ _ => rfl, fun _ _ _ => rfl⟩
theorem rq.tr {w : xM} (h : rq u u') (h' : rq u' w) : rq u w := ⟨fun k i a => (h'.1 k i a).trans (h.1 k i a), fun k i a => (h'.2 k i a).trans (h.2 k i a)⟩
theorem cq.st {x : Int32} (h : cq u u') : cq u (si u' 0 14 x) := ⟨fun k i a => by rw [gi_si, if_neg (by omega)]; exact h.1 k i a, fun k i a => h.2 k i a⟩
theorem rq.st {x : Int32} (h : rq u u') : rq u (si u' 272 2 x) := ⟨fun k i a => by rw [gi_si, if_neg (by omega)]; exact h.1 k i a, fun k i a => h.2 k i a⟩
theorem gi_at (u : xM) (k i : Nat) (x : Int32) : gi (si u k i x) k i = x := by rw [gi_si, if_pos ⟨rfl, rfl⟩]
/-- what a question needs of the reference -/
def RS (σ : aS) (u : xM) : Prop := RR 0 σ u ∧ MD none u ∧ gi u 272 25 = xb false
theorem RS.cq (h : RS σ u) (ok : okS σ) (c : cq u u') : RS σ u' := ⟨h.1.cg ok.r ok.d ok.e (fun i _ _ => c.1 _ _ (by omega)), h.2.1.cg (c.1 _ _ (by omega)) (c.1 _ _ (by omega)), (c.1 _ _ (by omega)).trans h.2.2⟩
theorem INV.q {w : xM} (I : INV u) (c : cq u u') (r : rq u' w) (h : gi w 0 14 = gi w 272 2) : INV w := by
  refine I.cg (fun k i hk => ?_) (fun k i hk => ?_) h
  · unfold cellI at hk
    rw [r.1 k i (by omega), c.1 k i (by omega)]
  · unfold cellL at hk
    rw [r.2 k i (by omega), c.2 k i (by omega)]
theorem cq.xs {P : Nat → Prop} (x : xsame P u u') (hP : ∀ k, k < 5 ∨ (31 ≤ k ∧ k < 48) ∨ (50 ≤ k ∧ k < 105) ∨ 164 ≤ k → P k) : cq u u' := ⟨fun k i a => x.1 k i (hP k (by omega)), fun k i a => x.2 k i (hP k (by omega))⟩
theorem rq.xs {P : Nat → Prop} (x : xsame P u u') (hP : ∀ k, k < 273 ∨ (274 ≤ k ∧ k < 280) ∨ k = 289 → P k) (h : ∀ i, i < 2096 → gi u' 273 i = gi u 273 i) : rq u u' := ⟨fun k i a => by
  by_cases e : k = 273
  · subst e; exact h i (by omega)
  · exact x.1 k i (hP k (by omega)), fun k i a => x.2 k i (hP k (by omega))⟩
/-- a question to both -/
theorem pj {α : Type} {pc : (α → xM → Prop) → Prop} {pr : xM → (α → xM → Prop) → Prop} (I : INV u) (ok : okS σ) (hR : RS σ u) (v : α) (s : Int32) (hc : ∀ Q, (∀ u', cq u u' → gi u' 0 14 = s → Q v u') → pc Q) (hr : ∀ u1, cq u u1 → RS σ u1 → ∀ Q, (∀ u', rq u1 u' → gi u' 272 2 = s → Q v u') → pr u1 Q) : pc (fun r u1 => pr u1 (fun r' u2 => r = r' ∧ INV u2)) := by
  refine hc _ (fun u1 c1 s1 => hr u1 c1 (hR.cq ok c1) _ (fun u2 c2 s2 => ⟨rfl, I.q c1 c2 ?_⟩))
  rw [s2, c2.1 0 14 (by omega), s1]
theorem INV.sp (I : INV u) : ∃ σ, SLT σ 83 58 0 0 u ∧ LR 83 σ u ∧ okS σ ∧ RS σ u := by
  obtain ⟨σ, h⟩ := I.sl
  exact ⟨σ, h, h.1, h.2.2.1, h.2.1, ⟨I.md.1, I.md.2.1⟩, I.md.2.2⟩
end INVS
