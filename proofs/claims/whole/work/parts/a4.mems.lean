/-! ===== the memory while it is made ===== -/
def tz (o j : Nat) : xM := (fun k => if k = o + 21 then (fun i => if i < j then 10 else 0) else uI.1 k, uI.2)
def rz (o j : Nat) : xM := (uI.1, fun k => if k = o + 1 then (fun i => if i < j then wordK i else 0) else uI.2 k)
def mz (j : Nat) : xM := (fun k => if k = 273 then (fun _ => 0) else if k = 276 then (fun i => if i < j then -1 else 0) else uI.1 k, uI.2)
def pz (a b c : Nat) : xM := (fun k => if k = 273 then (fun i => if 135 ≤ i ∧ i < 135 + a then 10 else if b = 1 ∧ i = 4 then -1 else 0) else uI.1 k, uI.2)
theorem tz_0 (o : Nat) : tz o 0 = uzi (o + 21) := by
  unfold tz uzi
  congr 1
theorem tz_12 {o : Nat} (ho : o ∈ xpLL) : tz o 12 = uI := by
  have h : uI.1 (o + 21) = fun i => if i < 12 then 10 else 0 := by
    simp only [xpLL, List.mem_cons, List.not_mem_nil, or_false] at ho
    rcases ho with rfl | rfl | rfl | rfl | rfl | rfl | rfl <;> rfl
  unfold tz
  rw [← h]
  have e : (fun k => if k = o + 21 then uI.1 (o + 21) else uI.1 k) = uI.1 := by
    funext k
    by_cases z : k = o + 21
    · rw [if_pos z, z]
    · rw [if_neg z]
  rw [e]
theorem k_tides0 {o : Nat} (ho : o ∈ xpLL) : p_X1_setAllTides o 10 (uzi (o + 21)) (fun u1 => u1 = uI) := by
  rw [← tz_0]
  unfold p_X1_setAllTides
  refine xloop (fun m j (w : xM) => p_X1_setAllTides_L2 o (fun u1 => u1 = uI) m 10 (nI j) w) (fun j w => w = tz o j) 12 0 (tz o 0) (by omega) rfl ?_ ?_
  · intro m w hw
    unfold p_X1_setAllTides_L2
    exact ⟨fun _ => by rw [hw]; exact tz_12 ho, fun z => absurd (by decide) z⟩
  · intro m j w _ hj hw kk
    unfold p_X1_setAllTides_L2
    rw [show ((12 : Int32) ≤ nI j) = (12 ≤ j) from cLE (a := 12) (by omega) (by omega), cCL (by omega)]
    refine ⟨fun z => absurd z (by omega), fun _ => ⟨cIN (by omega) (by omega), fun u3 e3 x4 e4 => ?_⟩⟩
    rw [l_1, cA] at e4
    rw [e4]
    refine kk u3 ?_
    rw [e3, hw]
    unfold tz si
    congr 1
    funext k
    by_cases z : k = o + 21
    · rw [if_pos z, if_pos z]
      funext i
      show upd (if o + 21 = o + 21 then _ else _) j 10 i = _
      rw [if_pos rfl]
      unfold upd
      by_cases y : i = j
      · rw [if_pos y, if_pos (by omega)]
      · rw [if_neg y]
        show (if i < j then (10 : Int32) else 0) = _
        by_cases y2 : i < j
        · rw [if_pos y2, if_pos (by omega)]
        · rw [if_neg y2, if_neg (by omega)]
    · rw [if_neg z, if_neg z]
      exact if_neg z
/-- the words out of a text, one letter after another -/
def gow : List Int32 → Int64 → List Int64
  | [], _ => []
  | c :: cs, a => if c = 32 then a :: gow cs 0 else gow cs ((a <<< ((5 : Int32).toInt64 &&& 63)) ||| ((c - (97 : Int32)) + (1 : Int32)).toInt64)
theorem gow_0 : gow (x_bytS.getD 0 []) 0 = (List.range 17).map wordK := by decide +kernel
theorem gow_1 : gow (x_bytS.getD 1 []) 0 = (List.range 11).map (fun i => wordK (17 + i)) := by decide +kernel
theorem gow_l : (x_bytS.getD 0 []).length = x_lenS.getD 0 0 ∧ (x_bytS.getD 1 []).length = x_lenS.getD 1 0 ∧ x_lenS.getD 0 0 < 1000 ∧ x_lenS.getD 1 0 < 1000 := by decide +kernel
theorem k_reserveL {o s1 : Nat} {Q : Int32 → xM → Prop} (hl : x_lenS.getD s1 0 < 1000) : ∀ (cs : List Int32) (pos n : Nat) (a : Int64) (u : xM), pos + cs.length = x_lenS.getD s1 0 → (x_bytS.getD s1 []).drop pos = cs → n + (gow cs a).length ≤ 28 → (∀ u1 : xM, u1.1 = u.1 → (∀ k, k ≠ o + 1 → u1.2 k = u.2 k) → (∀ i, u1.2 (o + 1) i = if n ≤ i ∧ i < n + (gow cs a).length then (gow cs a).getD (i - n) 0 else u.2 (o + 1) i) → Q (nI (n + (gow cs a).length)) u1) → ∀ k, cs.length < k → p_X8_reserve_L8 o s1 Q k (nI n) a (nI pos) u := by
  intro cs
  induction cs with
  | nil =>
    intro pos n a u hp _ _ hq k hk
    obtain ⟨k, rfl⟩ : ∃ j, k = j + 1 := ⟨k - 1, by omega⟩
    unfold p_X8_reserve_L8
    have hp : pos = x_lenS.getD s1 0 := hp
    rw [hp]
    refine ⟨fun _ => ?_, fun z => absurd (by rw [cLE (by omega) (by omega)]; exact Nat.le_refl _) z⟩
    have := hq u rfl (fun _ _ => rfl) (fun i => by rw [if_neg (by simp [gow])])
    simpa [gow] using this
  | cons c cs ih =>
    intro pos n a u hp hd hn hq k hk
    obtain ⟨k, rfl⟩ : ∃ j, k = j + 1 := ⟨k - 1, by omega⟩
    rw [List.length_cons] at hp hk
    have hc : x_ch s1 pos = c := by
      unfold x_ch
      have : (x_bytS.getD s1 [])[pos]? = some c := by
        have h := congrArg (fun l => l[0]?) hd
        simpa using h
      rw [List.getD_eq_getElem?_getD, this]
      rfl
    have hd' : (x_bytS.getD s1 []).drop (pos + 1) = cs := by
      rw [← List.drop_drop, hd]
      rfl
    unfold p_X8_reserve_L8
    rw [cLE (by omega) (by omega), show ((28 : Int32) ≤ nI n) = (28 ≤ n) from cLE (a := 28) (by omega) (by omega), cCL (by omega), hc]
    refine ⟨fun z => absurd z (by omega), fun _ => ⟨fun z => ?_, fun hn28 => ⟨cIN (by omega) (by omega), fun x4 e4 => ?_⟩⟩⟩
    · have h0 : (gow (c :: cs) a).length = 0 := by omega
      have := hq u rfl (fun _ _ => rfl) (fun i => by rw [if_neg (by omega)])
      rw [h0] at this
      exact this
    · rw [e4]
      refine ⟨fun z => ?_, fun z => ⟨cIN (by omega) (by omega), fun u10 e10 x11 e11 x12 e12 => ?_⟩⟩
      · unfold p_X8_withLetter
        intro x8 e8
        rw [l_1, cA] at e8
        rw [e8]
        have eg : gow (c :: cs) a = gow cs ((a <<< ((5 : Int32).toInt64 &&& 63)) ||| ((c - (97 : Int32)) + (1 : Int32)).toInt64) := if_neg z
        rw [eg] at hn hq
        exact ih (pos + 1) n _ u (by omega) hd' hn hq k (by omega)
      · have eg : gow (c :: cs) a = a :: gow cs 0 := if_pos z
        rw [eg, List.length_cons] at hn
        rw [cCL (by omega)] at e10
        rw [l_1, cA] at e11 e12
        rw [e11, e12]
        refine ih (pos + 1) (n + 1) 0 u10 (by omega) hd' (by omega) (fun u1 h1 h2 h3 => ?_) k (by omega)
        rw [eg, List.length_cons] at hq
        have := hq u1 (by rw [h1, e10]; rfl) (fun k' hk' => by rw [h2 k' hk', e10]; show (if k' = o + 1 then _ else _) = _; rw [if_neg hk']) (fun i => ?_)
        · rw [show n + ((gow cs 0).length + 1) = n + 1 + (gow cs 0).length by omega] at this
          exact this
        · rw [h3, e10]
          show (if _ then _ else (if o + 1 = o + 1 then vp_updL (u.2 (o + 1)) n a else _) i) = _
          rw [if_pos rfl]
          unfold vp_updL
          by_cases y : i = n
          · rw [if_neg (by omega), if_pos y, if_pos (by omega), y, Nat.sub_self]
            rfl
          · by_cases y2 : n + 1 ≤ i ∧ i < n + 1 + (gow cs 0).length
            · rw [if_pos y2, if_pos (by omega), show i - n = (i - (n + 1)) + 1 by omega]
              rfl
            · rw [if_neg y2, if_neg y, if_neg (by omega)]
theorem rz_28 {o : Nat} (ho : o = 34 ∨ o = 40) : rz o 28 = uI := by
  have h : uI.2 (o + 1) = fun i => if i < 28 then wordK i else 0 := by
    rcases ho with rfl | rfl
    · funext i
      show (if _ then _ else _) = _
      by_cases z : i < 28
      · rw [if_pos ⟨Or.inl rfl, z⟩, if_pos z]
      · rw [if_neg (by omega), if_neg (by omega), if_neg z]
    · funext i
      show (if _ then _ else _) = _
      by_cases z : i < 28
      · rw [if_pos ⟨Or.inr rfl, z⟩, if_pos z]
      · rw [if_neg (by omega), if_neg (by omega), if_neg z]
  unfold rz
  rw [← h]
  have e : (fun k => if k = o + 1 then uI.2 (o + 1) else uI.2 k) = uI.2 := by
    funext k
    by_cases z : k = o + 1
    · rw [if_pos z, z]
    · rw [if_neg z]
  rw [e]
theorem rz_0 {o : Nat} : rz o 0 = uzl (o + 1) := by
  unfold rz uzl
  congr 1
theorem rz_of {o n j : Nat} {w : Nat → Int64} {ws : List Int64} {u1 : xM} (hw : ws = (List.range j).map (fun i => wordK (n + i))) (h1 : u1.1 = uI.1) (h2 : ∀ k, k ≠ o + 1 → u1.2 k = (rz o n).2 k) (h3 : ∀ i, u1.2 (o + 1) i = if n ≤ i ∧ i < n + ws.length then ws.getD (i - n) 0 else (rz o n).2 (o + 1) i) : u1 = rz o (n + j) := by
  have hl : ws.length = j := by rw [hw]; simp
  refine Prod.ext h1 ?_
  funext k
  show u1.2 k = if k = o + 1 then _ else _
  by_cases z : k = o + 1
  · rw [if_pos z, z]
    funext i
    have e0 : (rz o n).2 (o + 1) i = if i < n then wordK i else 0 := by
      show (if o + 1 = o + 1 then (fun i => if i < n then wordK i else 0) else uI.2 (o + 1)) i = _
      rw [if_pos rfl]
    rw [h3, hl, e0]
    by_cases y : n ≤ i ∧ i < n + j
    · rw [if_pos y, if_pos (by omega), hw, List.getD_eq_getElem?_getD, List.getElem?_map, List.getElem?_range (by omega)]
      show wordK (n + (i - n)) = _
      rw [show n + (i - n) = i by omega]
    · rw [if_neg y]
      by_cases y2 : i < n
      · rw [if_pos y2, if_pos (by omega)]
      · rw [if_neg y2, if_neg (by omega)]
  · rw [if_neg z, h2 k z]
    show (if k = o + 1 then _ else _) = _
    rw [if_neg z]
theorem k_reserve0 {o : Nat} : p_X8_reserve o 0 0 (uzl (o + 1)) (fun r u1 => r = nI 17 ∧ u1 = rz o 17) := by
  rw [← rz_0]
  unfold p_X8_reserve
  refine ⟨1000, k_reserveL (s1 := 0) gow_l.2.2.1 (x_bytS.getD 0 []) 0 0 0 (rz o 0) (by rw [Nat.zero_add]; exact gow_l.1) rfl (by rw [gow_0]; simp) (fun u1 h1 h2 h3 => ?_) 1000 (by have := gow_l; omega)⟩
  have e := rz_of (o := o) (n := 0) (j := 17) (w := wordK) (by rw [gow_0]; simp) h1 h2 h3
  rw [gow_0]
  exact ⟨by simp, e⟩
theorem k_reserve1 {o : Nat} (ho : o = 34 ∨ o = 40) : p_X8_reserve o 1 (nI 17) (rz o 17) (fun _ u1 => u1 = uI) := by
  unfold p_X8_reserve
  refine ⟨1000, k_reserveL (s1 := 1) gow_l.2.2.2 (x_bytS.getD 1 []) 0 17 0 (rz o 17) (by rw [Nat.zero_add]; exact gow_l.2.1) rfl (by rw [gow_1]; simp) (fun u1 h1 h2 h3 => ?_) 1000 (by have := gow_l; omega)⟩
  rw [rz_of (o := o) (n := 17) (j := 11) (w := wordK) gow_1 h1 h2 h3]
  exact rz_28 ho
theorem mz_s {j : Nat} {u1 : xM} (h : u1 = si (mz j) 276 j (-1)) : u1 = mz (j + 1) := by
  rw [h]
  unfold mz si
  congr 1
  funext k
  by_cases z : k = 276
  · subst z
    rw [if_pos rfl, if_neg (by omega), if_pos rfl]
    funext i
    show upd ((if (276 : Nat) = 273 then (fun _ => (0 : Int32)) else if (276 : Nat) = 276 then (fun i => if i < j then -1 else 0) else uI.1 276)) j (-1) i = _
    rw [if_neg (by omega), if_pos rfl]
    unfold upd
    by_cases y : i = j
    · rw [if_pos y, if_pos (by omega)]
    · rw [if_neg y]
      show (if i < j then (-1 : Int32) else 0) = _
      by_cases y2 : i < j
      · rw [if_pos y2, if_pos (by omega)]
      · rw [if_neg y2, if_neg (by omega)]
  · rw [if_neg z]
    show (if k = 273 then _ else if k = 276 then _ else _) = _
    rw [if_neg z]
    by_cases y : k = 273
    · rw [if_pos y, if_pos y]
    · rw [if_neg y, if_neg y, if_neg z]
theorem mz_4 : mz 4 = uzi 273 := by
  have h : uI.1 276 = fun i => if i < 4 then -1 else 0 := by
    funext i
    simp [uI, xpLL, xpYL]
  unfold mz uzi
  congr 1
  funext k
  by_cases y : k = 273
  · rw [if_pos y, if_pos y]
  · rw [if_neg y, if_neg y]
    by_cases z : k = 276
    · rw [if_pos z, z, h]
    · rw [if_neg z]
theorem k_plain0 : p_X11_plain 0 (uzi 273) (fun u1 => u1 = uI) := by
  have h273 : uI.1 273 = fun i => if i = 4 then -1 else if 135 ≤ i ∧ i < 147 then 10 else 0 := by
    funext i
    simp [uI, xpLL, xpYL]
  have ext : ∀ w : xM, w.2 = uI.2 → (∀ k, k ≠ 273 → w.1 k = uI.1 k) → (∀ i, gi w 273 i = if i = 4 then -1 else if 135 ≤ i ∧ i < 147 then 10 else 0) → w = uI := fun w h2 h1 h3 => by
    refine Prod.ext ?_ h2
    funext k
    by_cases z : k = 273
    · rw [z, h273]
      funext i
      exact h3 i
    · exact h1 k z
  unfold p_X11_plain
  refine xloop (fun m j (w : xM) => p_X11_plain_L2 (fun u1 => u1 = uI) m 0 (nI j) w) (fun _ w => (∀ i, gi w 273 i = 0) ∧ (∀ k, k ≠ 273 → w.1 k = uI.1 k) ∧ w.2 = uI.2) 524 0 (uzi 273) (by omega) ⟨fun i => rfl, fun k hk => if_neg hk, rfl⟩ ?_ ?_
  · rintro m w ⟨a1, a2, a3⟩
    unfold p_X11_plain_L2
    refine ⟨fun _ => ?_, fun z => absurd (by decide) z⟩
    refine xloop (fun m' j (v : xM) => p_X11_plain_L26 (fun u1 => u1 = uI) m' 0 (nI j) v) (fun j v => (∀ i, gi v 273 i = if 135 ≤ i ∧ i < 135 + j then 10 else 0) ∧ (∀ k, k ≠ 273 → v.1 k = uI.1 k) ∧ v.2 = uI.2) 12 0 w (by omega) ⟨fun i => by rw [if_neg (by omega)]; exact a1 i, a2, a3⟩ ?_ ?_
    · rintro m' v ⟨b1, b2, b3⟩
      unfold p_X11_plain_L26
      refine ⟨fun _ => ⟨cIN (a := 4) (by omega) (by omega), fun u3 e3 => ?_⟩, fun z => absurd (by decide) z⟩
      rw [show (((0 : Int32) + (4 : Int32)).toNatClampNeg) = 4 from by decide] at e3
      refine ext u3 (by rw [e3]; exact b3) (fun k hk => ?_) (fun i => ?_)
      · rw [e3]
        show (if k = 273 then _ else _) = _
        rw [if_neg hk]
        exact b2 k hk
      · rw [e3, gi_si, b1]
        by_cases z : i = 4
        · rw [if_pos ⟨rfl, z⟩, if_pos z]
        · rw [if_neg (fun y => z y.2), if_neg z]
    · rintro m' j v _ hj ⟨b1, b2, b3⟩ kk
      unfold p_X11_plain_L26
      rw [show ((12 : Int32) ≤ nI j) = (12 ≤ j) from cLE (a := 12) (by omega) (by omega), show ((0 : Int32) + (135 : Int32)) = nI 135 from by decide, cA, cCL (by omega)]
      refine ⟨fun z => absurd z (by omega), fun _ => ⟨cIN (by omega) (by omega), fun u5 e5 x6 e6 => ?_⟩⟩
      rw [l_1, cA] at e6
      rw [e6]
      refine kk u5 ⟨fun i => ?_, fun k hk => ?_, by rw [e5]; exact b3⟩
      · rw [e5, gi_si]
        by_cases e : i = 135 + j
        · rw [if_pos ⟨rfl, e⟩, if_pos (by omega)]
        · rw [if_neg (fun y => e y.2), b1]
          by_cases y : 135 ≤ i ∧ i < 135 + j
          · rw [if_pos y, if_pos (by omega)]
          · rw [if_neg y, if_neg (by omega)]
      · rw [e5]
        show (if k = 273 then _ else _) = _
        rw [if_neg hk]
        exact b2 k hk
  · rintro m j w _ hj ⟨a1, a2, a3⟩ kk
    unfold p_X11_plain_L2
    rw [show ((524 : Int32) ≤ nI j) = (524 ≤ j) from cLE (a := 524) (by omega) (by omega), show ((0 : Int32) + nI j) = nI j from by rw [show (0 : Int32) = nI 0 from rfl, cA, Nat.zero_add], cCL (by omega)]
    refine ⟨fun z => absurd z (by omega), fun _ => ⟨cIN (by omega) (by omega), fun u3 e3 x4 e4 => ?_⟩⟩
    rw [l_1, cA] at e4
    rw [e4]
    refine kk u3 ⟨fun i => ?_, fun k hk => ?_, by rw [e3]; exact a3⟩
    · rw [e3, gi_si]
      by_cases e : i = j
      · rw [if_pos ⟨rfl, e⟩]
      · rw [if_neg (fun y => e y.2)]; exact a1 i
    · rw [e3]
      show (if k = 273 then _ else _) = _
      rw [if_neg hk]
      exact a2 k hk
theorem mz_z {j k : Nat} (h : spI.contains k = false) : (mz j).1 k = fun _ => 0 := by
  have h' : k ∉ spI := by simpa using h
  unfold spI at h'
  simp only [List.mem_cons, List.not_mem_nil, or_false, not_or] at h'
  show (if k = 273 then (fun _ => (0 : Int32)) else if k = 276 then (fun i => if i < j then -1 else 0) else uI.1 k) = _
  rw [if_neg (by omega), if_neg (by omega)]
  exact uI_1 h
theorem mz_276 : (mz 0).1 276 = fun _ => 0 := by
  show (if (276 : Nat) = 273 then (fun _ => (0 : Int32)) else if (276 : Nat) = 276 then (fun i => if i < 0 then -1 else 0) else uI.1 276) = _
  rw [if_neg (by omega), if_pos rfl]
  funext i
  exact if_neg (Nat.not_lt_zero i)
theorem mz_273 (j : Nat) : (mz j).1 273 = fun _ => 0 := by
  show (if (273 : Nat) = 273 then (fun _ => (0 : Int32)) else if (273 : Nat) = 276 then (fun i => if i < j then -1 else 0) else uI.1 273) = _
  rw [if_pos rfl]
