/-! ===== the land as numbers: 0 rooms, 1 doors, 2 errands, 3 hour; by room 4 floor, 5 area, 6 bears, 7 pump, 8 water, 9 mark; by door 10 first, 11 second (7 the sea), 12 sill, 13 wide, 14 leaks; by errand 15 door, 16 from, 17 to; by hour 18 tide, 19 rota (doors); 20 held, 21 walled, 22 drowned, 23 hours of pumps ===== -/
abbrev aS : Type := Nat → Nat → Nat
def sU (σ : aS) (f i v : Nat) : aS := fun a b => if a = f ∧ b = i then v else σ a b
def sF (σ : aS) (f : Nat) (w : Nat → Nat) : aS := fun a b => if a = f then w b else σ a b
theorem sU_at (σ : aS) (f i v a b : Nat) : sU σ f i v a b = if a = f ∧ b = i then v else σ a b := rfl
theorem sF_at (σ : aS) (f : Nat) (w : Nat → Nat) (a b : Nat) : sF σ f w a b = if a = f then w b else σ a b := rfl
def dep (σ : aS) (r : Nat) : Nat := σ 8 r / σ 5 r
def hod (σ : aS) : Nat := σ 3 0 % 12
def sur (σ : aS) (e : Nat) : Nat := if e < 7 then σ 4 e + dep σ e else σ 18 (hod σ)
def sA (σ : aS) (d : Nat) : Nat := sur σ (σ 10 d)
def sB (σ : aS) (d : Nat) : Nat := sur σ (σ 11 d)
def drv (σ : aS) (d : Nat) : Nat := min (max (sA σ d) (sB σ d) - σ 12 d) (max (sA σ d) (sB σ d) - min (sA σ d) (sB σ d))
def fop (σ : aS) (d : Nat) : Nat := drv σ d * σ 13 d
def fsh (σ : aS) (d : Nat) : Nat := if (σ 21 0).testBit d then 0 else min (fop σ d) (σ 14 d)
def flo (op : Nat) (σ : aS) (d : Nat) : Nat := if op.testBit d then fop σ d else fsh σ d
def sgn (σ : aS) (d n : Nat) : Int := if sB σ d ≤ sA σ d then (n : Int) else -(n : Int)
def sfl (op : Nat) (σ : aS) (d : Nat) : Int := sgn σ d (flo op σ d)
def opn (σ : aS) : Nat := ndf (σ 20 0 ||| σ 19 (hod σ)) (σ 21 0)
/-- water through the doors, one after the other -/
def pFr (fl : Nat → Int) (F T : Nat → Nat) (d : Nat) : Nat := if 0 ≤ fl d then F d else T d
def pTo (fl : Nat → Int) (F T : Nat → Nat) (d : Nat) : Nat := if 0 ≤ fl d then T d else F d
def pAm (fl : Nat → Int) (F T : Nat → Nat) (d : Nat) (w : Nat → Nat) : Nat := if pFr fl F T d < 7 then min (fl d).natAbs (w (pFr fl F T d)) else (fl d).natAbs
def pW1 (fl : Nat → Int) (F T : Nat → Nat) (d : Nat) (w : Nat → Nat) : Nat → Nat := fun r => if r = pFr fl F T d then w r - pAm fl F T d w else w r
def pW (fl : Nat → Int) (F T : Nat → Nat) (d : Nat) (w : Nat → Nat) : Nat → Nat := fun r => if r = pTo fl F T d then min 9999 (pW1 fl F T d w r + pAm fl F T d w) else pW1 fl F T d w r
def aW (fl : Nat → Int) (F T : Nat → Nat) (w0 : Nat → Nat) : Nat → (Nat → Nat)
  | 0 => w0
  | n + 1 => pW fl F T n (aW fl F T w0 n)
def pas (op : Nat) (σ : aS) (d : Nat) : Nat := pAm (sfl op σ) (σ 10) (σ 11) d (aW (sfl op σ) (σ 10) (σ 11) (σ 8) d)
def wat (op : Nat) (pu : Bool) (σ : aS) (r : Nat) : Nat := aW (sfl op σ) (σ 10) (σ 11) (σ 8) (σ 1 0) r - (if pu then σ 7 r else 0)
def dpt (op : Nat) (pu : Bool) (σ : aS) (r : Nat) : Nat := wat op pu σ r / σ 5 r
def drw (op : Nat) (pu : Bool) (σ : aS) : Nat := σ 22 0 ||| mk (fun r => decide (σ 6 r < dpt op pu σ r)) (σ 0 0)
/-- an hour goes by -/
def stp (op : Nat) (pu : Bool) (σ : aS) : aS := fun f i =>
  if f = 3 then σ 3 i + 1
  else if f = 8 then (if i < σ 0 0 then wat op pu σ i else σ 8 i)
  else if f = 9 then (if i < σ 0 0 then max (σ 9 i) (dpt op pu σ i) else σ 9 i)
  else if f = 22 then (if i = 0 then drw op pu σ else σ 22 i)
  else σ f i
/-- an hour of the class: rota, hands, walls; pumps by their hours -/
def hr1 (σ : aS) : aS := stp (opn σ) ((σ 23 0).testBit (hod σ)) σ
def hrs : Nat → aS → aS
  | 0, σ => σ
  | n + 1, σ => hr1 (hrs n σ)
def sumN (w : Nat → Nat) : Nat → Nat
  | 0 => 0
  | n + 1 => sumN w n + w n
def allW (σ : aS) : Nat := sumN (σ 8) (σ 0 0)
/-- what a land is within -/
def okS (σ : aS) : Prop := σ 0 0 ≤ 7 ∧ σ 1 0 ≤ 10 ∧ σ 2 0 ≤ 4 ∧ σ 3 0 ≤ 20000 ∧ (∀ r, r < σ 0 0 → σ 4 r ≤ 99 ∧ 1 ≤ σ 5 r ∧ σ 5 r ≤ 20 ∧ 1 ≤ σ 6 r ∧ σ 6 r ≤ 99 ∧ σ 7 r ≤ 99 ∧ σ 8 r ≤ 9999 ∧ σ 9 r ≤ 9999) ∧
  (∀ d, d < σ 1 0 → (σ 10 d < σ 0 0 ∨ σ 10 d = 7) ∧ (σ 11 d < σ 0 0 ∨ σ 11 d = 7) ∧ σ 10 d ≠ σ 11 d ∧ σ 12 d ≤ 99 ∧ 1 ≤ σ 13 d ∧ σ 13 d ≤ 9 ∧ σ 14 d ≤ 9) ∧ (∀ e, e < σ 2 0 → σ 15 e < σ 1 0 ∧ σ 16 e ≤ σ 17 e ∧ σ 17 e ≤ 11) ∧
  (∀ h, h < 12 → σ 18 h ≤ 99 ∧ σ 19 h < 2 ^ σ 1 0) ∧ σ 20 0 < 2 ^ σ 1 0 ∧ σ 21 0 < 2 ^ σ 1 0 ∧ σ 22 0 < 2 ^ σ 0 0 ∧ σ 23 0 < 4096
section OK
variable {σ : aS}
theorem okS.r (h : okS σ) : σ 0 0 ≤ 7 := h.1
theorem okS.d (h : okS σ) : σ 1 0 ≤ 10 := h.2.1
theorem okS.e (h : okS σ) : σ 2 0 ≤ 4 := h.2.2.1
theorem okS.h (h : okS σ) : σ 3 0 ≤ 20000 := h.2.2.2.1
theorem okS.rm (h : okS σ) {r : Nat} (hr : r < σ 0 0) : σ 4 r ≤ 99 ∧ 1 ≤ σ 5 r ∧ σ 5 r ≤ 20 ∧ 1 ≤ σ 6 r ∧ σ 6 r ≤ 99 ∧ σ 7 r ≤ 99 ∧ σ 8 r ≤ 9999 ∧ σ 9 r ≤ 9999 := h.2.2.2.2.1 r hr
theorem okS.dr (h : okS σ) {d : Nat} (hd : d < σ 1 0) : (σ 10 d < σ 0 0 ∨ σ 10 d = 7) ∧ (σ 11 d < σ 0 0 ∨ σ 11 d = 7) ∧ σ 10 d ≠ σ 11 d ∧ σ 12 d ≤ 99 ∧ 1 ≤ σ 13 d ∧ σ 13 d ≤ 9 ∧ σ 14 d ≤ 9 := h.2.2.2.2.2.1 d hd
theorem okS.er (h : okS σ) {e : Nat} (he : e < σ 2 0) : σ 15 e < σ 1 0 ∧ σ 16 e ≤ σ 17 e ∧ σ 17 e ≤ 11 := h.2.2.2.2.2.2.1 e he
theorem okS.hr (h : okS σ) {k : Nat} (hk : k < 12) : σ 18 k ≤ 99 ∧ σ 19 k < 2 ^ σ 1 0 := h.2.2.2.2.2.2.2.1 k hk
theorem okS.held (h : okS σ) : σ 20 0 < 2 ^ σ 1 0 := h.2.2.2.2.2.2.2.2.1
theorem okS.walled (h : okS σ) : σ 21 0 < 2 ^ σ 1 0 := h.2.2.2.2.2.2.2.2.2.1
theorem okS.drowned (h : okS σ) : σ 22 0 < 2 ^ σ 0 0 := h.2.2.2.2.2.2.2.2.2.2.1
theorem okS.ph (h : okS σ) : σ 23 0 < 4096 := h.2.2.2.2.2.2.2.2.2.2.2
theorem okS.p10 (h : okS σ) : 2 ^ σ 1 0 ≤ 1024 := p2le h.d
theorem okS.p7 (h : okS σ) : 2 ^ σ 0 0 ≤ 128 := p2le h.r
theorem hod_lt (σ : aS) : hod σ < 12 := Nat.mod_lt _ (by omega)
theorem dep_le (h : okS σ) {r : Nat} (hr : r < σ 0 0) : dep σ r ≤ 9999 := by
  have := h.rm hr
  exact Nat.le_trans (Nat.div_le_self _ _) this.2.2.2.2.2.2.1
theorem sur_le (h : okS σ) {e : Nat} (he : e < σ 0 0 ∨ e = 7) : sur σ e ≤ 10098 := by
  unfold sur
  rcases he with he | rfl
  · have h7 := h.r
    rw [if_pos (by omega)]
    have := dep_le h he
    have := (h.rm he).1
    omega
  · rw [if_neg (by omega)]
    have := (h.hr (hod_lt σ)).1
    omega
theorem drv_le (h : okS σ) {d : Nat} (hd : d < σ 1 0) : drv σ d ≤ 10098 := by
  have h1 : sA σ d ≤ 10098 := sur_le h (h.dr hd).1
  have h2 : sB σ d ≤ 10098 := sur_le h (h.dr hd).2.1
  unfold drv
  omega
theorem fop_le (h : okS σ) {d : Nat} (hd : d < σ 1 0) : fop σ d ≤ 90882 := by
  have h1 := drv_le h hd
  have h2 := (h.dr hd).2.2.2.2.2.1
  have := Nat.mul_le_mul h1 h2
  unfold fop
  omega
theorem fsh_le (h : okS σ) {d : Nat} (hd : d < σ 1 0) : fsh σ d ≤ 9 := by
  unfold fsh
  have := (h.dr hd).2.2.2.2.2.2
  split <;> omega
theorem flo_le (h : okS σ) {d : Nat} (hd : d < σ 1 0) (op : Nat) : flo op σ d ≤ 90882 := by
  unfold flo
  have := fop_le h hd
  have := fsh_le h hd
  split <;> omega
theorem opn_lt (h : okS σ) : opn σ < 2 ^ σ 1 0 := Nat.lt_of_le_of_lt (ndf_le _ _) (or_lt2 h.held (h.hr (hod_lt σ)).2)
theorem pW_le {fl : Nat → Int} {F T : Nat → Nat} {d : Nat} {w : Nat → Nat} {r : Nat} (h : w r ≤ 9999) : pW fl F T d w r ≤ 9999 := by
  unfold pW pW1
  split
  · omega
  · split <;> omega
theorem aW_le {fl : Nat → Int} {F T : Nat → Nat} {w0 : Nat → Nat} {r : Nat} (h : w0 r ≤ 9999) (n : Nat) : aW fl F T w0 n r ≤ 9999 := by
  induction n with
  | zero => exact h
  | succ n ih => exact pW_le ih
theorem wat_le (h : okS σ) {r : Nat} (hr : r < σ 0 0) (op : Nat) (pu : Bool) : wat op pu σ r ≤ 9999 := by
  have := aW_le (fl := sfl op σ) (F := σ 10) (T := σ 11) (h.rm hr).2.2.2.2.2.2.1 (σ 1 0)
  unfold wat
  omega
theorem dpt_le (h : okS σ) {r : Nat} (hr : r < σ 0 0) (op : Nat) (pu : Bool) : dpt op pu σ r ≤ 9999 := Nat.le_trans (Nat.div_le_self _ _) (wat_le h hr op pu)
theorem stp_ok (h : okS σ) (hh : σ 3 0 < 20000) (op : Nat) (pu : Bool) : okS (stp op pu σ) := by
  refine ⟨h.r, h.d, h.e, ?_, fun r hr => ?_, fun d hd => h.dr hd, fun e he => h.er he, fun k hk => h.hr hk, h.held, h.walled, ?_, h.ph⟩
  · show σ 3 0 + 1 ≤ 20000
    omega
  · have hr : r < σ 0 0 := hr
    have := h.rm hr
    have h1 := wat_le h hr op pu
    have h2 := dpt_le h hr op pu
    refine ⟨this.1, this.2.1, this.2.2.1, this.2.2.2.1, this.2.2.2.2.1, this.2.2.2.2.2.1, ?_, ?_⟩
    · show (if r < σ 0 0 then wat op pu σ r else σ 8 r) ≤ 9999
      rw [if_pos hr]; exact h1
    · show (if r < σ 0 0 then max (σ 9 r) (dpt op pu σ r) else σ 9 r) ≤ 9999
      rw [if_pos hr]; omega
  · show drw op pu σ < 2 ^ σ 0 0
    exact or_lt2 h.drowned (mk_lt _ _)
theorem stp_hour (op : Nat) (pu : Bool) (σ : aS) : stp op pu σ 3 0 = σ 3 0 + 1 := rfl
theorem hrs_hour (n : Nat) (σ : aS) : hrs n σ 3 0 = σ 3 0 + n := by
  induction n with
  | zero => rfl
  | succ n ih =>
    show hrs n σ 3 0 + 1 = _
    rw [ih]; omega
theorem hrs_ok (h : okS σ) (n : Nat) (hh : σ 3 0 + n ≤ 20000) : okS (hrs n σ) := by
  induction n with
  | zero => exact h
  | succ n ih => exact stp_ok (ih (by omega)) (by rw [hrs_hour]; omega) _ _
theorem sumN_le {w : Nat → Nat} {n b : Nat} (h : ∀ i, i < n → w i ≤ b) : sumN w n ≤ n * b := by
  induction n with
  | zero => simp [sumN]
  | succ n ih =>
    have h1 := ih (fun i hi => h i (by omega))
    have h2 := h n (by omega)
    have h3 : (n + 1) * b = n * b + b := Nat.succ_mul n b
    simp only [sumN]
    omega
theorem allW_le (h : okS σ) : allW σ ≤ 69993 := by
  have h1 := sumN_le (n := σ 0 0) (fun r hr => (h.rm hr).2.2.2.2.2.2.1)
  have h2 := h.r
  have h3 : σ 0 0 * 9999 ≤ 7 * 9999 := Nat.mul_le_mul_right _ h2
  unfold allW
  omega
end OK
