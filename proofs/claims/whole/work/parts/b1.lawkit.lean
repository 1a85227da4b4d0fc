/-! ===== the law's own rows ===== -/
def KA : List Nat := KX ++ KM
theorem KA_x : ∀ k, k < 272 → k ∈ KA := by decide +kernel
theorem KA_m0 : ∀ k, k < 290 → 272 ≤ k → k ∈ KA := by decide +kernel
theorem KA_m : ∀ k, 272 ≤ k → k < 290 → k ∈ KA := fun k h1 h2 => KA_m0 k h2 h1
theorem KA_nd : va_nd KA = true := by decide +kernel
theorem k_X : x_kind 0 = (20, 19) := by decide +kernel
theorem k_M : x_kind 272 = (21, 44) := by decide +kernel
def lwA (s : State) : Nat → Prop := fun q => s.heap.size ≤ q
def L_C (p : Program) (s : State) (m : MethodId) (meth : Method) (c : Code) (g : xG) (b L : Nat) (xs : Nat → Int32) : Prop := y_C p s m #[Value.ref b] meth c g (lwA s) RL cL_law 4 ∧ va_X b L xs s s.heap ∧ b < s.heap.size ∧ L ≤ 3072
abbrev lwL (b q0 q1 i : Nat) : List (Nat × Value) := [(0, .ref b), (1, .ref q0), (2, .ref q1), (3, .int (nI i))]
section LAWK
variable {p : Program} {l : Launch} {e : Env} {s : State} {m : MethodId} {below : List Frame} {meth : Method} {c : Code} {H : Heap} {locs : List Loc} {cells slots : Nat} {Q : State → Prop}
variable {pc : Nat} {ls : Array Slot} {rest : List Value} {g : xG} {u : xM} {b L : Nat} {xs : Nat → Int32} {ad : Nat → Nat} {Ks : List Nat} {q0 q1 i k : Nat}
theorem L_at (X : L_C p s m meth c g b L xs) (hS : va_S (lwA s) s.heap H locs) (hk : i + k < L) {v : Int32} (hv : v = nI (i + k)) (hd : decode cL_law pc = .ok (.iaload, 1)) (kk : W p l e room_1 s m #[Value.ref b] below meth c H locs cells slots Q (F0 m (pc + 1) ls (.int (xs (i + k)) :: rest))) : W p l e room_1 s m #[Value.ref b] below meth c H locs cells slots Q (F0 m pc ls (.int v :: .ref b :: rest)) := by
  obtain ⟨C, hX, hbl, hL⟩ := X
  subst hv
  have e : (nI (i + k)).toNatClampNeg = i + k := cCL (by omega)
  refine va_sld (A := lwA s) C.1.1 C.1.2.1 hX hbl (Nat.not_le.mpr hbl) hS (cIN hk (by omega)) hd ?_
  rw [e]
  exact kk
theorem L_arg (X : L_C p s m meth c g b L xs) (hS : va_S (lwA s) s.heap H locs) (hl : lv_has ls 4 (lwL b q0 q1 i)) (k : Nat) (hk : i + k < L) {n : Int} (hn : Int32.ofInt n = nI k) (d0 : decode cL_law pc = .ok (.aload_n 0, 1)) (d1 : decode cL_law (pc + 1) = .ok (.iload_n 3, 1)) (d2 : decode cL_law (pc + 2) = .ok (.iconst n, 1)) (d3 : decode cL_law (pc + 3) = .ok (.iadd, 1)) (d4 : decode cL_law (pc + 4) = .ok (.iaload, 1))
    (kk : W p l e room_1 s m #[Value.ref b] below meth c H locs cells slots Q (F0 m (pc + 5) ls (.int (xs (i + k)) :: rest))) : W p l e room_1 s m #[Value.ref b] below meth c H locs cells slots Q (F0 m pc ls rest) := by
  have hx := X.1.1.1
  have hb := X.1.1.2.1
  refine lv_aload_n hx hb d0 rfl (lv_at hl 0 rfl) ?_
  refine lv_iload_n hx hb d1 rfl (lv_at hl 3 rfl) ?_
  refine lv_iconst hx hb d2 hn ?_
  refine lv_iadd hx hb d3 ?_
  exact L_at X hS hk (cA i k) d4 kk
theorem L_bool (X : L_C p s m meth c g b L xs) {v : Int32} (d0 : decode cL_law pc = .ok (.ifCond .eq 7, 3)) (d1 : decode cL_law (pc + 3) = .ok (.iconst 1, 1)) (d2 : decode cL_law (pc + 4) = .ok (.goto 4, 3)) (d3 : decode cL_law (pc + 7) = .ok (.iconst 0, 1))
    (kk : W p l e room_1 s m #[Value.ref b] below meth c H locs cells slots Q (F0 m (pc + 8) ls (.int (xb (decide (v ≠ 0))) :: rest))) : W p l e room_1 s m #[Value.ref b] below meth c H locs cells slots Q (F0 m pc ls (.int v :: rest)) := by
  have hx := X.1.1.1
  have hb := X.1.1.2.1
  refine lv_if_eq (tgt := pc + 7) hx hb d0 (by omega) (fun z => ?_) (fun z => ?_)
  · refine lv_iconst (v := 0) hx hb d3 (by decide) ?_
    rw [decide_eq_false (fun y => y z)] at kk
    exact kk
  · refine lv_iconst (v := 1) hx hb d1 (by decide) ?_
    refine lv_goto (tgt := pc + 8) hx hb d2 (by omega) ?_
    rw [decide_eq_true z] at kk
    exact kk
theorem lg_self (a : Int64) : lg_cmp a a = 0 := by rw [lg_cmp_eq]
end LAWK
