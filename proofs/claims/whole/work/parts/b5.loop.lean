/-! ===== the law's loop ===== -/
section LAWL
variable {p : Program} {l : Launch} {e : Env} {s : State} {m : MethodId} {below : List Frame} {meth : Method} {c : Code} {Q : State → Prop}
variable {g : xG} {b L : Nat} {xs : Nat → Int32} {ad : Nat → Nat} {q0 q1 : Nat}
theorem nI_toI {n : Nat} (h : n < 2147483648) : (nI n).toInt = n := by
  rw [nI_iI]
  exact Int32.toInt_ofInt_of_le (by omega) (by omega)
set_option maxHeartbeats 4000000 in
theorem lw_loop (hend : ∀ (H : Heap) (locs : List Loc) (ls : Array Slot), va_S (lwA s) s.heap H locs → W p l e room_1 s m #[Value.ref b] below meth c H locs 290 15295 Q (F0 m 2212 ls [])) (X : L_C p s m meth c g b L xs) (hq0 : ad 0 = q0) (hq1 : ad 272 = q1) : ∀ (n i : Nat) (u : xM) (H : Heap) (locs : List Loc) (ls : Array Slot), L + 6 ≤ i + 6 * n → i ≤ L → y_W g (lwA s) [] ad KA u s.heap H locs → INV u → lv_has ls 4 (lwL b q0 q1 i) → W p l e room_1 s m #[Value.ref b] below meth c H locs 290 15295 Q (F0 m 18 ls []) := by
  have hx := X.1.1.1
  have hb := X.1.1.2.1
  have hX := X.2.1
  have hbl := X.2.2.1
  have hL := X.2.2.2
  intro n
  induction n with
  | zero => intro i u H locs ls h1 h2; omega
  | succ n ih =>
    intro i u H locs ls h1 h2 hw I hl
    refine lv_iload_n hx hb dL_law_18 rfl (lv_at hl 3 rfl) ?_
    refine lv_aload_n hx hb dL_law_19 rfl (lv_at hl 0 rfl) ?_
    refine va_slen (A := lwA s) hx hb hX hbl (Nat.not_le.mpr hbl) hw.2.2 dL_law_20 ?_
    refine lv_bipush (v := 6) hx hb dL_law_21 (by decide) ?_
    refine lv_isub hx hb dL_law_23 ?_
    have ec : (((Int32.ofNat L) - (6 : Int32) : Int32) < nI i) = (L < i + 6) := by
      rw [show Int32.ofNat L = nI L from rfl, nI_iI, nI_iI, show (6 : Int32) = iI 6 from rfl, iI_sub, iI_lt (by omega) (by omega) (by omega) (by omega)]
      exact propext ⟨fun z => by omega, fun z => by omega⟩
    refine lv_icmp_gt (tgt := 2212) hx hb dL_law_24 (by decide) (fun _ => hend _ _ _ hw.2.2) (fun z => ?_)
    rw [ec] at z
    refine lv_aload_n hx hb dL_law_27 rfl (lv_at hl 0 rfl) ?_
    refine lv_iload_n hx hb dL_law_28 rfl (lv_at hl 3 rfl) ?_
    refine L_at X hw.2.2 (i := i) (k := 0) (by omega) rfl dL_law_29 ?_
    refine lv_bipush (v := 127) hx hb dL_law_30 (by decide) ?_
    refine lv_iand hx hb dL_law_32 ?_
    obtain ⟨a, ha⟩ := nI_sur (xs (i + 0))
    have en : xs (i + 0) &&& (127 : Int32) = nI (a &&& 127) := by rw [ha, show (127 : Int32) = nI 127 from rfl, bAND]
    have hn : a &&& 127 ≤ 127 := Nat.and_le_right
    rw [en]
    generalize a &&& 127 = n' at hn
    have kk : ∀ (u' : xM) (H' : Heap) (locs' : List Loc), y_W g (lwA s) [] ad KA u' s.heap H' locs' → INV u' → W p l e room_1 s m #[Value.ref b] below meth c H' locs' 290 15295 Q (F0 m 2206 ls []) := fun u' H' locs' hw' I' => by
      refine lv_iinc (v := nI (i + 6)) (lv' := [(3, .int (nI (i + 6))), (0, .ref b), (1, .ref q0), (2, .ref q1)]) hx hb dL_law_2206 hl (k := 3) rfl (cA i 6) (by decide) rfl (fun ls hl => ?_)
      refine lv_goto (tgt := 18) hx hb dL_law_2209 (by decide) ?_
      exact ih (i + 6) u' H' locs' ls (by omega) (by omega) hw' I' (lv_sub hl [1, 2, 3, 0] rfl)
    by_cases c1 : n' < 24
    · exact lw_all0 X hw I hq0 hq1 hl (by omega) kk (by omega)
    · by_cases c2 : n' < 48
      · exact lw_all1 X hw I hq0 hq1 hl (by omega) kk (by omega)
      · by_cases c3 : n' < 71
        · exact lw_all2 X hw I hq0 hq1 hl (by omega) kk (by omega)
        · exact lv_tableOut (tgt := 2206) hx hb dL_law_33 (Or.inr (by rw [nI_toI (by omega)]; omega)) (by decide) (kk u H locs hw I)
end LAWL
